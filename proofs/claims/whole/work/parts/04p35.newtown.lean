/-! PURE: the town that was read takes its place -/
theorem tell_eq {st : Nat → Int32} {size g hi f d : Int32} {u : Nat → Int32} (h0 : st 0 = -3) (h1 : st 1 = 1) (h2 : st 2 = -11) (hs : size = 3) : ∃ u', m_X3_tell st u size g hi f d = some (f - 1, u') := by
  let op : Nat → Int32 := fun i => ([2, 1, 5, 0] : List Int32).getD i 0
  let ar : Nat → Int32 := fun i => ([2, 1, 0, 0] : List Int32).getD i 0
  let hg : Nat → Nat := fun i => ([0, 1, 2, 1] : List Nat).getD i 0
  have ok : LawOK 3 st op ar hg := by
    refine ⟨rfl, rfl, by omega, rfl, fun i hi => ?_⟩
    rcases (show i = 0 ∨ i = 1 ∨ i = 2 by omega) with rfl | rfl | rfl
    · rw [h0]
      exact Or.inr (Or.inl ⟨2, by omega, by decide, rfl, rfl, by show (0 : Nat) < 21; omega, rfl⟩)
    · rw [h1]
      exact Or.inl ⟨1, by omega, rfl, rfl, rfl, by show (1 : Nat) < 21; omega, rfl⟩
    · rw [h2]
      exact Or.inr (Or.inr (Or.inr ⟨Or.inr (Or.inl ⟨rfl, rfl⟩), by show 2 ≤ (2 : Nat); omega, by show (2 : Nat) ≤ 21; omega, rfl⟩))
  let fa : Nat → Int32 := fun j => if j = 0 then g else if j = 1 then hi else if j = 2 then f else d
  obtain ⟨r, u', v', e1, e2⟩ := l_tell ok g hi f d fa u (fun _ => 0) rfl rfl rfl rfl
  have e3 : ∃ v', m_X12_worthAt op ar fa (fun _ => 0) 0 = some (f - 1, v') := by
    have hFU := FU_ge
    unfold m_X12_worthAt
    revert hFU; generalize FU = fu; intro hFU
    obtain ⟨fu, rfl⟩ : ∃ k, fu = k + 4 := ⟨fu - 4, by omega⟩
    exact ⟨_, rfl⟩
  obtain ⟨v2, e3⟩ := e3
  rw [e3] at e2
  have er := (Prod.mk.inj (Option.some.inj e2)).1
  rw [hs]
  exact ⟨u', by rw [er]; exact e1⟩
/-- the law as both hold it: the old one, or steps -/
def LX (st : Nat → Int32) (size : Int32) (tf op ar : Nat → Int32) : Prop := (tf 4 = -1 ∧ size = 3 ∧ st 0 = -3 ∧ st 1 = 1 ∧ st 2 = -11) ∨ (tf 4 = 0 ∧ ∃ (z : Nat) (hg : Nat → Nat), size = nI z ∧ LawOK z st op ar hg)
theorem LX.law {st tf op ar : Nat → Int32} {size : Int32} (h : LX st size tf op ar) : ∃ Lv, HasLaw st size Lv ∧ QLaw tf op ar Lv := by
  rcases h with ⟨a1, a3, a4, a5, a6⟩ | ⟨a1, z, hg, a2, a3⟩
  · refine ⟨fun _ _ f _ => f - 1, fun u g hi f d => tell_eq a4 a5 a6 a3, fun z => ?_, fun _ _ _ _ _ => rfl⟩
    rw [a1] at z
    exact absurd z (by decide)
  · rw [a2]
    exact l_both a3 a1
theorem LX.keep {st tf op ar tf' op' ar' : Nat → Int32} {size : Int32} (h : LX st size tf op ar) (e4 : tf' 4 = tf 4) (e : ∀ k, k < 1100 → op' k = op k ∧ ar' k = ar k) : LX st size tf' op' ar' := by
  rcases h with ⟨a1, a2⟩ | ⟨a1, z, hg, a2, g0, g1, g2, g3, g4⟩
  · exact Or.inl ⟨e4.trans a1, a2⟩
  · refine Or.inr ⟨e4.trans a1, z, hg, a2, g0, g1, g2, ?_, fun i hi => ?_⟩
    · rw [(e z (by omega)).1]; exact g3
    · rw [(e i (by omega)).1, (e i (by omega)).2]; exact g4 i hi
theorem HasLaw.uniq {st : Nat → Int32} {size : Int32} {Lv Lw : Int32 → Int32 → Int32 → Int32 → Int32} (h : HasLaw st size Lv) (h' : HasLaw st size Lw) : Lv = Lw := by
  funext g hi f d
  obtain ⟨u1, e1⟩ := h (fun _ => 0) g hi f d
  obtain ⟨u2, e2⟩ := h' (fun _ => 0) g hi f d
  rw [e1] at e2
  exact (Prod.mk.inj (Option.some.inj e2)).1
theorem t_law {o : Nat} {on onc size codes : Int32} {st tf op ar tf' op' ar' : Nat → Int32} (h : DL o on onc st size tf op ar codes) (h4 : tf' 4 = tf 34) (hc : ∀ y : Nat, codes = nI y → y < 2 ^ 31 → ∀ i, i < y → op' i = op (1100 + i) ∧ ar' i = ar (1100 + i)) : LX st size tf' op' ar' := by
  obtain ⟨-, -, -, h | h⟩ := h
  · obtain ⟨-, a1, -, a3, a4, a5, a6⟩ := h
    exact Or.inl ⟨h4.trans a1, a3, a4, a5, a6⟩
  · obtain ⟨-, a1, z, a2, a3, a4, ⟨hg, g0, g1, g2⟩, a6⟩ := h
    have hc := hc (z + 1) a3 (by omega)
    refine Or.inr ⟨h4.trans a1, z, hg, a4, g0, g1, a2, ?_, fun i hi => ?_⟩
    · rw [(hc z (by omega)).1]; exact a6
    · rw [(hc i (by omega)).1, (hc i (by omega)).2]; exact g2 i hi
section ENDS
variable {tp so pl tf op ar yl sf im : Nat → Int32} {wf va nm rn : Nat → Int64} {gg : Int64} {th ta sz at_ fm codes m1 rm onc un we ro : Int32}
theorem q76 : ∀ (c i fu : Nat) (t : Nat → Int32), i + c = 30 → c < fu → (∀ j, j < i → t j = tf (30 + j)) → (∀ j, 30 ≤ j → t j = tf j) → ∃ t', (∀ j, j < 30 → t' j = tf (30 + j)) ∧ m_X12_town_76 tp wf gg fu (nI i) th ta sz at_ fm codes m1 rm onc un we ro so pl va t op ar nm rn yl sf im = m_X12_town_105 tp wf gg FU 0 th ta sz at_ fm codes m1 rm onc un we ro so pl va t' op ar nm rn yl sf im
  | 0, i, fu + 1, t, e, _, h1, h2 => by
    have : i = 30 := by omega
    subst this
    refine ⟨t, h1, ?_⟩
    rw [m_X12_town_76, if_pos (show (30 : Int32) ≤ nI 30 by decide)]
  | c + 1, i, fu + 1, t, e, hf, h1, h2 => by
    rw [m_X12_town_76, if_neg (show ¬ (30 : Int32) ≤ nI i from nI_ge (b := 30) (by omega) (by omega))]
    have e1 : (30 : Int32) + nI i = nI (30 + i) := nI_add 30 i
    rw [e1, nI_clamp (show 30 + i < 2 ^ 31 by omega), nI_clamp (show i < 2 ^ 31 by omega), if_pos (pn_in2 (show 30 + i < 60 by omega) (by omega)), if_pos (pn_in2 (show i < 60 by omega) (by omega)), nI_1]
    refine q76 c (i + 1) fu _ (by omega) (by omega) (fun j hj => ?_) (fun j hj => ?_)
    · unfold upd
      by_cases y : j = i
      · subst y; rw [if_pos rfl]; exact h2 _ (by omega)
      · rw [if_neg y]; exact h1 j (by omega)
    · unfold upd; rw [if_neg (by omega)]; exact h2 j hj
theorem q105 {y : Nat} (hy : y ≤ 1001) : ∀ (c i fu : Nat) (a b : Nat → Int32), i + c = y → c < fu → (∀ j, j < i → a j = op (1100 + j) ∧ b j = ar (1100 + j)) → (∀ j, 1100 ≤ j → a j = op j ∧ b j = ar j) → ∃ a' b', (∀ j, j < y → a' j = op (1100 + j) ∧ b' j = ar (1100 + j)) ∧ m_X12_town_105 tp wf gg fu (nI i) th ta sz at_ fm (nI y) m1 rm onc un we ro so pl va tf a b nm rn yl sf im = m_X12_town_153 tp wf gg FU 0 th ta sz at_ fm (nI y) m1 rm onc un we ro so pl va tf a' b' nm rn yl sf im
  | 0, i, fu + 1, a, b, e, _, h1, h2 => by
    have : i = y := by omega
    subst this
    refine ⟨a, b, h1, ?_⟩
    rw [m_X12_town_105, if_pos (nI_le (Nat.le_refl _) (by omega))]
  | c + 1, i, fu + 1, a, b, e, hf, h1, h2 => by
    rw [m_X12_town_105, if_neg (nI_ge (show i < y by omega) (by omega))]
    have e1 : (1100 : Int32) + nI i = nI (1100 + i) := nI_add 1100 i
    rw [e1, nI_clamp (show 1100 + i < 2 ^ 31 by omega), nI_clamp (show i < 2 ^ 31 by omega), if_pos (pn_in2 (show 1100 + i < 2200 by omega) (by omega)), if_pos (pn_in2 (show i < 2200 by omega) (by omega)), if_pos (pn_in2 (show 1100 + i < 2200 by omega) (by omega)), if_pos (pn_in2 (show i < 2200 by omega) (by omega)), nI_1]
    refine q105 hy c (i + 1) fu _ _ (by omega) (by omega) (fun j hj => ?_) (fun j hj => ?_)
    · unfold upd
      by_cases y : j = i
      · subst y; rw [if_pos rfl, if_pos rfl]; exact h2 _ (by omega)
      · rw [if_neg y, if_neg y]; exact h1 j (by omega)
    · unfold upd; rw [if_neg (by omega), if_neg (by omega)]; exact h2 j hj
theorem q153 {k : Nat} (hk : k ≤ 6) : ∀ (c i fu : Nat) (a : Nat → Int64), i + c = k → c < fu → (∀ j, j < i → a j = rn j) → ∃ a', (∀ j, j < k → a' j = rn j) ∧ m_X12_town_153 tp wf gg fu (nI i) th ta sz at_ fm codes m1 (nI k) onc un we ro so pl va tf op ar a rn yl sf im = Option.bind (m_X12_begins tf yl sf im) (fun r6 => some (0, th, ta, sz, at_, fm, codes, nI k, nI k, onc, r6.1, r6.2.1, r6.2.2.1, so, pl, va, tf, op, ar, a', rn, r6.2.2.2.1, r6.2.2.2.2.1, r6.2.2.2.2.2))
  | 0, i, fu + 1, a, e, _, h1 => by
    have : i = k := by omega
    subst this
    refine ⟨a, h1, ?_⟩
    rw [m_X12_town_153, if_pos (nI_le (Nat.le_refl _) (by omega))]
  | c + 1, i, fu + 1, a, e, hf, h1 => by
    rw [m_X12_town_153, if_neg (nI_ge (show i < k by omega) (by omega)), nI_clamp (show i < 2 ^ 31 by omega), if_pos (pn_in2 (show i < 6 by omega) (by omega)), if_pos (pn_in2 (show i < 6 by omega) (by omega)), nI_1]
    refine q153 hk c (i + 1) fu _ (by omega) (by omega) (fun j hj => ?_)
    unfold vp_updL
    by_cases y : j = i
    · rw [if_pos y, y]
    · rw [if_neg y]; exact h1 j (by omega)
theorem q_begins {G : Gm} {L F : Nat → Nat} {bl bf : Nat → Int32} {bd : Int32} (hQ : QT G tf op ar) (hB : BG G L F bl bf bd tf) : OK (m_X12_begins tf yl sf im) (fun R => R.1 = 0 ∧ R.2.1 = tf 2 ∧ R.2.2.1 = tf 3 ∧ R.2.2.2.1 0 = 0 ∧ QS G 0 L F 0 R.2.2.2.2.1 ∧ R.2.2.2.2.1 13 = 0 ∧ R.2.2.2.2.1 30 = 0 ∧ ∀ m, m < 4 → R.2.2.2.2.2 m = 0) := by
  have hFU := FU_ge
  unfold m_X12_begins m_X12_rulesAsTold
  refine OK.eq rfl (OK.bd (q_starts (b := 0) (sf := sf) hQ (by omega) hB) (fun S hS => ?_))
  revert hFU; generalize FU = fu; intro hFU
  obtain ⟨fu, rfl⟩ : ∃ k, fu = k + 5 := ⟨fu - 5, by omega⟩
  refine ⟨_, rfl, rfl, rfl, rfl, rfl, ?_, rfl, rfl, fun m hm => ?_⟩
  · refine QS.same hQ.1 hS.1 (fun k h1 h2 => ?_)
    show upd (upd S 13 0) 30 0 k = S k
    unfold upd
    rw [if_neg (by omega), if_neg (by omega)]
  · rcases (show m = 0 ∨ m = 1 ∨ m = 2 ∨ m = 3 by omega) with rfl | rfl | rfl | rfl <;> rfl
theorem q_stands : ∀ (c i fu : Nat) (t : Nat → Int32), i + c = 30 → c < fu → (∀ j, j < i → t (30 + j) = 0) → (∀ j, j < 30 → t j = tf j) → OK (m_X12_standsAsAlways_2 30 fu (nI i) t) (fun R => (∀ j, j < 30 → R j = tf j) ∧ R 31 = 40 ∧ R 32 = 6 ∧ R 34 = -1 ∧ ∀ j, 30 ≤ j → j < 60 → ¬ j = 31 → ¬ j = 32 → ¬ j = 34 → R j = 0)
  | 0, i, fu + 1, t, e, _, h1, h2 => by
    have : i = 30 := by omega
    subst this
    rw [m_X12_standsAsAlways_2]
    refine OK.pos (by decide) (OK.pos (by decide) (OK.pos (by decide) (OK.pos (by decide) (OK.ret ⟨fun j hj => ?_, rfl, rfl, rfl, fun j a1 a2 a3 a4 a5 => ?_⟩))))
    · show upd (upd (upd t 31 40) 32 6) 34 (-1) j = tf j
      unfold upd; rw [if_neg (by omega), if_neg (by omega), if_neg (by omega)]; exact h2 j hj
    · show upd (upd (upd t 31 40) 32 6) 34 (-1) j = 0
      unfold upd; rw [if_neg (by omega), if_neg (by omega), if_neg (by omega), show j = 30 + (j - 30) by omega]; exact h1 _ (by omega)
  | c + 1, i, fu + 1, t, e, hf, h1, h2 => by
    rw [m_X12_standsAsAlways_2]
    have e1 : (30 : Int32) + nI i = nI (30 + i) := nI_add 30 i
    rw [e1, nI_clamp (show 30 + i < 2 ^ 31 by omega), nI_1]
    refine OK.neg (show ¬ (30 : Int32) ≤ nI i from nI_ge (b := 30) (by omega) (by omega)) (OK.pos (pn_in2 (by omega) (by omega)) (q_stands c (i + 1) fu _ (by omega) (by omega) (fun j hj => ?_) (fun j hj => ?_)))
    · unfold upd
      by_cases y : j = i
      · rw [if_pos (by omega)]
      · rw [if_neg (by omega)]; exact h1 j (by omega)
    · unfold upd; rw [if_neg (by omega)]; exact h2 j hj
theorem c_clear8 {bl bf st : Nat → Int32} : OK (m_X8_clear bl bf st) (fun R => R.1 = 0 ∧ R.2.1 = 40 ∧ R.2.2.1 = 6 ∧ R.2.2.2.1 = 0 ∧ R.2.2.2.2.1 = 0 ∧ R.2.2.2.2.2.1 = 0 ∧ (∀ j, j < 6 → R.2.2.2.2.2.2.1 j = 0) ∧ (∀ j, j < 6 → R.2.2.2.2.2.2.2.1 j = 0) ∧ R.2.2.2.2.2.2.2.2.1 = 3 ∧ R.2.2.2.2.2.2.2.2.2 0 = -3 ∧ R.2.2.2.2.2.2.2.2.2 1 = 1 ∧ R.2.2.2.2.2.2.2.2.2 2 = -11) := by
  unfold m_X8_clear m_X6_clear m_X3_useOldLaw
  simp only [Option.bind_assoc]
  refine OK.bd (fill_ok (by omega)) (fun A hA => OK.bd (fill_ok (by omega)) (fun B hB => OK.eq rfl ?_))
  exact OK.eq (a := 0) rfl (OK.eq (a := (1, upd st 0 (-3))) rfl (OK.eq (a := (2, upd (upd st 0 (-3)) 1 1)) rfl (OK.eq (a := (3, upd (upd (upd st 0 (-3)) 1 1) 2 (-11))) rfl (OK.eq rfl (OK.ret ⟨rfl, rfl, rfl, rfl, rfl, rfl, hA, hB, rfl, rfl, rfl, rfl⟩)))))
end ENDS
section NEWTOWN
variable {Z N : Nat} {T P : Nat → Nat} {sg tp so pl stk : Nat → Int32} {ln : Int32} {va wf nm : Nat → Int64} {th ta sz m1 un we ro : Int32} {gg : Int64} {yl sf im : Nat → Int32}
/-- a new town, as both hold it -/
def NT (G : Gm) (w r : Nat) (L F : Nat → Nat) (ps mast wv rv : Int32) (nf : Nat → Int64) (kf : Nat → Int32) (bd : Int32) (bl bf : Nat → Int32) (size : Int32) (st : Nat → Int32) (m1 un we ro : Int32) (tf op ar : Nat → Int32) (nm : Nat → Int64) (yl sf im : Nat → Int32) : Prop :=
  CT G kf st size ps mast ∧ QT G tf op ar ∧ wOK w r ∧ wv = nI w ∧ rv = nI r ∧ tf 2 = nI w ∧ tf 3 = nI r ∧ we = nI w ∧ ro = nI r ∧ BG G L F bl bf bd tf ∧ NMr G.1 nf nm ∧ m1 = nI G.1 ∧ un = 0 ∧ yl 0 = 0 ∧ QS G 0 L F 0 sf ∧ sf 13 = 0 ∧ sf 30 = 0 ∧ (∀ m, m < 4 → im m = 0) ∧ LX st size tf op ar
/-- what reading a town hands back -/
def TQ (th ta sz m1 un we ro : Int32) (tf0 op0 ar0 : Nat → Int32) (nm : Nat → Int64) (yl sf im : Nat → Int32) (R : CT21) (R' : QT24) : Prop :=
  R.1 = R'.1 ∧ R.2.2.2.2.2.2.2.2.2.2.2.2.2.1 = 0 ∧ R'.2.1 = th ∧ R'.2.2.1 = ta ∧ R'.2.2.2.1 = sz ∧
  ((¬ R.1 = 0 ∧ ∃ at' fm' co rm' onc' so' pl' va' tf' op' ar' rn', R' = (R'.1, th, ta, sz, at', fm', co, m1, rm', onc', un, we, ro, so', pl', va', tf', op', ar', nm, rn', yl, sf, im) ∧ (∀ k, k < 1100 → op' k = op0 k ∧ ar' k = ar0 k) ∧ ∀ k, k < 30 → tf' k = tf0 k) ∨
   (R.1 = 0 ∧ ∃ (G : Gm) (w r : Nat) (L F : Nat → Nat), ∃ at' fm' co m1' rm' onc' un' we' ro' so' pl' va' tf' op' ar' nm' rn' yl' sf' im', R' = (0, th, ta, sz, at', fm', co, m1', rm', onc', un', we', ro', so', pl', va', tf', op', ar', nm', rn', yl', sf', im') ∧ NT G w r L F R.2.1 R.2.2.1 R.2.2.2.1 R.2.2.2.2.1 R.2.2.2.2.2.2.1 R.2.2.2.2.2.2.2.1 R.2.2.2.2.2.2.2.2.1 R.2.2.2.2.2.2.2.2.2.1 R.2.2.2.2.2.2.2.2.2.2.1 R.2.2.2.2.2.2.2.2.2.2.2.1 R.2.2.2.2.2.2.2.2.2.2.2.2.1 m1' un' we' ro' tf' op' ar' nm' yl' sf' im'))
theorem t_end {tf0 op0 ar0 : Nat → Int32} (n : Nat) (ps mast wv rv on : Int32) (nf : Nat → Int64) (kf bl bf : Nat → Int32) (size : Int32) (st : Nat → Int32) (pc be sc nu : Int32) (le : Int64) (wd : Nat) (fa at_ fm codes rm onc : Int32) (tf op ar : Nat → Int32) (rn : Nat → Int64) (h : PA T P Z N n pc be sc nu le wd fa at_ fm) (hD : fa = 0 → DS ps rm nf rn kf bl bf tf mast wv rv on onc st size op ar codes) (hfr : ∀ k, k < 1100 → op k = op0 k ∧ ar k = ar0 k) (hft : ∀ k, k < 30 → tf k = tf0 k) : OT (m_X8_read_41 stk sg ps mast wv rv on nf kf 0 bl bf size st ln pc be sc nu le wd fa) (m_X12_town_62 tp wf gg th ta sz at_ fm codes m1 rm onc un we ro so pl va tf op ar nm rn yl sf im) (TQ th ta sz m1 un we ro tf0 op0 ar0 nm yl sf im) := by
  have hf := h.1
  have hpos := h.pos
  unfold m_X8_read_41 m_X7_clear m_X12_town_62
  rw [Option.bind_some]
  by_cases h0 : fa = 0
  · have hfm : fm = 0 := by rw [← hf]; exact h0
    obtain ⟨k, K, L, F, M, w, r, o, hP, hO, hL⟩ := hD h0
    refine OT.posR (by rw [hfm]; decide) ?_
    have hFU := FU_ge
    obtain ⟨t', ht', e1⟩ := q76 (tp := tp) (so := so) (pl := pl) (tf := tf) (op := op) (ar := ar) (yl := yl) (sf := sf) (im := im) (wf := wf) (va := va) (nm := nm) (rn := rn) (gg := gg) (th := th) (ta := ta) (sz := sz) (at_ := at_) (fm := fm) (codes := codes) (m1 := m1) (rm := rm) (onc := onc) (un := un) (we := we) (ro := ro) 30 0 FU tf (by omega) (by omega) (fun j hj => by omega) (fun j _ => rfl)
    rw [show m_X12_town_76 tp wf gg FU 0 th ta sz at_ fm codes m1 rm onc un we ro so pl va tf op ar nm rn yl sf im = _ from e1]
    obtain ⟨y, hy, hcy⟩ : ∃ y : Nat, y ≤ 1001 ∧ codes = nI y := by
      obtain ⟨-, -, -, z | z⟩ := hL
      · exact ⟨0, by omega, z.2.2.1⟩
      · obtain ⟨-, -, z, z1, z2, -⟩ := z
        exact ⟨z + 1, by omega, z2⟩
    obtain ⟨a', b', hab, e2⟩ := q105 (tp := tp) (so := so) (pl := pl) (tf := t') (op := op) (ar := ar) (yl := yl) (sf := sf) (im := im) (wf := wf) (va := va) (nm := nm) (rn := rn) (gg := gg) (th := th) (ta := ta) (sz := sz) (at_ := at_) (fm := fm) (m1 := m1) (rm := rm) (onc := onc) (un := un) (we := we) (ro := ro) hy y 0 FU op ar (by omega) (by omega) (fun j hj => by omega) (fun j _ => ⟨rfl, rfl⟩)
    rw [hcy, show m_X12_town_105 tp wf gg FU 0 th ta sz at_ fm (nI y) m1 rm onc un we ro so pl va t' op ar nm rn yl sf im = _ from e2]
    have hk6 := hP.2.2.2.1.1
    obtain ⟨nm', hnm, e3⟩ := q153 (tp := tp) (so := so) (pl := pl) (tf := t') (op := a') (ar := b') (yl := yl) (sf := sf) (im := im) (wf := wf) (va := va) (rn := rn) (gg := gg) (th := th) (ta := ta) (sz := sz) (at_ := at_) (fm := fm) (codes := nI y) (m1 := m1) (onc := onc) (un := un) (we := we) (ro := ro) hk6 k 0 FU nm (by omega) (by omega) (fun j hj => by omega)
    rw [hP.2.1, show m_X12_town_153 tp wf gg FU 0 th ta sz at_ fm (nI y) m1 (nI k) onc un we ro so pl va t' a' b' nm rn yl sf im = _ from e3]
    have hLX := t_law (tf' := t') (op' := a') (ar' := b') hL (ht' 4 (by omega)) (fun y' z1 z2 i hi => by
      have : y' = y := (nI_eq z2 (by omega)).mp (by rw [← z1, hcy])
      subst this
      exact hab i hi)
    obtain ⟨Lv, l1, l2⟩ := hLX.law
    obtain ⟨p1, p2, p3, p4, p5, p6, p7⟩ := hP
    obtain ⟨o1, o2, o3, o4, o5, o6, o7, o8⟩ := hO
    have hG : gOK (k, M, K, Lv) := ⟨hk6, o1, fun p hp => (p5 p hp).1⟩
    have hT : CT (k, M, K, Lv) kf st size ps mast := ⟨hG, p1, o3, fun p hp => (p5 p hp).2.1, l1⟩
    have hQ : QT (k, M, K, Lv) t' a' b' := ⟨hG, (ht' 0 (by omega)).trans p3, (ht' 1 (by omega)).trans o4, fun p hp => by
      have hp' : p < k := hp
      rw [ht' (5 + 3 * p) (by omega), show 30 + (5 + 3 * p) = 35 + 3 * p by omega]; exact (p5 p hp).2.2.1, l2⟩
    have hB : BG (k, M, K, Lv) L F bl bf 0 t' := ⟨⟨⟨fun p hp => (p6 p hp).1, fun p hp => (p7 p hp).1⟩, rfl, fun p hp => (p6 p hp).2, fun p hp => (p7 p hp).2.1⟩, fun p hp => by
      have hp' : p < k := hp
      rw [ht' (6 + 3 * p) (by omega), ht' (7 + 3 * p) (by omega), show 30 + (6 + 3 * p) = 36 + 3 * p by omega, show 30 + (7 + 3 * p) = 37 + 3 * p by omega]
      exact ⟨(p5 p hp).2.2.2, (p7 p (by omega)).2.2⟩⟩
    refine OT.bdR (q_begins hQ hB) (fun B hB' => OT.ret ?_)
    obtain ⟨b1, b2, b3, b4, b5, b6, b7, b8⟩ := hB'
    refine ⟨h0, rfl, rfl, rfl, rfl, Or.inr ⟨h0, (k, M, K, Lv), w, r, L, F, _, _, _, _, _, _, _, _, _, _, _, _, _, _, _, _, _, _, _, _, rfl, hT, hQ, o2, o5, o7, (ht' 2 (by omega)).trans o6, (ht' 3 (by omega)).trans o8, ?_, ?_, hB, ⟨hk6, fun j hj => ?_⟩, rfl, b1, b4, b5, b6, b7, b8, hLX⟩⟩
    · rw [b2]; exact (ht' 2 (by omega)).trans o6
    · rw [b3]; exact (ht' 3 (by omega)).trans o8
    · rw [hnm j hj]; exact p4.2 j hj
  · exact OT.negR (fun z => h0 (by rw [← hf] at z; exact hpos.1.mp z)) (OT.ret ⟨hf, rfl, rfl, rfl, rfl, Or.inl ⟨h0, _, _, _, _, _, _, _, _, _, _, _, _, rfl, hfr, hft⟩⟩)
end NEWTOWN
