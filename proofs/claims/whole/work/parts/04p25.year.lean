/-! PURE: a year read -/
section YEAR
variable {Z N n k m i : Nat} {T P : Nat → Nat} {sg tp so pl df pf bf yl : Nat → Int32} {ln : Int32} {va wf f nm rn : Nat → Int64} {pc be sc nu fa at_ fm m1 m2 : Int32} {le : Int64} {wd : Nat}
/-- lines being read -/
def YD (k m : Nat) (df pf bf yl : Nat → Int32) : Prop := m ≤ 40 ∧ ∀ j, j < m → ∃ a p b : Nat, a ≤ 4 ∧ df j = nI a ∧ yl (125 + 3 * j) = nI a ∧ (a < 4 → p < k ∧ pf j = nI p ∧ yl (126 + 3 * j) = nI p) ∧ ((a < 2 ∨ a = 3) → b < 2 ^ 31 ∧ bf j = nI b ∧ yl (127 + 3 * j) = nI b) ∧ (a = 3 → b < k)
theorem YD.add (h : YD k m df pf bf yl) (hm : m < 40) {a p b : Nat} {t0 t1 s0 s1 : Int32} (h1 : a ≤ 4) (h2 : a < 4 → p < k ∧ t0 = nI p ∧ s0 = nI p) (h3 : (a < 2 ∨ a = 3) → b < 2 ^ 31 ∧ t1 = nI b ∧ s1 = nI b) (h4 : a = 3 → b < k) : YD k (m + 1) (upd df m (nI a)) (upd pf m t0) (upd bf m t1) (upd (upd (upd yl (125 + 3 * m) (nI a)) (126 + 3 * m) s0) (127 + 3 * m) s1) := by
  refine ⟨by omega, fun j hj => ?_⟩
  by_cases e : j = m
  · subst e
    refine ⟨a, p, b, h1, ?_, ?_, fun z => ?_, fun z => ?_, h4⟩
    · unfold upd; rw [if_pos rfl]
    · unfold upd; rw [if_neg (by omega), if_neg (by omega), if_pos rfl]
    · obtain ⟨g1, g2, g3⟩ := h2 z
      refine ⟨g1, ?_, ?_⟩
      · unfold upd; rw [if_pos rfl, g2]
      · unfold upd; rw [if_neg (by omega), if_pos rfl, g3]
    · obtain ⟨g1, g2, g3⟩ := h3 z
      refine ⟨g1, ?_, ?_⟩
      · unfold upd; rw [if_pos rfl, g2]
      · unfold upd; rw [if_pos rfl, g3]
  · obtain ⟨a', p', b', g1, g2, g3, g4, g5, g6⟩ := h.2 j (by omega)
    refine ⟨a', p', b', g1, ?_, ?_, fun z => ⟨(g4 z).1, ?_, ?_⟩, fun z => ⟨(g5 z).1, ?_, ?_⟩, g6⟩
    · unfold upd; rw [if_neg e]; exact g2
    · unfold upd; rw [if_neg (by omega), if_neg (by omega), if_neg (by omega)]; exact g3
    · unfold upd; rw [if_neg e]; exact (g4 z).2.1
    · unfold upd; rw [if_neg (by omega), if_neg (by omega), if_neg (by omega)]; exact (g4 z).2.2
    · unfold upd; rw [if_neg e]; exact (g5 z).2.1
    · unfold upd; rw [if_neg (by omega), if_neg (by omega), if_neg (by omega)]; exact (g5 z).2.2
/-- where both are between two lines -/
def YS (T P : Nat → Nat) (Z N n k : Nat) (pc be sc nu : Int32) (le : Int64) (wd : Nat) (fa at_ fm : Int32) (lv x1 : Int32) (df pf bf yl : Nat → Int32) : Prop := PA T P Z N n pc be sc nu le wd fa at_ fm ∧ (fa = 0 → ∃ m, lv = nI m ∧ x1 = nI m ∧ YD k m df pf bf yl)
abbrev KY := Int32 → Int32 → Int32 → Int32 → Int32 → Int32 → (Nat → Int32) → (Nat → Int32) → (Nat → Int64) → (Nat → Int32) → Option (Int32 × Int32 × Int32 × Int32 × Int32 × Int32 × (Nat → Int32) × (Nat → Int32) × (Nat → Int64) × (Nat → Int32))
abbrev YL := Int32 × (Nat → Int32) × (Nat → Int32) × (Nat → Int32) × Int32 × Int32 × Int32 × Int32 × Int64 × Nat × Int32
/-- the line's second part -/
theorem y_second (hC : CX Z N T P sg tp ln so pl va wf) (h : PA T P Z N n pc be sc nu le wd fa at_ fm) (hr : NMr k f nm) (hk : m1 = nI k) (hm : m < 40) {a : Nat} (ha : a ≤ 4) {t0 s0 : Int32} (hp : fa = 0 → a < 4 → ∃ p : Nat, p < k ∧ t0 = nI p ∧ s0 = nI p) (hD : fa = 0 → YD k m df pf bf yl) {K11 : KY} {th ta sz : Int32} {β : Type} {W : YL → Option β} {Q : β → _ → Prop} (hK : ∀ (n' : Nat) (R : YL) (at' fm' x1' : Int32) (yl' : Nat → Int32), n ≤ n' → YS T P Z N n' k R.2.2.2.2.1 R.2.2.2.2.2.1 R.2.2.2.2.2.2.1 R.2.2.2.2.2.2.2.1 R.2.2.2.2.2.2.2.2.1 R.2.2.2.2.2.2.2.2.2.1 R.2.2.2.2.2.2.2.2.2.2 at' fm' R.1 x1' R.2.1 R.2.2.1 R.2.2.2.1 yl' → (∀ j, j < 125 → yl' j = yl j) → OT (W R) (m_X12_year_161 tp wf nm rn m1 m2 K11 x1' th ta sz at' fm' so pl va yl') Q) :
    OT (Option.bind (m_X10_readLine_76 sg ln f (nI k) (nI a) t0 (nI m) (nI m) (upd df m (nI a)) pf bf pc be sc nu le wd fa) W) (m_X12_year_110 tp wf nm rn m1 m2 K11 (nI m) (nI a) (nI (125 + 3 * m)) s0 (nI (126 + 3 * m)) th ta sz at_ fm so pl va (upd yl (125 + 3 * m) (nI a))) Q := by
  have hk6 := hr.1
  have hpos := h.pos
  unfold m_X10_readLine_76 m_X10_takeSecond m_X12_year_110 m_X12_year_157
  have e127 : nI (125 + 3 * m) + 2 = nI (127 + 3 * m) := by
    show nI (125 + 3 * m) + nI 2 = _
    rw [nI_add]; congr 1; omega
  have e126 : nI (125 + 3 * m) + 1 = nI (126 + 3 * m) := by
    rw [nI_1]; congr 1; omega
  rw [e127, e126, nI_clamp (show 127 + 3 * m < 2 ^ 31 by omega), nI_clamp (show 126 + 3 * m < 2 ^ 31 by omega), p_put (show m < 40 by omega) (by omega), Option.bind_some, p_at (show m < 40 by omega) (by omega), Option.bind_some]
  have i1 : ¬ (nI (126 + 3 * m) < 0 ∨ 250 ≤ 126 + 3 * m) := pn_in2 (by omega) (by omega)
  have i2 : ¬ (nI (127 + 3 * m) < 0 ∨ 250 ≤ 127 + 3 * m) := pn_in2 (by omega) (by omega)
  have u1 : (upd pf m t0) m = t0 := by unfold upd; rw [if_pos rfl]
  have u2 : (upd (upd yl (125 + 3 * m) (nI a)) (126 + 3 * m) s0) (126 + 3 * m) = s0 := by unfold upd; rw [if_pos rfl]
  rw [u1, u2]
  simp only [Option.bind_assoc, Option.bind_some]
  refine OT.posR i1 ?_
  have fin : ∀ (n' : Nat) (pc be sc nu : Int32) (le : Int64) (wd : Nat) (fa' at' fm' t1 s1 : Int32), n ≤ n' → PA T P Z N n' pc be sc nu le wd fa' at' fm' → (fa' = 0 → fa = 0 ∧ ((a < 2 ∨ a = 3) → ∃ b : Nat, b < 2 ^ 31 ∧ t1 = nI b ∧ s1 = nI b ∧ (a = 3 → b < k))) → OT (Option.bind (m_X11_put 40 bf (nI m) t1) (fun r12 => W (nI m + 1, upd df m (nI a), upd pf m t0, r12, pc, be, sc, nu, le, wd, fa'))) (if ¬ (nI (127 + 3 * m) < 0 ∨ 250 ≤ 127 + 3 * m) then m_X12_year_161 tp wf nm rn m1 m2 K11 (nI m + 1) th ta sz at' fm' so pl va (upd (upd (upd yl (125 + 3 * m) (nI a)) (126 + 3 * m) s0) (127 + 3 * m) s1) else none) Q := by
    intro n' pc be sc nu le wd fa' at' fm' t1 s1 hn hP hb
    refine OT.eqL (p_put (show m < 40 by omega) (by omega)) (OT.posR i2 (hK n' _ at' fm' _ _ hn ⟨hP, fun z => ⟨m + 1, nI_1 m, nI_1 m, ?_⟩⟩ (fun j hj => by unfold upd; rw [if_neg (by omega), if_neg (by omega), if_neg (by omega)])))
    obtain ⟨h0, hb⟩ := hb z
    by_cases y : a < 4
    · obtain ⟨p, p1, p2, p3⟩ := hp h0 y
      by_cases x : a < 2 ∨ a = 3
      · obtain ⟨b, b1, b2, b3, b4⟩ := hb x
        exact (hD h0).add hm ha (fun _ => ⟨p1, p2, p3⟩) (fun _ => ⟨b1, b2, b3⟩) b4
      · exact (hD h0).add (b := 0) hm ha (fun _ => ⟨p1, p2, p3⟩) (fun z => absurd z x) (fun z => absurd (Or.inr z) x)
    · exact (hD h0).add (p := 0) (b := 0) hm ha (fun z => absurd z y) (fun z => by omega) (fun z => by omega)
  by_cases a3 : a = 3
  · subst a3
    rw [if_pos (show nI 3 = 3 from rfl)]
    simp only [Option.bind_assoc, Option.bind_some]
    refine OT.posR (by decide) (OT.posR rfl (OT.posR i1 (OT.bd (a_takeOther (q := 0) (g := nm) (i := t0.toNatClampNeg) hC h hr (Or.inl ⟨rfl, hk, rfl⟩) (fun z => ?_)) (fun R R' hR => ?_))))
    · obtain ⟨p, p1, p2, p3⟩ := hp z (by omega)
      rw [p2, p3, nI_clamp (by omega)]
      exact ⟨by omega, rfl, rfl⟩
    · obtain ⟨⟨n', r1, r2, r3, r4⟩, -⟩ := hR
      refine fin n' _ _ _ _ _ _ _ _ _ _ _ r1 r4 (fun z => ?_)
      obtain ⟨z1, -, j, j1, j2, j3⟩ := r2 z
      exact ⟨z1, fun _ => ⟨j, by omega, j2, j3, fun _ => j1⟩⟩
  · have n3 : ¬ nI a = 3 := fun z => a3 ((nI_eq (b := 3) (by omega) (by omega)).mp z)
    rw [if_neg n3]
    by_cases a2 : a < 2
    · have key : ∀ X : Option (Int32 × Int32 × Int32 × Int32 × Int32 × Int64 × Nat × Int32), (if nI a = 0 then m_X10_takeSecond_31 (upd pf m t0) (nI m) sg ln f (nI k) (nI a) pc be sc nu le wd fa else if nI a = 1 then m_X10_takeSecond_31 (upd pf m t0) (nI m) sg ln f (nI k) (nI a) pc be sc nu le wd fa else X) = m_X10_takeSecond_31 (upd pf m t0) (nI m) sg ln f (nI k) (nI a) pc be sc nu le wd fa := by
        intro X
        rcases (show a = 0 ∨ a = 1 by omega) with rfl | rfl
        · rw [if_pos (show nI 0 = 0 from rfl)]
        · rw [if_neg (by decide), if_pos (show nI 1 = 1 from rfl)]
      rw [key]
      unfold m_X10_takeSecond_31
      simp only [Option.bind_assoc, Option.bind_some]
      refine OT.negR (nI_ge (b := 2) a2 (by omega)) (OT.bd (a_takeNumber (lo := 1) (hi := 20) hC h (by omega) (by omega)) (fun R R' hR => ?_))
      obtain ⟨n', r1, r2, r4⟩ := hR
      refine fin n' _ _ _ _ _ _ _ _ _ _ _ r1 r4 (fun z => ?_)
      obtain ⟨z1, -, v, v1, v2, v3, v4⟩ := r2 z
      exact ⟨z1, fun _ => ⟨v, by omega, v3, v4, fun z => by omega⟩⟩
    · have n0 : ¬ nI a = 0 := fun z => a2 (by have := (nI_eq (b := 0) (by omega) (by omega)).mp z; omega)
      have n1 : ¬ nI a = 1 := fun z => a2 (by have := (nI_eq (b := 1) (by omega) (by omega)).mp z; omega)
      rw [if_neg n0, if_neg n1, Option.bind_some]
      exact OT.posR (nI_le (a := 2) (by omega) (by omega)) (OT.negR n3 (fin n _ _ _ _ _ _ _ _ _ _ _ (by omega) h (fun z => ⟨z, fun z => by omega⟩)))
/-- a line -/
theorem y_line (hC : CX Z N T P sg tp ln so pl va wf) (h : PA T P Z N n pc be sc nu le wd fa at_ fm) (h0 : fa = 0) (hn : n < N) (hr : NMr k f nm) (hk : m1 = nI k) (hD : YD k m df pf bf yl) {K11 : KY} {th ta sz : Int32} {β : Type} {W : YL → Option β} {Q : β → _ → Prop} (hK : ∀ (n' : Nat) (R : YL) (at' fm' x1' : Int32) (yl' : Nat → Int32), n ≤ n' → YS T P Z N n' k R.2.2.2.2.1 R.2.2.2.2.2.1 R.2.2.2.2.2.2.1 R.2.2.2.2.2.2.2.1 R.2.2.2.2.2.2.2.2.1 R.2.2.2.2.2.2.2.2.2.1 R.2.2.2.2.2.2.2.2.2.2 at' fm' R.1 x1' R.2.1 R.2.2.1 R.2.2.2.1 yl' → (∀ j, j < 125 → yl' j = yl j) → OT (W R) (m_X12_year_161 tp wf nm rn m1 m2 K11 x1' th ta sz at' fm' so pl va yl') Q) {F11 : Option (Int32 × Int32 × Int32 × Int32 × Int32 × Int32 × (Nat → Int32) × (Nat → Int32) × (Nat → Int64) × (Nat → Int32))}
   (hF : F11 = Option.bind (m_X12_wordHere so va at_ fm wf 10 5) (fun r12 => if 0 ≤ r12 then (if nI m = 40 then (Option.bind (m_X12_wrong pl at_ fm 5) (fun r14 => m_X12_year_161 tp wf nm rn m1 m2 K11 (nI m) th ta sz at_ r14 so pl va yl)) else (if ¬ ((125 + (3 * nI m)) < 0 ∨ 250 ≤ (125 + (3 * nI m)).toNatClampNeg) then (if 4 ≤ r12 then (m_X12_year_110 tp wf nm rn m1 m2 K11 (nI m) r12 (125 + (3 * nI m)) 0 ((125 + (3 * nI m)) + 1) th ta sz (at_ + 1) fm so pl va (upd yl (125 + (3 * nI m)).toNatClampNeg r12)) else (Option.bind (m_X12_takeTold so pl va (at_ + 1) fm wf nm rn m1 m2 0 0) (fun r13 => m_X12_year_110 tp wf nm rn m1 m2 K11 (nI m) r12 (125 + (3 * nI m)) r13.1 ((125 + (3 * nI m)) + 1) th ta sz r13.2.1 r13.2.2 so pl va (upd yl (125 + (3 * nI m)).toNatClampNeg r12)))) else none)) else (Option.bind (m_X12_wrong pl at_ fm 1) (fun r15 => m_X12_year_161 tp wf nm rn m1 m2 K11 (nI m) th ta sz at_ r15 so pl va yl)))) :
    OT (Option.bind (m_X10_readLine df pf bf (nI m) sg ln pc be sc nu le wd fa f (nI k)) W) F11 Q := by
  have hk6 := hr.1
  have hm := hD.1
  have h27 := h.wd27
  obtain ⟨w1, w2, w3⟩ := wH_neg (a := 10) (b := 10 + 5) h27
  rw [hF, show m_X12_wordHere so va at_ fm wf 10 5 = _ from q_wordHere hC h (a := 10) (m := 5) (by omega), Option.bind_some]
  unfold m_X10_readLine
  rw [k_deed wd h27, Option.bind_some]
  have bad : ∀ q : Nat, 1 ≤ q → q ≤ 5 → OT (Option.bind (Option.bind (m_X7_refuse pc sc wd fa (nI q)) (fun r18 => some (nI m, df, pf, bf, pc, be, r18.1, nu, le, r18.2.1, r18.2.2))) W) (Option.bind (m_X12_wrong pl at_ fm (nI q)) (fun r15 => m_X12_year_161 tp wf nm rn m1 m2 K11 (nI m) th ta sz at_ r15 so pl va yl)) Q := by
    intro q q1 q5
    simp only [Option.bind_assoc, Option.bind_some]
    refine OT.bd (a_bad hC h q1 q5) (fun R R' hR => hK n _ _ _ _ _ (by omega) ⟨hR.2, fun z => absurd z (ne0_of_pos hR.1)⟩ (fun j hj => rfl))
  by_cases y : 10 < wd ∧ wd ≤ 10 + 5
  · have e : wH wd 10 15 = nI (wd - 11) := by
      unfold wH; rw [if_pos (by omega)]; congr 1
    rw [if_neg (fun z => w3.mp z y), if_pos (w1.mpr y), e]
    generalize hae : wd - 11 = a
    have ha : a ≤ 4 := by omega
    by_cases m40 : m = 40
    · rw [if_neg (show ¬ nI m < 40 from nI_nlt (b := 40) (by omega) (by omega)), if_pos (show nI m = 40 by rw [m40]; rfl)]
      exact bad 5 (by omega) (by omega)
    · have e1 : (125 : Int32) + 3 * nI m = nI (125 + 3 * m) := i3 125 m
      have e2 : nI (125 + 3 * m) + 1 = nI (126 + 3 * m) := by rw [nI_1]; congr 1; omega
      rw [if_pos (show nI m < 40 from nI_lt (b := 40) (by omega) (by omega)), if_neg (show ¬ nI m = 40 from fun z => m40 ((nI_eq (b := 40) (by omega) (by omega)).mp z)), e1, e2, nI_clamp (show 125 + 3 * m < 2 ^ 31 by omega)]
      simp only [Option.bind_assoc]
      refine OT.posR (pn_in2 (by omega) (by omega)) (OT.bdL (a_adv hC h h0 hn) (fun R hR => OT.eqL (p_put (show m < 40 by omega) (by omega)) ?_))
      by_cases a4 : a = 4
      · subst a4
        rw [if_pos (show nI 4 = 4 from rfl)]
        refine OT.posR (by decide) (y_second hC hR hr hk (show m < 40 by omega) (a := 4) (by omega) (fun _ z => by omega) (fun _ => hD) (fun n' R at' fm' x1' yl' z1 z2 z3 => hK n' R at' fm' x1' yl' (by omega) z2 z3))
      · rw [if_neg (show ¬ nI a = 4 from fun z => a4 ((nI_eq (b := 4) (by omega) (by omega)).mp z))]
        simp only [Option.bind_assoc]
        refine OT.negR (nI_ge (b := 4) (by omega) (by omega)) (OT.bd (a_takePerson (q := 0) (g := nm) hC hR hr (Or.inl ⟨rfl, hk, rfl⟩)) (fun S S' hS => ?_))
        obtain ⟨n', r1, r2, r3, r4⟩ := hS
        refine y_second hC r4 hr hk (show m < 40 by omega) ha (fun z _ => ?_) (fun _ => hD) (fun n'' R at' fm' x1' yl' z1 z2 z3 => hK n'' R at' fm' x1' yl' (by omega) z2 z3)
        obtain ⟨-, -, j, j1, j2, j3⟩ := r2 z
        exact ⟨j, j1, j2, j3⟩
  · rw [if_pos (w3.mpr y), if_neg (fun z => y (w1.mp z))]
    exact bad 1 (by omega) (by omega)
/-- lines told, as both keep them -/
def YX (k : Nat) (df pf bf : Nat → Int32) (lv : Int32) (yl : Nat → Int32) : Prop := ∃ (m : Nat) (A Q B : Nat → Nat), YR k m A Q B df pf bf lv yl
theorem year_copy {th ta sz : Int32} {so pl : Nat → Int32} (hm : m ≤ 40) : ∀ (c i fu : Nat) (s : Nat → Int32), i + c = 3 * m → c < fu → s 0 = nI m → (∀ j, j < i → s (1 + j) = yl (125 + j)) → (∀ j, 125 ≤ j → s j = yl j) → OK (m_X12_year_191 tp wf nm rn m1 m2 fu (nI m) (nI i) th ta sz at_ fm so pl va s) (fun R => R.1 = 0 ∧ R.2.1 = th ∧ R.2.2.1 = ta ∧ R.2.2.2.1 = sz ∧ R.2.2.2.2.1 = at_ ∧ R.2.2.2.2.2.1 = fm ∧ R.2.2.2.2.2.2.1 = so ∧ R.2.2.2.2.2.2.2.1 = pl ∧ R.2.2.2.2.2.2.2.2.1 = va ∧ R.2.2.2.2.2.2.2.2.2 0 = nI m ∧ ∀ j, j < 3 * m → R.2.2.2.2.2.2.2.2.2 (1 + j) = yl (125 + j))
  | 0, i, fu + 1, s, e, _, h0, h1, h2 => by
    have : i = 3 * m := by omega
    subst this
    unfold m_X12_year_191
    have e3 : (3 : Int32) * nI m = nI (3 * m) := pn_mul 3 m
    rw [e3]
    exact OK.pos (nI_le (Nat.le_refl _) (by omega)) (OK.ret ⟨rfl, rfl, rfl, rfl, rfl, rfl, rfl, rfl, rfl, h0, h1⟩)
  | c + 1, i, fu + 1, s, e, hf, h0, h1, h2 => by
    unfold m_X12_year_191
    have e3 : (3 : Int32) * nI m = nI (3 * m) := pn_mul 3 m
    have e4 : (125 : Int32) + nI i = nI (125 + i) := nI_add 125 i
    have e5 : (1 : Int32) + nI i = nI (1 + i) := nI_add 1 i
    rw [e3, e4, e5, nI_clamp (show 125 + i < 2 ^ 31 by omega), nI_clamp (show 1 + i < 2 ^ 31 by omega), nI_1]
    refine OK.neg (nI_ge (by omega) (by omega)) (OK.pos (pn_in2 (by omega) (by omega)) (OK.pos (pn_in2 (by omega) (by omega)) (year_copy hm c (i + 1) fu _ (by omega) (by omega) ?_ (fun j hj => ?_) (fun j hj => ?_))))
    · unfold upd; rw [if_neg (by omega)]; exact h0
    · unfold upd
      by_cases y : j = i
      · subst y; rw [if_pos rfl]; exact h2 _ (by omega)
      · rw [if_neg (by omega)]; exact h1 j (by omega)
    · unfold upd; rw [if_neg (by omega)]; exact h2 j hj
theorem YD.done (hk : k ≤ 6) (h : YD k m df pf bf yl) {s : Nat → Int32} (h0 : s 0 = nI m) (hs : ∀ j, j < 3 * m → s (1 + j) = yl (125 + j)) : YX k df pf bf (nI m) s := by
  refine ⟨m, fun j => (df j).toNatClampNeg, fun j => (pf j).toNatClampNeg, fun j => (bf j).toNatClampNeg, h.1, rfl, h0, fun j hj => ?_⟩
  obtain ⟨a, p, b, g1, g2, g3, g4, g5, g6⟩ := h.2 j hj
  have s1 := hs (3 * j) (by omega)
  have s2 := hs (3 * j + 1) (by omega)
  have s3 := hs (3 * j + 2) (by omega)
  rw [show 125 + (3 * j + 1) = 126 + 3 * j by omega, show 1 + (3 * j + 1) = 2 + 3 * j by omega] at s2
  rw [show 125 + (3 * j + 2) = 127 + 3 * j by omega, show 1 + (3 * j + 2) = 3 + 3 * j by omega] at s3
  have ea : (df j).toNatClampNeg = a := by rw [g2]; exact nI_clamp (by omega)
  show (df j).toNatClampNeg ≤ 4 ∧ df j = nI (df j).toNatClampNeg ∧ s (1 + 3 * j) = nI (df j).toNatClampNeg ∧ ((df j).toNatClampNeg < 4 → (pf j).toNatClampNeg < k ∧ pf j = nI (pf j).toNatClampNeg ∧ s (2 + 3 * j) = nI (pf j).toNatClampNeg) ∧ (((df j).toNatClampNeg < 2 ∨ (df j).toNatClampNeg = 3) → bf j = nI (bf j).toNatClampNeg ∧ s (3 + 3 * j) = nI (bf j).toNatClampNeg) ∧ ((df j).toNatClampNeg = 3 → (bf j).toNatClampNeg < k)
  rw [ea]
  refine ⟨g1, g2, s1.trans g3, fun z => ?_, fun z => ?_, fun z => ?_⟩
  · obtain ⟨b1, b2, b3⟩ := g4 z
    have eb : (pf j).toNatClampNeg = p := by rw [b2]; exact nI_clamp (by omega)
    rw [eb]
    exact ⟨b1, b2, s2.trans b3⟩
  · obtain ⟨b1, b2, b3⟩ := g5 z
    have eb : (bf j).toNatClampNeg = b := by rw [b2]; exact nI_clamp b1
    rw [eb]
    exact ⟨b2, s3.trans b3⟩
  · obtain ⟨b1, b2, b3⟩ := g5 (Or.inr z)
    have eb : (bf j).toNatClampNeg = b := by rw [b2]; exact nI_clamp b1
    rw [eb]
    exact g6 z
def YQ (k : Nat) (th ta sz : Int32) (yl0 : Nat → Int32) (R : Int32 × Int32 × (Nat → Int32) × (Nat → Int32) × (Nat → Int32) × Int32 × Int32 × Int32 × Int32 × Int32 × Int64 × Nat × Int32) (R' : Int32 × Int32 × Int32 × Int32 × Int32 × Int32 × (Nat → Int32) × (Nat → Int32) × (Nat → Int64) × (Nat → Int32)) : Prop :=
  R.1 = R'.1 ∧ (R.1 = 0 → YX k R.2.2.1 R.2.2.2.1 R.2.2.2.2.1 R.2.1 R'.2.2.2.2.2.2.2.2.2) ∧ (¬ R.1 = 0 → ∀ j, j < 125 → R'.2.2.2.2.2.2.2.2.2 j = yl0 j) ∧ R.2.2.2.2.2.1 = 0 ∧ R'.2.1 = th ∧ R'.2.2.1 = ta ∧ R'.2.2.2.1 = sz
theorem year_loop (hC : CX Z N T P sg tp ln so pl va wf) (hr : NMr k f nm) (hk : m1 = nI k) {th ta sz : Int32} {yl0 : Nat → Int32} : ∀ (c fu fv n i : Nat) (pc be sc nu : Int32) (le : Int64) (wd : Nat) (fa at_ fm lv x1 : Int32) (df pf bf yl : Nat → Int32), (fa = 0 → N - n < c) → c < fu → c < fv → (fa = 0 → i ≤ n) → YS T P Z N n k pc be sc nu le wd fa at_ fm lv x1 df pf bf yl → (∀ j, j < 125 → yl j = yl0 j) → OT (m_X10_read_10 sg f (nI k) fu (nI i) lv df pf bf ln pc be sc nu le wd fa) (m_X12_year_11 tp wf nm rn m1 m2 fv x1 th ta sz at_ fm so pl va yl) (YQ k th ta sz yl0)
  | c, fu + 1, fv + 1, n, i, pc, be, sc, nu, le, wd, fa, at_, fm, lv, x1, df, pf, bf, yl, hc, hu, hv, hi, hS, hfr => by
    have hN := hC.bnd
    obtain ⟨h, hD⟩ := hS
    have hpos := h.pos
    have hf := h.1
    have hn := h.2.1
    have ha := h.2.2.1
    rw [m_X10_read_10, m_X12_year_11]
    unfold m_X7_goesOn
    rcases h.2.2.2 with ⟨h0, hp⟩ | ⟨h1, h2, h3⟩
    · have hfm : fm = 0 := by rw [← hf]; exact h0
      obtain ⟨s, e, t1, t2, t3, t4, t5, t6, t7, t8, t9, -⟩ := tk hC hn hp
      obtain ⟨m, e1, e2, hY⟩ := hD h0
      rw [if_pos h0, if_pos hfm, ha, nI_clamp (show n < 2 ^ 31 by omega), ← ha, t5, t4]
      by_cases e0 : n = N
      · have s0 := t9.mpr e0
        rw [s0, if_pos (show nI 0 = 0 from rfl), if_pos (show nI 0 = 0 from rfl), Option.bind_some, if_pos rfl]
        have ef : ∀ X : Option (Int32 × Int32 × (Nat → Int32) × (Nat → Int32) × (Nat → Int32) × Int32 × Int32 × Int32 × Int32 × Int32 × Int64 × Nat × Int32), (if (1000 : Int32) ≤ nI i then X else X) = X := fun X => by split <;> rfl
        rw [ef]
        refine OT.posR (show ¬ (at_ < 0 ∨ 1002 ≤ n) from by rw [ha]; exact pn_in2 (by omega) (by omega)) ?_
        unfold m_X10_read_42 m_X12_year_170 m_X7_clear
        rw [Option.bind_some]
        refine OT.posR (by rw [hfm]; decide) ?_
        have hFU := FU_ge
        have hm := hY.1
        revert hFU; generalize FU = fw; intro hFU
        obtain ⟨b, eb, b1, b2, b3, b4, -, -, -, -, -, b5, b6⟩ := year_copy (tp := tp) (wf := wf) (nm := nm) (rn := rn) (m1 := m1) (m2 := m2) (at_ := at_) (fm := fm) (va := va) (th := th) (ta := ta) (sz := sz) (so := so) (pl := pl) (m := m) (yl := yl) hm (3 * m) 0 fw (upd yl 0 (nI m)) (by omega) (by omega) rfl (fun j hj => by omega) (fun j hj => by unfold upd; rw [if_neg (by omega)])
        rw [e1, e2]
        refine ⟨_, b, rfl, eb, ?_, fun _ => hY.done hr.1 b5 b6, fun z => absurd h0 z, rfl, b2, b3, b4⟩
        show fa = b.1
        rw [b1, h0]
      · have s0 : ¬ s = 0 := fun z => e0 (t9.mp z)
        have s0' : ¬ nI s = 0 := fun z => s0 ((nI_eq (b := 0) (by omega) (by omega)).mp z)
        rw [if_neg s0', if_neg s0', Option.bind_some, if_neg (show ¬ (1 : Int32) = 0 by decide)]
        refine OT.negL (show ¬ (1000 : Int32) ≤ nI i from nI_ge (b := 1000) (by have := hi h0; omega) (by omega)) (OT.posR (show ¬ (at_ < 0 ∨ 1002 ≤ n) from by rw [ha]; exact pn_in2 (by omega) (by omega)) ?_)
        rw [e1, e2, ← t4]
        refine y_line hC h h0 (by omega) hr hk hY (fun n' R at' fm' x1' yl' z1 z2 z3 => ?_) rfl
        unfold m_X12_year_161
        refine OT.bd (a_takeSign (c := 59) hC z2.1 (by omega)) (fun S S' hS => ?_)
        obtain ⟨n'', r1, r2, r3⟩ := hS
        rw [nI_1]
        cases c with
        | zero => have := hc h0; omega
        | succ c =>
          refine year_loop hC hr hk c fu fv n'' (i + 1) _ _ _ _ _ _ _ _ _ _ _ _ _ _ _ (fun z => ?_) (by omega) (by omega) ?_ ⟨r3, fun z => z2.2 (r2 z).1⟩ (fun j hj => (z3 j hj).trans (hfr j hj))
          · have := hc h0
            have := (r2 z).2
            omega
          · intro z
            have := hi h0
            have := (r2 z).2
            omega
    · have h1' := ne0_of_pos h1
      have hfm : ¬ fm = 0 := by rw [← hf]; exact h1'
      have ef : ∀ X : Option (Int32 × Int32 × (Nat → Int32) × (Nat → Int32) × (Nat → Int32) × Int32 × Int32 × Int32 × Int32 × Int32 × Int64 × Nat × Int32), (if (1000 : Int32) ≤ nI i then X else X) = X := fun X => by split <;> rfl
      rw [if_neg h1', if_neg hfm, Option.bind_some, if_pos rfl, ef]
      unfold m_X10_read_42 m_X12_year_170 m_X7_clear
      refine OT.eqL rfl (OT.negR (fun z => h1' (by rw [← hf] at z; exact hpos.1.mp z)) (OT.ret ⟨hf, fun z => absurd z h1', fun _ => hfr, rfl, rfl, rfl, rfl⟩))
end YEAR
section BEGIN
variable {Z N k : Nat} {T P : Nat → Nat} {sg tp so pl df pf bf yl : Nat → Int32} {ln tn : Int32} {va wf f nm rn : Nat → Int64} {pc sc nu m1 m2 : Int32} {le : Int64} {wd : Nat}
theorem a_begin (hC : CX Z N T P sg tp ln so pl va wf) : OK (m_X7_rewind sg ln pc sc nu le wd) (fun R => R.2.2.2.2.2.2 = 0 ∧ PA T P Z N 0 R.1 R.2.1 R.2.2.1 R.2.2.2.1 R.2.2.2.2.1 R.2.2.2.2.2.1 R.2.2.2.2.2.2 0 0) := by
  unfold m_X7_rewind
  refine OK.bd (c_advance hC.1 (e := 0) (by omega)) (fun R hR => OK.ret ?_)
  obtain ⟨q, h1, h2⟩ := hR
  have := h1.uniq hC.2.1.2.1
  subst this
  exact ⟨rfl, rfl, by omega, rfl, Or.inl ⟨rfl, h2⟩⟩
/-- a year told -/
theorem l_year {told draft : Nat} {at0 fm0 : Int32} {so0 pl0 : Nat → Int32} {va0 : Nat → Int64} (hT : TP Z T sg tp ln tn) (hw : ∀ j, j < 26 → wf j = wdM j) (hr : NMr k f nm) (hk : m1 = nI k) : OT (m_X11_year sg ln pc sc nu le wd f (nI k) told draft df pf bf) (m_X12_year tp tn so0 pl0 va0 at0 fm0 wf nm rn m1 m2 yl) (fun R R' => R.1 = R'.1 ∧ R.2.2.2.1 = 0 ∧ R'.2.1 = 0 ∧ R'.2.2.1 = 0 ∧ ((R.1 = 0 ∧ R.2.1 = draft ∧ R.2.2.1 = told ∧ YX k R.2.2.2.2.2.2.2.2.2.2.2.2.1 R.2.2.2.2.2.2.2.2.2.2.2.2.2.1 R.2.2.2.2.2.2.2.2.2.2.2.2.2.2 R.2.2.2.2.2.2.2.2.2.2.2.1 R'.2.2.2.2.2.2.2.2.2) ∨ (¬ R.1 = 0 ∧ R.2.1 = told ∧ R.2.2.1 = draft ∧ ∀ j, j < 125 → R'.2.2.2.2.2.2.2.2.2 j = yl j))) := by
  unfold m_X11_year m_X12_year m_X10_read m_X10_clear
  have etn : tn = nI Z := hT.2.2.1
  rw [Option.bind_some]
  refine OT.bdR (q_cut hT) (fun R hR => ?_)
  obtain ⟨h1, h2, h3, h4, N, P, hA⟩ := hR
  rw [h1, h2, h3, h4]
  have hC : CX Z N T P sg tp ln R.2.2.2.2.1 R.2.2.2.2.2.1 R.2.2.2.2.2.2 wf := ⟨by rw [← etn]; exact hT, hA, hw⟩
  have hN := hC.bnd
  simp only [Option.bind_assoc]
  refine OT.bdL (a_begin hC) (fun S hS => ?_)
  have hFU := FU_ge
  refine OT.thL (year_loop (k := k) (th := 0) (ta := 0) (sz := nI Z) (yl0 := yl) hC hr hk (N + 1) FU FU 0 0 _ _ _ _ _ _ _ _ _ _ _ _ _ _ _ (fun _ => by omega) (by omega) (by omega) (fun _ => by omega) ⟨hS.2, fun _ => ⟨0, rfl, rfl, by omega, fun j hj => by omega⟩⟩ (fun j hj => rfl)) (fun U U' hU => ?_)
  obtain ⟨u1, u2, u3, u4, u5, u6, u7⟩ := hU
  by_cases z : U.1 = 0
  · exact OK.pos z (OK.ret ⟨u1, u4, u5, u6, Or.inl ⟨z, rfl, rfl, u2 z⟩⟩)
  · exact OK.neg z (OK.ret ⟨u1, u4, u5, u6, Or.inr ⟨z, rfl, rfl, u3 z⟩⟩)
end BEGIN
