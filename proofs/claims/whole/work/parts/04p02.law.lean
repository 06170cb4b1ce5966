/-! PURE: the law, told on both sides -/
theorem pn_dec {t : Nat} (h : 1 ≤ t) : nI t + (-1) = nI (t - 1) := by
  have : nI t = nI (t - 1) + 1 := by rw [nI_1, Nat.sub_add_cancel h]
  rw [this, Int32.add_assoc, show (1 : Int32) + (-1) = 0 by decide, Int32.add_zero]
/-- one step of the law: the class's s, the model's o and a; so many values wait ahead of it and behind it -/
def LStep (s o a : Int32) (h h' : Nat) : Prop :=
  (∃ v : Nat, v < 10000 ∧ s = nI v ∧ o = 1 ∧ a = nI v ∧ h < 21 ∧ h' = h + 1) ∨
  (∃ c : Nat, c < 4 ∧ s = - (nI c) - 1 ∧ o = 2 ∧ a = nI c ∧ h < 21 ∧ h' = h + 1) ∨
  (s = -5 ∧ o = 3 ∧ 1 ≤ h ∧ h ≤ 21 ∧ h' = h) ∨
  (((s = -10 ∧ o = 4) ∨ (s = -11 ∧ o = 5) ∨ (s = -12 ∧ o = 6) ∨ (s = -8 ∧ o = 7) ∨ (s = -9 ∧ o = 8) ∨ (s = -6 ∧ o = 9) ∨ (s = -7 ∧ o = 10)) ∧ 2 ≤ h ∧ h ≤ 21 ∧ h' + 1 = h)
def LawOK (N : Nat) (st op ar : Nat → Int32) (hg : Nat → Nat) : Prop := hg 0 = 0 ∧ hg N = 1 ∧ N ≤ 1000 ∧ op N = 0 ∧ ∀ i, i < N → LStep (st i) (op i) (ar i) (hg i) (hg (i + 1))
theorem l_join {s o x y : Int32} (h : (s = -10 ∧ o = 4) ∨ (s = -11 ∧ o = 5) ∨ (s = -12 ∧ o = 6) ∨ (s = -8 ∧ o = 7) ∨ (s = -9 ∧ o = 8) ∨ (s = -6 ∧ o = 9) ∨ (s = -7 ∧ o = 10)) : ∃ r, m_X3_join s x y = some r ∧ m_X12_both o x y = some r := by
  rcases h with ⟨rfl, rfl⟩ | ⟨rfl, rfl⟩ | ⟨rfl, rfl⟩ | ⟨rfl, rfl⟩ | ⟨rfl, rfl⟩ | ⟨rfl, rfl⟩ | ⟨rfl, rfl⟩
  · exact ⟨x + y, rfl, rfl⟩
  · exact ⟨x - y, rfl, rfl⟩
  · exact ⟨x * y, rfl, rfl⟩
  · by_cases c : y ≤ x
    · exact ⟨0, by show (if y ≤ x then some 0 else some 1) = _; rw [if_pos c], by show (if y ≤ x then some 0 else some 1) = _; rw [if_pos c]⟩
    · exact ⟨1, by show (if y ≤ x then some 0 else some 1) = _; rw [if_neg c], by show (if y ≤ x then some 0 else some 1) = _; rw [if_neg c]⟩
  · by_cases c : x = y
    · exact ⟨1, by show (if x = y then some 1 else some 0) = _; rw [if_pos c], by show (if x = y then some 1 else some 0) = _; rw [if_pos c]⟩
    · exact ⟨0, by show (if x = y then some 1 else some 0) = _; rw [if_neg c], by show (if x = y then some 1 else some 0) = _; rw [if_neg c]⟩
  · by_cases c : x = 0
    · exact ⟨0, by show (if x = 0 then some 0 else _) = _; rw [if_pos c], by show (if x = 0 then some 0 else _) = _; rw [if_pos c]⟩
    · by_cases e : y = 0
      · exact ⟨0, by show (if x = 0 then some 0 else (if y = 0 then some 0 else some 1)) = _; rw [if_neg c, if_pos e], by show (if x = 0 then some 0 else (if y = 0 then some 0 else some 1)) = _; rw [if_neg c, if_pos e]⟩
      · exact ⟨1, by show (if x = 0 then some 0 else (if y = 0 then some 0 else some 1)) = _; rw [if_neg c, if_neg e], by show (if x = 0 then some 0 else (if y = 0 then some 0 else some 1)) = _; rw [if_neg c, if_neg e]⟩
  · by_cases c : x = 0
    · by_cases e : y = 0
      · exact ⟨0, by show (if x = 0 then (if y = 0 then some 0 else some 1) else some 1) = _; rw [if_pos c, if_pos e], by show (if x = 0 then (if y = 0 then some 0 else some 1) else some 1) = _; rw [if_pos c, if_pos e]⟩
      · exact ⟨1, by show (if x = 0 then (if y = 0 then some 0 else some 1) else some 1) = _; rw [if_pos c, if_neg e], by show (if x = 0 then (if y = 0 then some 0 else some 1) else some 1) = _; rw [if_pos c, if_neg e]⟩
    · exact ⟨1, by show (if x = 0 then _ else some 1) = _; rw [if_neg c], by show (if x = 0 then _ else some 1) = _; rw [if_neg c]⟩
theorem l_upd {u v : Nat → Int32} {t k : Nat} {x : Int32} (h : ∀ j, j < t → u j = v j) (hk : t ≤ k + 1) : ∀ j, j < k + 1 → (j < t ∨ j = k) → upd u k x j = upd v k x j := by
  intro j _ hj
  unfold upd
  by_cases e : j = k
  · rw [if_pos e, if_pos e]
  · rw [if_neg e, if_neg e]
    exact h j (hj.resolve_right e)
theorem l_fact {c : Nat} (hc : c < 4) {g hi f d : Int32} {fa : Nat → Int32} (h0 : fa 0 = g) (h1 : fa 1 = hi) (h2 : fa 2 = f) (h3 : fa 3 = d) : m_X3_factBy (- (nI c) - 1) g hi f d = some (fa c) := by
  rcases (show c = 0 ∨ c = 1 ∨ c = 2 ∨ c = 3 by omega) with rfl | rfl | rfl | rfl
  · rw [h0]; rfl
  · rw [h1]; rfl
  · rw [h2]; rfl
  · rw [h3]; rfl
theorem pn_in2 {j N : Nat} (h : j < N) (hj : j < 2 ^ 31) : ¬ (nI j < 0 ∨ N ≤ j) := fun z => z.elim (fun z => nI_pos hj z) (fun z => by omega)
theorem pn_sub1 {t : Nat} (h : 1 ≤ t) : nI t - 1 = nI (t - 1) := pn_sub (b := 1) h
theorem pn_nle5 {v : Nat} (h : v < 2 ^ 31) : ¬ nI v ≤ -5 := by
  rw [Int32.le_iff_toInt_le, nI_toInt h]
  show ¬ (v : Int) ≤ -5
  omega
theorem l_loop {N : Nat} {st op ar : Nat → Int32} {hg : Nat → Nat} (ok : LawOK N st op ar hg) {g hi f d q1 : Int32} {fa : Nat → Int32} (h0 : fa 0 = g) (h1 : fa 1 = hi) (h2 : fa 2 = f) (h3 : fa 3 = d) :
    ∀ (dd i fu fv : Nat) (u v : Nat → Int32), i + dd = N → dd < fu → dd < fv → (∀ j, j < hg i → u j = v j) →
      ∃ r u' v', m_X3_tell_6 st (nI N) g hi f d fu (nI (hg i)) (nI i) u = some (r, u') ∧ m_X12_worthAt_4 op ar fa q1 fv (nI (hg i)) (nI i) v = some (r, v')
  | 0, i, fu + 1, fv + 1, u, v, h, _, _, huv => by
    have : i = N := by omega
    subst this
    have hN := ok.2.2.1
    refine ⟨u 0, u, v, ?_, ?_⟩
    · unfold m_X3_tell_6
      rw [if_pos (nI_le (Nat.le_refl _) (by omega))]
      rfl
    · unfold m_X12_worthAt_4
      rw [if_pos (nI_in (show i < 2200 by omega) (by omega)), nI_clamp (by omega), ok.2.2.2.1, if_pos rfl, huv 0 (by rw [ok.2.1]; omega)]
      rfl
  | dd + 1, i, fu + 1, fv + 1, u, v, h, hf, hf', huv => by
    have hN := ok.2.2.1
    have hi' : i < N := by omega
    have hl := ok.2.2.2.2 i hi'
    have g1 : ¬ nI N ≤ nI i := nI_ge hi' (by omega)
    have g2 : ¬ (1000 : Int32) ≤ nI i := nI_ge (b := 1000) (by omega) (by omega)
    have ga : ¬ (nI i < 0 ∨ 1000 ≤ (nI i).toNatClampNeg) := nI_in (by omega) (by omega)
    have gb : ¬ (nI i < 0 ∨ 2200 ≤ (nI i).toNatClampNeg) := nI_in (by omega) (by omega)
    have ci : (nI i).toNatClampNeg = i := nI_clamp (by omega)
    unfold m_X3_tell_6 m_X12_worthAt_4
    rw [if_neg g1, if_neg g2, if_pos ga, if_pos gb, if_pos gb, ci]
    generalize ht : hg i = t at hl huv ⊢
    rcases hl with ⟨w, hw, hs, ho, ha, hlt, hh⟩ | ⟨c, hc, hs, ho, ha, hlt, hh⟩ | ⟨hs, ho, hge, hle, hh⟩ | ⟨hj, hge, hle, hh⟩
    · -- a number
      rw [hs, ho, if_neg (pn_nle5 (by omega)), if_neg (show ¬ (21 : Int32) ≤ nI t from nI_ge (b := 21) hlt (by omega)), if_neg (nI_pos (by omega)), if_neg (show ¬ (1 : Int32) = 0 by decide), if_pos rfl]
      unfold m_X3_tell_77 m_X12_worthAt_33 m_X12_worthAt_64
      rw [if_pos (nI_in (show t < 21 by omega) (by omega)), if_pos rfl, if_pos gb, if_pos (nI_in (show t < 1100 by omega) (by omega)), ci, ha, nI_clamp (show t < 2 ^ 31 by omega), nI_1, nI_1]
      rw [← hh]
      exact l_loop ok h0 h1 h2 h3 dd (i + 1) fu fv _ _ (by omega) (by omega) (by omega) (fun j hj => l_upd huv (by omega) j (by omega) (by omega))
    · -- a fact
      rw [ho, if_neg (show ¬ (2 : Int32) = 0 by decide), if_neg (show ¬ (2 : Int32) = 1 by decide), if_pos (show (2 : Int32) = 2 from rfl)]
      have k1 : ¬ st i ≤ -5 := by rw [hs]; rcases (show c = 0 ∨ c = 1 ∨ c = 2 ∨ c = 3 by omega) with rfl | rfl | rfl | rfl <;> decide
      have k2 : st i < 0 := by rw [hs]; rcases (show c = 0 ∨ c = 1 ∨ c = 2 ∨ c = 3 by omega) with rfl | rfl | rfl | rfl <;> decide
      rw [if_neg k1, if_neg (show ¬ (21 : Int32) ≤ nI t from nI_ge (b := 21) hlt (by omega)), if_pos k2, hs, l_fact hc h0 h1 h2 h3, Option.bind_some]
      unfold m_X3_tell_77 m_X12_worthAt_33 m_X12_worthAt_64
      rw [if_pos (nI_in (show t < 21 by omega) (by omega)), if_neg (show ¬ (2 : Int32) = 1 by decide), if_pos gb, ci, ha, if_pos (nI_in hc (by omega)), nI_clamp (show c < 2 ^ 31 by omega), if_pos (nI_in (show t < 1100 by omega) (by omega)), nI_clamp (show t < 2 ^ 31 by omega), nI_1, nI_1]
      rw [← hh]
      exact l_loop ok h0 h1 h2 h3 dd (i + 1) fu fv _ _ (by omega) (by omega) (by omega) (fun j hj => l_upd huv (by omega) j (by omega) (by omega))
    · -- not
      rw [hs, ho, if_pos (show (-5 : Int32) ≤ -5 by decide), if_neg (show ¬ (3 : Int32) = 0 by decide), if_neg (show ¬ (3 : Int32) = 1 by decide), if_neg (show ¬ (3 : Int32) = 2 by decide), if_pos (show (3 : Int32) = 3 from rfl)]
      unfold m_X3_tell_84
      rw [if_pos rfl, if_neg (show ¬ nI t < 1 from nI_nlt (b := 1) hge (by omega)), if_neg (show ¬ (21 : Int32) < nI t from nI_nlt (a := 21) hle (by omega)), pn_sub1 hge, if_pos (nI_in (show t - 1 < 21 by omega) (by omega)), if_pos (nI_in (show t - 1 < 1100 by omega) (by omega)), nI_clamp (show t - 1 < 2 ^ 31 by omega), huv (t - 1) (by omega)]
      unfold m_X3_tell_132 m_X12_worthAt_100
      rw [if_pos (nI_in (show t - 1 < 21 by omega) (by omega)), if_pos (nI_in (show t - 1 < 21 by omega) (by omega)), if_pos (nI_in (show t - 1 < 1100 by omega) (by omega)), if_pos (nI_in (show t - 1 < 1100 by omega) (by omega)), nI_clamp (show t - 1 < 2 ^ 31 by omega), nI_1]
      by_cases hz : v (t - 1) = 0
      · rw [if_pos hz, if_pos hz, ← hh]
        exact l_loop ok h0 h1 h2 h3 dd (i + 1) fu fv _ _ (by omega) (by omega) (by omega) (fun j hj => l_upd huv (by omega) j (by omega) (by omega))
      · rw [if_neg hz, if_neg hz, ← hh]
        exact l_loop ok h0 h1 h2 h3 dd (i + 1) fu fv _ _ (by omega) (by omega) (by omega) (fun j hj => l_upd huv (by omega) j (by omega) (by omega))
    · -- two values are put together
      have k1 : st i ≤ -5 ∧ ¬ st i = -5 ∧ ¬ (-5 : Int32) ≤ st i := by
        rcases hj with ⟨e, -⟩ | ⟨e, -⟩ | ⟨e, -⟩ | ⟨e, -⟩ | ⟨e, -⟩ | ⟨e, -⟩ | ⟨e, -⟩ <;> rw [e] <;> decide
      have k2 : ¬ op i = 0 ∧ ¬ op i = 1 ∧ ¬ op i = 2 ∧ ¬ op i = 3 := by
        rcases hj with ⟨-, e⟩ | ⟨-, e⟩ | ⟨-, e⟩ | ⟨-, e⟩ | ⟨-, e⟩ | ⟨-, e⟩ | ⟨-, e⟩ <;> rw [e] <;> decide
      rw [if_pos k1.1, if_neg k2.1, if_neg k2.2.1, if_neg k2.2.2.1, if_neg k2.2.2.2]
      unfold m_X3_tell_84
      rw [if_neg k1.2.1]
      unfold m_X3_tell_136
      rw [if_neg k1.2.2, if_neg (show ¬ nI t < 2 from nI_nlt (b := 2) hge (by omega)), if_neg (show ¬ (21 : Int32) < nI t from nI_nlt (a := 21) hle (by omega)), pn_dec (show 1 ≤ t by omega), pn_sub1 (show 1 ≤ t - 1 by omega),
        if_pos (nI_in (show t - 1 - 1 < 21 by omega) (by omega)), if_pos (nI_in (show t - 1 < 21 by omega) (by omega)), if_pos (nI_in (show t - 1 - 1 < 1100 by omega) (by omega)), if_pos (nI_in (show t - 1 < 1100 by omega) (by omega)), nI_clamp (show t - 1 - 1 < 2 ^ 31 by omega), nI_clamp (show t - 1 < 2 ^ 31 by omega), huv (t - 1 - 1) (by omega), huv (t - 1) (by omega)]
      obtain ⟨r, r1, r2⟩ := l_join (x := v (t - 1 - 1)) (y := v (t - 1)) hj
      rw [r1, r2, Option.bind_some, Option.bind_some, if_pos (pn_in2 (show t - 1 - 1 < 21 by omega) (by omega)), if_pos (pn_in2 (show t - 1 - 1 < 1100 by omega) (by omega)), nI_1]
      rw [show t - 1 = hg (i + 1) by omega]
      exact l_loop ok h0 h1 h2 h3 dd (i + 1) fu fv _ _ (by omega) (by omega) (by omega) (fun j hj => l_upd (t := hg (i + 1) - 1) (fun j hj => huv j (by omega)) (by omega) j (by omega) (by omega))
theorem l_tell {N : Nat} {st op ar : Nat → Int32} {hg : Nat → Nat} (ok : LawOK N st op ar hg) (g hi f d : Int32) (fa u v : Nat → Int32) (h0 : fa 0 = g) (h1 : fa 1 = hi) (h2 : fa 2 = f) (h3 : fa 3 = d) :
    ∃ r u' v', m_X3_tell st u (nI N) g hi f d = some (r, u') ∧ m_X12_worthAt op ar fa v 0 = some (r, v') := by
  have hFU := FU_ge
  have hN := ok.2.2.1
  unfold m_X3_tell m_X12_worthAt
  revert hFU
  generalize FU = fu
  intro hFU
  have h := l_loop ok (q1 := 0) h0 h1 h2 h3 N 0 fu fu u v (by omega) (by omega) (by omega) (fun j hj => by rw [ok.1] at hj; omega)
  rw [ok.1] at h
  exact h
/-- what the law says of one, whatever lies on the pile -/
def HasLaw (st : Nat → Int32) (size : Int32) (Lv : Int32 → Int32 → Int32 → Int32 → Int32) : Prop := ∀ (u : Nat → Int32) (g hi f d : Int32), ∃ u', m_X3_tell st u size g hi f d = some (Lv g hi f d, u')
def QLaw (tf op ar : Nat → Int32) (Lv : Int32 → Int32 → Int32 → Int32 → Int32) : Prop := (0 ≤ tf 4 → ∀ fa v : Nat → Int32, ∃ v', m_X12_worthAt op ar fa v (tf 4) = some (Lv (fa 0) (fa 1) (fa 2) (fa 3), v')) ∧ (¬ 0 ≤ tf 4 → ∀ g hi f d, Lv g hi f d = f - 1)
theorem l_both {N : Nat} {st op ar tf : Nat → Int32} {hg : Nat → Nat} (ok : LawOK N st op ar hg) (h4 : tf 4 = 0) : ∃ Lv, HasLaw st (nI N) Lv ∧ QLaw tf op ar Lv := by
  have key : ∀ g hi f d : Int32, ∃ r, (∀ u, ∃ u', m_X3_tell st u (nI N) g hi f d = some (r, u')) ∧ ∀ (fa v : Nat → Int32), fa 0 = g → fa 1 = hi → fa 2 = f → fa 3 = d → ∃ v', m_X12_worthAt op ar fa v 0 = some (r, v') := by
    intro g hi f d
    let fa : Nat → Int32 := fun j => if j = 0 then g else if j = 1 then hi else if j = 2 then f else d
    obtain ⟨r, u1, v1, e1, e2⟩ := l_tell ok g hi f d fa (fun _ => 0) (fun _ => 0) rfl rfl rfl rfl
    refine ⟨r, fun u => ?_, fun fb v k0 k1 k2 k3 => ?_⟩
    · obtain ⟨r', u2, v2, e3, e4⟩ := l_tell ok g hi f d fa u (fun _ => 0) rfl rfl rfl rfl
      rw [e2] at e4
      have := (Prod.mk.inj (Option.some.inj e4)).1
      exact ⟨u2, by rw [e3, this]⟩
    · obtain ⟨r', u2, v2, e3, e4⟩ := l_tell ok g hi f d fb (fun _ => 0) v k0 k1 k2 k3
      rw [e1] at e3
      have := (Prod.mk.inj (Option.some.inj e3)).1
      exact ⟨v2, by rw [e4, this]⟩
  refine ⟨fun g hi f d => (key g hi f d).choose, fun u g hi f d => (key g hi f d).choose_spec.1 u, fun _ fa v => ?_, fun h => absurd (by rw [h4]; decide) h⟩
  rw [h4]
  exact (key _ _ _ _).choose_spec.2 fa v rfl rfl rfl rfl
