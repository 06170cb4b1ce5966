/-! PURE: the rests of a game. The class's own walk is told here by hand (it throws): none within is a throw -/
def m_X11_rests_L (both loses gets what : Int32) : Nat → Int32 → Int32 → Option (Option Int32)
  | 0, _, _ => none
  | n + 1, x5, x6 => if 4 ≤ x6 then (if what = -1 then some (some x5) else some none) else (Option.bind (m_X11_isRest x6 both loses gets) (fun r1 => if r1 = 0 then (m_X11_rests_L both loses gets what n x5 (x6 + 1)) else (if x5 = what then some (some x6) else (m_X11_rests_L both loses gets what n (x5 + 1) (x6 + 1)))))
def m_X11_restsH (both loses gets what : Int32) : Option (Option Int32) := Option.bind (m_X11_within both 0 9) (fun r1 => if r1 = 0 then some none else Option.bind (m_X11_within loses 0 9) (fun r2 => if r2 = 0 then some none else Option.bind (m_X11_within gets 0 9) (fun r3 => if r3 = 0 then some none else m_X11_rests_L both loses gets what FU 0 0)))
def gB (a b q1 q2 q3 : Int32) : Int32 := if a = 1 then (if b = 1 then q1 else -q2) else (if b = 1 then q3 else 0)
theorem gB_ok {a b q1 q2 q3 : Int32} : m_X12_getsBy a b q1 q2 q3 = some (gB a b q1 q2 q3) := by
  unfold m_X12_getsBy gB
  repeat' split
  all_goals rfl
/-- both ask the same of a pair of choices -/
def rsB (b l g j : Nat) : Bool := decide (m_X11_isRest (nI j) (nI b) (nI l) (nI g) = some 1)
def gC (b l g j : Nat) : Bool := decide (gB (nI j / 2) (nI j - nI j / 2 * 2) (nI b) (nI l) (nI g) < gB (1 - nI j / 2) (nI j - nI j / 2 * 2) (nI b) (nI l) (nI g)) || decide (gB (nI j - nI j / 2 * 2) (nI j / 2) (nI b) (nI l) (nI g) < gB (1 - (nI j - nI j / 2 * 2)) (nI j / 2) (nI b) (nI l) (nI g))
theorem rs_d : ∀ b : Nat, b < 10 → ∀ l : Nat, l < 10 → ∀ g : Nat, g < 10 → ∀ j : Nat, j < 4 → m_X11_isRest (nI j) (nI b) (nI l) (nI g) = some (chI (rsB b l g j)) ∧ rsB b l g j = !(gC b l g j) := by decide +kernel
theorem rs_dec (b : Nat) (hb : b < 10) (l : Nat) (hl : l < 10) (g : Nat) (hg : g < 10) (j : Nat) (hj : j < 4) : m_X11_isRest (nI j) (nI b) (nI l) (nI g) = some (chI (rsB b l g j)) ∧ (rsB b l g j = false ↔ (gB (nI j / 2) (nI j - nI j / 2 * 2) (nI b) (nI l) (nI g) < gB (1 - nI j / 2) (nI j - nI j / 2 * 2) (nI b) (nI l) (nI g) ∨ gB (nI j - nI j / 2 * 2) (nI j / 2) (nI b) (nI l) (nI g) < gB (1 - (nI j - nI j / 2 * 2)) (nI j / 2) (nI b) (nI l) (nI g))) := by
  obtain ⟨h1, h2⟩ := rs_d b hb l hl g hg j hj
  refine ⟨h1, ?_⟩
  rw [h2]
  unfold gC
  simp only [Bool.not_eq_false', Bool.or_eq_true, decide_eq_true_eq]
section RESTS
variable {b l g : Nat} {what th : Int32}
def kR (b l g : Nat) (what : Int32) (n : Nat) := m_X12_rests_52 (nI b) (nI l) (nI g) what n
theorem rests_step (hb : b < 10) (hl : l < 10) (hg : g < 10) {j n : Nat} (hj : j < 4) {x6 x7 : Int32} : m_X12_rests_52 (nI b) (nI l) (nI g) what (n + 1) 1 x6 x7 (nI j) th = if rsB b l g j = true then m_X12_rests_52 (nI b) (nI l) (nI g) what n 1 (x6 + 1) (if x6 = what then nI j else x7) (nI (j + 1)) th else m_X12_rests_52 (nI b) (nI l) (nI g) what n 1 x6 x7 (nI (j + 1)) th := by
  obtain ⟨-, h2⟩ := rs_dec b hb l hl g hg j hj
  rw [m_X12_rests_52, if_neg (show ¬ (4 : Int32) ≤ nI j from nI_ge (b := 4) hj (by omega)), if_neg (show ¬ (1 : Int32) = 0 by decide), gB_ok, gB_ok, gB_ok, gB_ok]
  simp only [Option.bind_some]
  unfold m_X12_rests_129 m_X12_rests_130 m_X12_rests_149 m_X12_rests_151
  rw [if_pos (show (0 : Int32) = 0 from rfl), if_neg (show ¬ (1 : Int32) = 0 by decide), nI_1, Int32.add_zero]
  cases e : rsB b l g j with
  | true =>
    have h3 : ¬ _ := fun z => by have := h2.mpr z; rw [e] at this; cases this
    have h4 := fun z => h3 (Or.inl z)
    have h5 := fun z => h3 (Or.inr z)
    rw [if_neg h4, if_neg h5, if_pos rfl]
    by_cases w : x6 = what
    · rw [if_pos w, if_pos w, if_neg (show ¬ (1 : Int32) = 0 by decide)]
    · rw [if_neg w, if_neg w, if_neg (show ¬ (1 : Int32) = 0 by decide)]
  | false =>
    rw [if_neg (show ¬ false = true by decide)]
    rcases h2.mp e with z | z
    · rw [if_pos z]; rfl
    · split
      · rfl
      · rfl
/-- found: the model goes on to its end -/
theorem rests_found (hb : b < 10) (hl : l < 10) (hg : g < 10) {v : Nat} (hv : v < 4) {q : Nat} (hq : q < 4) : ∀ (c j m fu : Nat), j + c = 4 → c < fu → q < m → m ≤ j → m_X12_rests_52 (nI b) (nI l) (nI g) (nI q) fu 1 (nI m) (nI v) (nI j) th = some (nI v, 0)
  | 0, j, m, fu + 1, e, _, h1, h2 => by
    have : j = 4 := by omega
    subst this
    rw [m_X12_rests_52, if_pos (show (4 : Int32) ≤ nI 4 by decide)]
    unfold m_X12_rests_174 m_X12_rests_194 m_X12_rests_190 m_X12_rests_195
    rw [if_neg (show ¬ (1 : Int32) = 0 by decide), if_neg (nI_pos (show q < 2 ^ 31 by omega)), if_neg (nI_pos (show v < 2 ^ 31 by omega)), if_pos (by decide), if_pos (show (0 : Int32) ≤ nI q from nI_le (a := 0) (by omega) (by omega))]
  | c + 1, j, m, fu + 1, e, hf, h1, h2 => by
    rw [rests_step hb hl hg (show j < 4 by omega), if_neg (show ¬ nI m = nI q from fun z => by have := (nI_eq (by omega) (by omega)).mp z; omega), nI_1]
    split
    · exact rests_found hb hl hg hv hq c (j + 1) (m + 1) fu (by omega) (by omega) (by omega) (by omega)
    · exact rests_found hb hl hg hv hq c (j + 1) m fu (by omega) (by omega) (by omega) (by omega)
def RsE (R : Option Int32) (R' : Int32 × Int32) : Prop := (R = none ∧ R'.2 = 1) ∨ ∃ v, R = some v ∧ R'.2 = 0 ∧ R'.1 = v
theorem rests_loop (hb : b < 10) (hl : l < 10) (hg : g < 10) (hw : ¬ what < -1) : ∀ (c j m fu fv : Nat), j + c = 4 → c < fu → c < fv → m ≤ j → OT (m_X11_rests_L (nI b) (nI l) (nI g) what fu (nI m) (nI j)) (m_X12_rests_52 (nI b) (nI l) (nI g) what fv 1 (nI m) (-1) (nI j) th) RsE
  | 0, j, m, fu + 1, fv + 1, e, _, _, h2 => by
    have : j = 4 := by omega
    subst this
    rw [m_X11_rests_L, m_X12_rests_52]
    unfold m_X12_rests_174 m_X12_rests_194 m_X12_rests_190 m_X12_rests_195
    refine OT.posL (by decide) (OT.posR (by decide) (OT.negR (by decide) ?_))
    by_cases w : what = -1
    · subst w
      exact OT.posL rfl (OT.posR (by decide) (OT.posR (by decide) (OT.negR (by decide) (OT.ret (Or.inr ⟨_, rfl, rfl, rfl⟩)))))
    · have w0 : ¬ what < 0 := by
        intro z
        rw [Int32.lt_iff_toInt_lt] at z hw
        have e0 : (0 : Int32).toInt = 0 := by decide
        have e1 : (-1 : Int32).toInt = -1 := by decide
        refine w (pn_inj ?_)
        omega
      exact OT.negL w (OT.negR w0 (OT.posR (by decide) (OT.negR (by decide) (OT.ret (Or.inl ⟨rfl, rfl⟩)))))
  | c + 1, j, m, fu + 1, fv + 1, e, hf, hf', h2 => by
    obtain ⟨h1, -⟩ := rs_dec b hb l hl g hg j (by omega)
    rw [rests_step hb hl hg (show j < 4 by omega), m_X11_rests_L, if_neg (show ¬ (4 : Int32) ≤ nI j from nI_ge (b := 4) (by omega) (by omega)), h1, Option.bind_some, nI_1, nI_1]
    cases e' : rsB b l g j with
    | true =>
      rw [if_neg (show ¬ chI true = 0 by decide), if_pos rfl]
      by_cases w : nI m = what
      · subst w
        rw [if_pos rfl, if_pos rfl, rests_found hb hl hg (show j < 4 by omega) (show m < 4 by omega) c (j + 1) (m + 1) fv (by omega) (by omega) (by omega) (by omega)]
        exact OT.ret (Or.inr ⟨_, rfl, rfl, rfl⟩)
      · rw [if_neg w, if_neg w]
        exact rests_loop hb hl hg hw c (j + 1) (m + 1) fu fv (by omega) (by omega) (by omega) (by omega)
    | false =>
      rw [if_pos (show chI false = 0 from rfl), if_neg (show ¬ false = true by decide)]
      exact rests_loop hb hl hg hw c (j + 1) m fu fv (by omega) (by omega) (by omega) (by omega)
theorem rests_none (hb : b < 10) (hl : l < 10) (hg : g < 10) (hw : what < -1) : ∀ (c j m fu : Nat), j + c = 4 → c < fu → m ≤ j → m_X11_rests_L (nI b) (nI l) (nI g) what fu (nI m) (nI j) = some none
  | 0, j, m, fu + 1, e, _, h2 => by
    have : j = 4 := by omega
    subst this
    rw [m_X11_rests_L, if_pos (show (4 : Int32) ≤ nI 4 by decide), if_neg (fun z => by rw [z] at hw; exact absurd hw (by decide))]
  | c + 1, j, m, fu + 1, e, hf, h2 => by
    obtain ⟨h1, -⟩ := rs_dec b hb l hl g hg j (by omega)
    have nw : ¬ nI m = what := fun z => by
      rw [← z, Int32.lt_iff_toInt_lt, nI_toInt (by omega)] at hw
      have e1 : (-1 : Int32).toInt = -1 := by decide
      omega
    rw [m_X11_rests_L, if_neg (show ¬ (4 : Int32) ≤ nI j from nI_ge (b := 4) (by omega) (by omega)), h1, Option.bind_some, nI_1, nI_1, if_neg nw]
    split
    · exact rests_none hb hl hg hw c (j + 1) m fu (by omega) (by omega) (by omega)
    · exact rests_none hb hl hg hw c (j + 1) (m + 1) fu (by omega) (by omega) (by omega)
theorem l_rests (q1 q2 q3 q4 : Int32) : OT (m_X11_restsH q1 q2 q3 q4) (m_X12_rests th q1 q2 q3 q4) RsE := by
  have out : OT (some (none : Option Int32)) (m_X12_rests_52 q1 q2 q3 q4 FU 0 0 (-1) 0 th) RsE := by
    have hFU := FU_ge
    revert hFU; generalize FU = fu; intro hFU
    obtain ⟨fu, rfl⟩ : ∃ k, fu = k + 1 := ⟨fu - 1, by omega⟩
    rw [m_X12_rests_52]
    unfold m_X12_rests_174 m_X12_rests_194 m_X12_rests_195
    exact OT.negR (by decide) (OT.posR rfl (OT.posR rfl (OT.negR (by decide) (OT.ret (Or.inl ⟨rfl, rfl⟩)))))
  unfold m_X11_restsH m_X12_rests
  rcases w_rng q1 0 9 (by omega) (by omega) with ⟨a1, a2⟩ | ⟨b, -, b1, rfl, a1, a2⟩
  · exact OT.eqL a1 (OT.posL rfl (OT.eqR a2 (OT.posR rfl out)))
  · refine OT.eqL a1 (OT.negL (by decide) (OT.eqR a2 (OT.negR (by decide) ?_)))
    rcases w_rng q2 0 9 (by omega) (by omega) with ⟨a1, a2⟩ | ⟨l, -, l1, rfl, a1, a2⟩
    · exact OT.eqL a1 (OT.posL rfl (OT.eqR a2 (OT.posR rfl out)))
    · refine OT.eqL a1 (OT.negL (by decide) (OT.eqR a2 (OT.negR (by decide) ?_)))
      rcases w_rng q3 0 9 (by omega) (by omega) with ⟨a1, a2⟩ | ⟨g, -, g1, rfl, a1, a2⟩
      · exact OT.eqL a1 (OT.posL rfl (OT.eqR a2 (OT.posR rfl out)))
      · refine OT.eqL a1 (OT.negL (by decide) (OT.eqR a2 (OT.negR (by decide) ?_)))
        by_cases w : q4 < -1
        · have hFU := FU_ge
          rw [show m_X11_rests_L (nI b) (nI l) (nI g) q4 FU 0 0 = some none from rests_none (by omega) (by omega) (by omega) w 4 0 0 FU (by omega) (by omega) (by omega)]
          exact OT.posR w out
        · have hFU := FU_ge
          exact OT.negR w (rests_loop (by omega) (by omega) (by omega) w 4 0 0 FU FU (by omega) (by omega) (by omega) (by omega))
end RESTS
