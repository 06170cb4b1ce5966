/-! PURE: words of a row, names -/
section NAMES
variable {Z N n : Nat} {T P : Nat → Nat} {sg tp so pl : Nat → Int32} {ln : Int32} {va wf : Nat → Int64} {pc be sc nu fa at_ fm : Int32} {le : Int64} {wd : Nat}
/-- the word's place in a row of words -/
def wH (wd a b : Nat) : Int32 := if a < wd ∧ wd ≤ b then nI (wd - 1 - a) else -1
theorem wordHere_loop (hC : CX Z N T P sg tp ln so pl va wf) (h : PA T P Z N n pc be sc nu le wd fa at_ fm) {a m : Nat} (hm : a + m ≤ 26) : ∀ (c i fu : Nat), i + c = m → c < fu → m_X12_wordHere_5 so va at_ fm wf (nI a) (nI m) fu (wH wd a (a + i)) (nI i) = some (wH wd a (a + m))
  | 0, i, fu + 1, e, _ => by
    have : i = m := by omega
    subst this
    unfold m_X12_wordHere_5
    rw [if_pos (nI_le (Nat.le_refl _) (by omega))]
  | c + 1, i, fu + 1, e, hf => by
    unfold m_X12_wordHere_5
    obtain ⟨b, -, e2, e3, -⟩ := a_word hC h (j := a + i) (by omega)
    rw [if_neg (nI_ge (show i < m by omega) (by omega)), nI_add, e2, Option.bind_some]
    have ih := wordHere_loop hC h hm c (i + 1) fu (by omega) (by omega)
    cases b with
    | true =>
      have := e3.mp rfl
      rw [if_neg (show ¬ chI true = 0 by decide), nI_1]
      have e4 : wH wd a (a + (i + 1)) = nI i := by
        unfold wH
        rw [if_pos (by omega), show wd - 1 - a = i by omega]
      rw [e4] at ih
      exact ih
    | false =>
      have : ¬ wd = a + i + 1 := fun z => by cases e3.mpr z
      rw [if_pos (show chI false = 0 from rfl), nI_1]
      have e4 : wH wd a (a + (i + 1)) = wH wd a (a + i) := by
        unfold wH
        by_cases y : a < wd ∧ wd ≤ a + i
        · rw [if_pos y, if_pos (by omega)]
        · rw [if_neg y, if_neg (by omega)]
      rw [e4] at ih
      exact ih
theorem q_wordHere (hC : CX Z N T P sg tp ln so pl va wf) (h : PA T P Z N n pc be sc nu le wd fa at_ fm) {a m : Nat} (hm : a + m ≤ 26) : m_X12_wordHere so va at_ fm wf (nI a) (nI m) = some (wH wd a (a + m)) := by
  have hFU := FU_ge
  unfold m_X12_wordHere
  revert hFU; generalize FU = fu; intro hFU
  have := wordHere_loop hC h hm m 0 fu (by omega) (by omega)
  have e : wH wd a (a + 0) = -1 := by unfold wH; rw [if_neg (by omega)]
  rw [e] at this
  exact this
theorem wH_neg {a b : Nat} (h27 : wd < 27) : (0 ≤ wH wd a b ↔ a < wd ∧ wd ≤ b) ∧ (wH wd a b < 0 ↔ ¬ (a < wd ∧ wd ≤ b)) ∧ (wH wd a b = -1 ↔ ¬ (a < wd ∧ wd ≤ b)) := by
  unfold wH
  by_cases y : a < wd ∧ wd ≤ b
  · rw [if_pos y]
    have k : wd - 1 - a < 27 := by omega
    generalize wd - 1 - a = v at k
    have : ∀ v : Nat, v < 27 → (0 ≤ nI v) ∧ ¬ (nI v < 0) ∧ ¬ (nI v = -1) := by decide
    obtain ⟨h1, h2, h3⟩ := this v k
    exact ⟨⟨fun _ => y, fun _ => h1⟩, ⟨fun z => absurd z h2, fun z => absurd y z⟩, ⟨fun z => absurd z h3, fun z => absurd y z⟩⟩
  · rw [if_neg y]
    exact ⟨⟨fun z => absurd z (by decide), fun z => absurd z y⟩, ⟨fun _ => y, fun _ => by decide⟩, ⟨fun _ => y, fun _ => rfl⟩⟩
theorem k_kind : ∀ wd : Nat, wd < 27 → m_X8_kindOf wd = some (wH wd 15 19) := by decide +kernel
theorem k_round : ∀ wd : Nat, wd < 27 → m_X8_roundingOf wd = some (wH wd 7 10) := by decide +kernel
theorem k_deed : ∀ wd : Nat, wd < 27 → m_X10_deedOf wd = some (wH wd 10 15) := by decide +kernel
theorem k_fact : ∀ wd : Nat, wd < 27 → m_X3_factOf wd = some (if 22 < wd then -(nI (wd - 22)) else -13) := by decide +kernel
theorem k_res : ∀ wd : Nat, wd < 27 → (wRes wd = 0 ↔ ¬ (0 < wd ∧ wd ≤ 22)) := by decide +kernel
/-- a word of a row is wanted -/
theorem a_takeOne (hC : CX Z N T P sg tp ln so pl va wf) (h : PA T P Z N n pc be sc nu le wd fa at_ fm) {a m : Nat} (hm : a + m ≤ 26) : OT (if wH wd a (a + m) = -1 then Option.bind (m_X7_refuse pc sc wd fa 1) (fun r6 => Option.bind (m_X7_advance sg ln pc be r6.1 nu le r6.2.1 r6.2.2) (fun r4 => some (wH wd a (a + m), r4.1, r4.2.1, r4.2.2.1, r4.2.2.2.1, r4.2.2.2.2.1, r4.2.2.2.2.2, r6.2.2))) else Option.bind (m_X7_advance sg ln pc be sc nu le wd fa) (fun r4 => some (wH wd a (a + m), r4.1, r4.2.1, r4.2.2.1, r4.2.2.2.1, r4.2.2.2.2.1, r4.2.2.2.2.2, fa))) (m_X12_takeOne so pl va at_ fm wf (nI a) (nI m)) (fun R R' => ∃ n', n ≤ n' ∧ (R.2.2.2.2.2.2.2 = 0 → fa = 0 ∧ n' = n + 1 ∧ ∃ v : Nat, v < m ∧ R.1 = nI v ∧ R'.1 = nI v) ∧ PA T P Z N n' R.2.1 R.2.2.1 R.2.2.2.1 R.2.2.2.2.1 R.2.2.2.2.2.1 R.2.2.2.2.2.2.1 R.2.2.2.2.2.2.2 R'.2.1 R'.2.2) := by
  have h27 := h.wd27
  have hpos := h.pos
  have hf := h.1
  obtain ⟨w1, w2, w3⟩ := wH_neg (a := a) (b := a + m) h27
  unfold m_X12_takeOne
  rw [q_wordHere hC h hm]
  by_cases y : a < wd ∧ wd ≤ a + m
  · obtain ⟨b, -, -, e3, e4⟩ := a_word hC h (j := wd - 1) (by omega)
    obtain ⟨h0, hn⟩ := e4 (e3.mpr (by omega))
    have hfm : fm = 0 := by rw [← hf]; exact h0
    refine OT.negL (fun z => (w3.mp z) y) (OT.posR (by rw [hfm]; decide) (OT.eqR rfl ?_))
    unfold m_X12_takeOne_17 m_X12_takeOne_34 m_X12_takeOne_51
    refine OT.posR hfm (OT.posR (w1.mpr y) (OT.posR (by rw [hfm]; decide) (OT.posR (by rw [hfm]; decide) (OT.bdL (a_adv hC h h0 hn) (fun R hR => OT.ret ⟨n + 1, by omega, fun _ => ⟨h0, rfl, wd - 1 - a, by omega, ?_, ?_⟩, hR⟩)))))
    · show wH wd a (a + m) = _
      unfold wH; rw [if_pos y]
    · show wH wd a (a + m) = _
      unfold wH; rw [if_pos y]
  · have key : OT (Option.bind (m_X7_refuse pc sc wd fa 1) (fun r6 => Option.bind (m_X7_advance sg ln pc be r6.1 nu le r6.2.1 r6.2.2) (fun r4 => some (wH wd a (a + m), r4.1, r4.2.1, r4.2.2.1, r4.2.2.2.1, r4.2.2.2.2.1, r4.2.2.2.2.2, r6.2.2)))) (Option.bind (m_X12_wrong pl at_ fm 1) (fun r3 => m_X12_takeOne_34 so pl va wf (nI a) (nI m) (-1) at_ r3)) (fun R R' => ∃ n', n ≤ n' ∧ (R.2.2.2.2.2.2.2 = 0 → fa = 0 ∧ n' = n + 1 ∧ ∃ v : Nat, v < m ∧ R.1 = nI v ∧ R'.1 = nI v) ∧ PA T P Z N n' R.2.1 R.2.2.1 R.2.2.2.1 R.2.2.2.2.1 R.2.2.2.2.2.1 R.2.2.2.2.2.2.1 R.2.2.2.2.2.2.2 R'.2.1 R'.2.2) := by
      refine OT.bd (a_bad hC h (k := 1) (by omega) (by omega)) (fun R R' hR => ?_)
      rw [a_stay (ne0_of_pos hR.1), Option.bind_some]
      unfold m_X12_takeOne_34 m_X12_takeOne_51
      have q : ¬ R' ≤ 0 := fun z => by
        rw [← hR.2.1] at z
        exact ne0_of_pos hR.1 (hR.2.pos.1.mp z)
      refine OT.negR q (OT.negR q (OT.ret ⟨n, by omega, fun z => absurd z (ne0_of_pos hR.1), ?_⟩))
      show PA T P Z N n pc be R.1 nu le R.2.1 R.2.2 (at_ + 0) R'
      rw [Int32.add_zero]
      exact hR.2
    refine OT.posL (w3.mpr y) ?_
    by_cases h0 : fa = 0
    · have hfm : fm = 0 := by rw [← hf]; exact h0
      refine OT.posR (by rw [hfm]; decide) (OT.eqR rfl ?_)
      unfold m_X12_takeOne_17
      rw [w3.mpr y] at key ⊢
      exact OT.posR hfm (OT.negR (by decide) key)
    · have hfm : ¬ fm = 0 := by rw [← hf]; exact h0
      refine OT.negR (fun z => h0 (by rw [← hf] at z; exact hpos.1.mp z)) ?_
      unfold m_X12_takeOne_17
      refine OT.negR hfm ?_
      have e3 : m_X12_wrong pl at_ fm 1 = some fm := by unfold m_X12_wrong; rw [if_neg hfm]
      rw [e3, Option.bind_some] at key
      exact key
theorem a_takeKind (hC : CX Z N T P sg tp ln so pl va wf) (h : PA T P Z N n pc be sc nu le wd fa at_ fm) : OT (m_X8_takeKind sg ln pc be sc nu le wd fa) (m_X12_takeOne so pl va at_ fm wf 15 4) (fun R R' => ∃ n', n ≤ n' ∧ (R.2.2.2.2.2.2.2 = 0 → fa = 0 ∧ n' = n + 1 ∧ ∃ v : Nat, v < 4 ∧ R.1 = nI v ∧ R'.1 = nI v) ∧ PA T P Z N n' R.2.1 R.2.2.1 R.2.2.2.1 R.2.2.2.2.1 R.2.2.2.2.2.1 R.2.2.2.2.2.2.1 R.2.2.2.2.2.2.2 R'.2.1 R'.2.2) := by
  unfold m_X8_takeKind m_X8_takeKind_18
  rw [k_kind wd h.wd27, Option.bind_some]
  exact a_takeOne hC h (a := 15) (m := 4) (by omega)
theorem a_takeRounding (hC : CX Z N T P sg tp ln so pl va wf) (h : PA T P Z N n pc be sc nu le wd fa at_ fm) : OT (m_X8_takeRounding sg ln pc be sc nu le wd fa) (m_X12_takeOne so pl va at_ fm wf 7 3) (fun R R' => ∃ n', n ≤ n' ∧ (R.2.2.2.2.2.2.2 = 0 → fa = 0 ∧ n' = n + 1 ∧ ∃ v : Nat, v < 3 ∧ R.1 = nI v ∧ R'.1 = nI v) ∧ PA T P Z N n' R.2.1 R.2.2.1 R.2.2.2.1 R.2.2.2.2.1 R.2.2.2.2.2.1 R.2.2.2.2.2.2.1 R.2.2.2.2.2.2.2 R'.2.1 R'.2.2) := by
  unfold m_X8_takeRounding m_X8_takeRounding_18
  rw [k_round wd h.wd27, Option.bind_some]
  exact a_takeOne hC h (a := 7) (m := 3) (by omega)
/-- a name stands here -/
theorem a_name (hC : CX Z N T P sg tp ln so pl va wf) (h : PA T P Z N n pc be sc nu le wd fa at_ fm) : ∃ b : Bool, m_X7_atName sc wd = some (chI b) ∧ m_X12_isName so va at_ fm wf = some (chI b) ∧ (b = true → fa = 0 ∧ n < N ∧ LR le (va n)) := by
  have hN := hC.bnd
  have h27 := h.wd27
  have hw := q_wordHere hC h (a := 0) (m := 22) (by omega)
  obtain ⟨w1, -, -⟩ := wH_neg (a := 0) (b := 0 + 22) h27
  obtain ⟨hf, hn, ha, h⟩ := h
  unfold m_X7_atName m_X12_isName
  rw [show m_X12_wordHere so va at_ fm wf 0 22 = _ from hw, ← hf]
  rcases h with ⟨h0, hp⟩ | ⟨h1, h2, h3⟩
  · obtain ⟨s, e, t1, t2, t3, t4, t5, t6, t7, t8, t9, -, -, t12, -⟩ := tk hC hn hp
    rw [if_pos h0, ha, nI_clamp (show n < 2 ^ 31 by omega), if_pos (pn_in2 (show n < 1002 by omega) (by omega)), t4, t5, if_pos h27, Option.bind_some]
    by_cases s1 : s = 1
    · have e1 : nI s = 1 := by rw [s1]; rfl
      rw [if_pos e1, if_pos e1]
      by_cases y : 0 < wd ∧ wd ≤ 22
      · exact ⟨false, by rw [if_neg (fun z => (k_res wd h27).mp z y)]; rfl, by rw [if_pos (w1.mpr (by omega))]; rfl, fun z => by cases z⟩
      · refine ⟨true, by rw [if_pos ((k_res wd h27).mpr y)]; rfl, by rw [if_neg (fun z => y (by have := w1.mp z; omega))]; rfl, fun _ => ⟨h0, ?_, (t12 s1).1⟩⟩
        rcases Nat.lt_or_ge n N with y | y
        · exact y
        · have := t9.mpr (by omega); omega
    · have e3 : ¬ nI s = 1 := fun z => s1 ((nI_eq (b := 1) (by omega) (by omega)).mp z)
      exact ⟨false, by rw [if_neg e3]; rfl, by rw [if_neg e3]; rfl, fun z => by cases z⟩
  · exact ⟨false, by rw [h2, if_neg (by decide)]; rfl, by rw [if_neg (ne0_of_pos h1)]; rfl, fun z => by cases z⟩
/-- names as both hold them -/
def NMr (k : Nat) (f g : Nat → Int64) : Prop := k ≤ 6 ∧ ∀ j, j < k → LR (f j) (g j)
/-- the model's names, told or read -/
def QNm (q : Int32) (k : Nat) (nm rn : Nat → Int64) (m1 m2 : Int32) (g : Nat → Int64) : Prop := (q = 0 ∧ m1 = nI k ∧ g = nm) ∨ (q = 1 ∧ m2 = nI k ∧ g = rn)
theorem find_loop {k : Nat} {f g nm rn : Nat → Int64} {q m1 m2 : Int32} {y : Int64} (hn : n < 1002) (hl : LR le (va n)) (hr : NMr k f g) (hq : QNm q k nm rn m1 m2 g) : ∀ (c i fu fv : Nat), i + c = k → c < fu → c < fv → ∃ r, m_X8_find_2 f (nI k) y fu le (nI i) = some r ∧ m_X12_nameAt_2 va (nI n) nm rn m1 m2 q fv (nI i) = some r ∧ (r = -1 ∨ ∃ j, j < k ∧ r = nI j)
  | 0, i, fu + 1, fv + 1, e, _, _ => by
    have : i = k := by omega
    subst this
    have hk := hr.1
    unfold m_X8_find_2 m_X12_nameAt_2 m_X12_nameAt_18
    refine ⟨-1, by rw [if_pos (nI_le (Nat.le_refl _) (by omega))], ?_, Or.inl rfl⟩
    rcases hq with ⟨rfl, rfl, -⟩ | ⟨rfl, rfl, -⟩
    · rw [if_pos rfl, if_pos (nI_le (Nat.le_refl _) (by omega))]
    · rw [if_neg (by decide), if_pos (nI_le (Nat.le_refl _) (by omega))]
  | c + 1, i, fu + 1, fv + 1, e, h1, h2 => by
    have hk := hr.1
    have ih := find_loop (y := y) hn hl hr hq c (i + 1) fu fv (by omega) (by omega) (by omega)
    have eq := (hr.2 i (by omega)).eq hl
    have hm : m_X12_nameAt_2 va (nI n) nm rn m1 m2 q (fv + 1) (nI i) = if g i = va n then some (nI i) else m_X12_nameAt_2 va (nI n) nm rn m1 m2 q fv (nI (i + 1)) := by
      rw [m_X12_nameAt_2]
      unfold m_X12_nameAt_18 m_X12_nameAt_40
      rw [nI_clamp (show n < 2 ^ 31 by omega), if_pos (pn_in2 hn (by omega)), if_pos (pn_in2 hn (by omega)), nI_clamp (show i < 2 ^ 31 by omega), if_pos (pn_in2 (show i < 6 by omega) (by omega)), if_pos (pn_in2 (show i < 6 by omega) (by omega)), nI_1]
      rcases hq with ⟨rfl, rfl, rfl⟩ | ⟨rfl, rfl, rfl⟩
      · rw [if_pos rfl, if_neg (nI_ge (show i < k by omega) (by omega)), if_pos rfl]
        simp only [lcmp0]
      · rw [if_neg (by decide), if_neg (nI_ge (show i < k by omega) (by omega)), if_neg (by decide)]
        simp only [lcmp0]
    rw [hm, m_X8_find_2, if_neg (nI_ge (show i < k by omega) (by omega)), if_neg (show ¬ (6 : Int32) ≤ nI i from nI_ge (b := 6) (by omega) (by omega)), nI_clamp (show i < 2 ^ 31 by omega), if_pos (pn_in2 (show i < 6 by omega) (by omega)), nI_1]
    by_cases z : f i = le
    · rw [if_pos (lcmp0.mpr z), if_pos (eq.mp z)]
      exact ⟨nI i, rfl, rfl, Or.inr ⟨i, by omega, rfl⟩⟩
    · rw [if_neg (fun t => z (lcmp0.mp t)), if_neg (fun t => z (eq.mpr t))]
      exact ih
theorem a_find {k : Nat} {f g nm rn : Nat → Int64} {q m1 m2 : Int32} (hn : n < 1002) (hl : LR le (va n)) (hr : NMr k f g) (hq : QNm q k nm rn m1 m2 g) : ∃ r, m_X8_find f (nI k) le = some r ∧ m_X12_nameAt va (nI n) nm rn m1 m2 q = some r ∧ (r = -1 ∨ ∃ j, j < k ∧ r = nI j) := by
  have hFU := FU_ge
  have hk := hr.1
  unfold m_X8_find m_X12_nameAt
  revert hFU; generalize FU = fu; intro hFU
  exact find_loop hn hl hr hq k 0 fu fu (by omega) (by omega) (by omega)
theorem nn1 {j : Nat} (h : j < 2 ^ 31) : ¬ nI j = -1 := fun z => by
  have : (nI j).toInt = (-1 : Int32).toInt := by rw [z]
  rw [nI_toInt h] at this
  have e : (-1 : Int32).toInt = -1 := by decide
  omega
end NAMES
