/-! PURE: a token read on both sides -/
def cdG (b : Nat) (g : Nat → Nat) : Nat → Nat
  | 0 => 0
  | k + 1 => cdG b g k * b + g k
theorem cdT_G {b : Nat} {T : Nat → Nat} {q : Nat} : ∀ k, cdT b T q k = cdG b (fun i => T (q + i) - 96) k
  | 0 => rfl
  | k + 1 => by
    show cdT b T q k * b + (T (q + k) - 96) = cdG b _ k * b + (T (q + k) - 96)
    rw [cdT_G k]
theorem cdG_lt {b : Nat} {g : Nat → Nat} (hb : 27 ≤ b) : ∀ k, (∀ i, i < k → 1 ≤ g i ∧ g i ≤ 26) → cdG b g k < b ^ k
  | 0, _ => by show 0 < b ^ 0; rw [Nat.pow_zero]; omega
  | k + 1, h => by
    have ih := cdG_lt hb k (fun i hi => h i (by omega))
    have hk := h k (by omega)
    show cdG b g k * b + g k < b ^ (k + 1)
    rw [Nat.pow_succ]
    have : (cdG b g k + 1) * b ≤ b ^ k * b := Nat.mul_le_mul_right b ih
    rw [Nat.add_mul] at this
    omega
theorem cdG_pos {b : Nat} {g : Nat → Nat} {k : Nat} (h : 1 ≤ g k) : ¬ cdG b g (k + 1) = 0 := by
  show ¬ cdG b g k * b + g k = 0
  omega
theorem cdG_inj {b : Nat} (hb : 27 ≤ b) {g g' : Nat → Nat} : ∀ k k', (∀ i, i < k → 1 ≤ g i ∧ g i ≤ 26) → (∀ i, i < k' → 1 ≤ g' i ∧ g' i ≤ 26) → (cdG b g k = cdG b g' k' ↔ (k = k' ∧ ∀ i, i < k → g i = g' i))
  | 0, 0, _, _ => ⟨fun _ => ⟨rfl, fun i hi => by omega⟩, fun _ => rfl⟩
  | 0, k' + 1, _, h' => ⟨fun z => absurd z.symm (cdG_pos (h' k' (by omega)).1), fun z => by omega⟩
  | k + 1, 0, h, _ => ⟨fun z => absurd z (cdG_pos (h k (by omega)).1), fun z => by omega⟩
  | k + 1, k' + 1, h, h' => by
    have ih := cdG_inj hb k k' (fun i hi => h i (by omega)) (fun i hi => h' i (by omega))
    have d1 := h k (by omega)
    have d2 := h' k' (by omega)
    constructor
    · intro z
      have z' : cdG b g k * b + g k = cdG b g' k' * b + g' k' := z
      have m1 : (cdG b g k * b + g k) % b = g k := by rw [Nat.mul_comm, Nat.mul_add_mod]; exact Nat.mod_eq_of_lt (by omega)
      have m2 : (cdG b g' k' * b + g' k') % b = g' k' := by rw [Nat.mul_comm, Nat.mul_add_mod]; exact Nat.mod_eq_of_lt (by omega)
      have e1 : g k = g' k' := by rw [← m1, ← m2, z']
      have e2 : cdG b g k * b = cdG b g' k' * b := by omega
      have e3 : cdG b g k = cdG b g' k' := Nat.eq_of_mul_eq_mul_right (by omega) e2
      obtain ⟨rfl, f1⟩ := ih.mp e3
      exact ⟨rfl, fun i hi => by
        by_cases y : i = k
        · rw [y]; exact e1
        · exact f1 i (by omega)⟩
    · rintro ⟨e, f⟩
      have e' : k = k' := by omega
      subst e'
      show cdG b g k * b + g k = cdG b g' k * b + g' k
      rw [ih.mpr ⟨rfl, fun i hi => f i (by omega)⟩, f k (by omega)]
/-- a word as the class and as the model hold it -/
def LR (x y : Int64) : Prop := ∃ (g : Nat → Nat) (k : Nat), k ≤ 8 ∧ (∀ i, i < k → 1 ≤ g i ∧ g i ≤ 26) ∧ x = lN (cdG 32 g k) ∧ y = lN (cdG 37 g k)
theorem lN_inj {a b : Nat} (ha : a < 2 ^ 62) (hb : b < 2 ^ 62) : lN a = lN b ↔ a = b := by
  refine ⟨fun z => ?_, fun z => by rw [z]⟩
  have : (lN a).toInt = (lN b).toInt := by rw [z]
  rw [l_toInt ha, l_toInt hb] at this
  omega
theorem p32 {k : Nat} (h : k ≤ 8) : 32 ^ k < 2 ^ 62 := Nat.lt_of_le_of_lt (Nat.pow_le_pow_right (by omega) h) (by decide)
theorem p37 {k : Nat} (h : k ≤ 8) : 37 ^ k < 2 ^ 62 := Nat.lt_of_le_of_lt (Nat.pow_le_pow_right (by omega) h) (by decide)
theorem LR.eq {x y x' y' : Int64} (h : LR x y) (h' : LR x' y') : x = x' ↔ y = y' := by
  obtain ⟨g, k, hk, hg, rfl, rfl⟩ := h
  obtain ⟨g', k', hk', hg', rfl, rfl⟩ := h'
  rw [lN_inj (Nat.lt_trans (cdG_lt (by omega) k hg) (p32 hk)) (Nat.lt_trans (cdG_lt (by omega) k' hg') (p32 hk')), lN_inj (Nat.lt_trans (cdG_lt (by omega) k hg) (p37 hk)) (Nat.lt_trans (cdG_lt (by omega) k' hg') (p37 hk')), cdG_inj (by omega) k k' hg hg', cdG_inj (by omega) k k' hg hg']
/-- the model's words, by their letters -/
def wdM : Nat → Int64 := fun i => ([1119812451, 22545118, 11505539, 660581, 1604747591, 1277386687, 11320465, 4904, 793, 716042, 629079, 9788, 36421547, 310960, 5538, 30596128, 23280048, 43567634, 6040476, 19741, 1891, 573, 375629, 417812, 311227, 204726] : List Int64).getD i 0
def rwL : List (List Nat) := [[16, 5, 18, 19, 15, 14], [12, 1, 3, 11, 19], [6, 5, 5, 12, 19], [13, 1, 19, 20], [23, 5, 9, 7, 8, 19], [18, 15, 21, 14, 4, 19], [6, 1, 18, 5, 19], [3, 21, 20], [21, 16], [14, 5, 1, 18], [12, 15, 19, 5], [7, 5, 20], [19, 16, 1, 18, 5], [6, 5, 5, 12], [4, 1, 25], [16, 12, 1, 9, 14], [12, 15, 22, 5, 18], [23, 9, 4, 15, 23], [3, 8, 9, 12, 4], [14, 15, 20], [1, 14, 4], [15, 18], [7, 15, 14, 5], [8, 9, 7, 8], [6, 5, 12, 20], [4, 1, 20, 5]]
def rg (j i : Nat) : Nat := (rwL.getD j []).getD i 0
def rk (j : Nat) : Nat := (rwL.getD j []).length
theorem res_ok : ∀ j : Nat, j < 26 → rk j ≤ 8 ∧ (∀ i : Nat, i < rk j → 1 ≤ rg j i ∧ rg j i ≤ 26) ∧ wLet (j + 1) = lN (cdG 32 (rg j) (rk j)) ∧ wdM j = lN (cdG 37 (rg j) (rk j)) := by decide +kernel
theorem LR_res {j : Nat} (h : j < 26) : LR (wLet (j + 1)) (wdM j) := by
  obtain ⟨h1, h2, h3, h4⟩ := res_ok j h
  exact ⟨rg j, rk j, h1, h2, h3, h4⟩
theorem nmT_lt {T : Nat → Nat} {q : Nat} : ∀ k, (∀ j, j < k → dgt (T (q + j))) → nmT T q k < 10 ^ k
  | 0, _ => by show 0 < 10 ^ 0; decide
  | k + 1, h => by
    have ih := nmT_lt k (fun j hj => h j (by omega))
    have hk := h k (by omega)
    unfold dgt at hk
    show nmT T q k * 10 + (T (q + k) - 48) < 10 ^ (k + 1)
    rw [Nat.pow_succ]
    omega
/-! the context: the tape, the model's tokens, its words -/
def CX (Z N : Nat) (T P : Nat → Nat) (sg tp : Nat → Int32) (ln : Int32) (so pl : Nat → Int32) (va : Nat → Int64) (wf : Nat → Int64) : Prop := TP Z T sg tp ln (nI Z) ∧ QA T Z N P so pl va ∧ ∀ j, j < 26 → wf j = wdM j
/-- both are at token n, or a fault was told -/
def PA (T P : Nat → Nat) (Z N n : Nat) (pc be sc nu : Int32) (le : Int64) (wd : Nat) (fa at_ fm : Int32) : Prop := fa = fm ∧ n ≤ N ∧ at_ = nI n ∧ ((fa = 0 ∧ CP T Z (P n) pc be sc nu le wd) ∨ (0 < fa ∧ sc = 4 ∧ wd = 0))
section PRIM
variable {Z N n : Nat} {T P : Nat → Nat} {sg tp so pl : Nat → Int32} {ln : Int32} {va wf : Nat → Int64} {pc be sc nu fa at_ fm : Int32} {le : Int64} {wd : Nat}
theorem CX.bnd (h : CX Z N T P sg tp ln so pl va wf) : N ≤ Z ∧ Z ≤ 1000 := ⟨h.2.1.1, h.1.1⟩
/-- what is known of the token -/
theorem tk (h : CX Z N T P sg tp ln so pl va wf) (hn : n ≤ N) (hc : CP T Z (P n) pc be sc nu le wd) : ∃ s e, Tok T Z (P n) s e ∧ pc = nI (P n) ∧ be = nI e ∧ sc = nI s ∧ so n = nI s ∧ pl n = nI (P n) ∧ P n ≤ Z ∧ s ≤ 4 ∧ (s = 0 ↔ n = N) ∧ e ≤ Z ∧ (n < N → Run blk T Z e (P (n + 1))) ∧ (s = 1 → LR le (va n) ∧ WD wd le) ∧ (¬ s = 1 → wd = 0) ∧ (s = 2 → ∃ v : Nat, v ≤ 9999 ∧ nu = nI v ∧ va n = lN v) ∧ (s = 3 → va n = lN (T (P n)) ∧ P n < Z ∧ T (P n) ≤ 126) := by
  obtain ⟨s, e, t1, c1, c2, c3, c4, c5, c6⟩ := hc
  obtain ⟨hT, hA, -⟩ := h
  have te := t1.ends
  by_cases e0 : n = N
  · subst e0
    obtain ⟨a1, a2, a3, a4, a5, a6⟩ := hA
    have s0 : s = 0 := te.2.2.2.2.mpr a3
    subst s0
    exact ⟨0, e, t1, c1, c2, c3, a5, by rw [a4, a3], by omega, by omega, ⟨fun _ => rfl, fun _ => rfl⟩, te.2.1, fun z => by omega, fun z => by omega, c5, fun z => by omega, fun z => by omega⟩
  · obtain ⟨hP, s', e', b1, b2, b3, b4, b5⟩ := hA.2.2.2.2.2 n (by omega)
    obtain ⟨rfl, rfl⟩ := t1.uniq b1
    have hs0 : ¬ s = 0 := fun z => by have := te.2.2.2.2.mp z; omega
    refine ⟨s, e, t1, c1, c2, c3, b3, b2, by omega, te.2.2.1, ⟨fun z => absurd z hs0, fun z => absurd z e0⟩, te.2.1, fun _ => b5, fun z => ?_, c5, fun z => ?_, fun z => ?_⟩
    · refine ⟨?_, (c4 z).2⟩
      have hl : ltr (T (P n)) ∧ Run ltr T Z (P n) e ∧ e - P n ≤ 8 := by
        rcases t1 with ⟨-, y, -⟩ | ⟨-, y1, y2, y3⟩ | ⟨-, -, -, y⟩ | ⟨-, -, -, -, y⟩
        · omega
        · refine ⟨y1, y2, ?_⟩
          split at y3 <;> omega
        · split at y <;> omega
        · omega
      refine ⟨fun i => T (P n + i) - 96, e - P n, hl.2.2, fun i hi => ?_, ?_, ?_⟩
      · have := hl.2.1.2.2.1 (P n + i) (by omega) (by omega)
        unfold ltr at this
        dsimp only
        omega
      · rw [(c4 z).1, cdT_G]
      · rw [b4.1 z, cdT_G]
    · have hl : Run dgt T Z (P n) e ∧ e - P n ≤ 4 := by
        rcases t1 with ⟨-, y, -⟩ | ⟨-, -, -, y⟩ | ⟨-, y1, y2, y3⟩ | ⟨-, -, -, -, y⟩
        · omega
        · split at y <;> omega
        · refine ⟨y2, ?_⟩
          split at y3 <;> omega
        · omega
      have hlt := nmT_lt (T := T) (q := P n) (e - P n) (fun j hj => hl.1.2.2.1 (P n + j) (by omega) (by omega))
      have h4 : 10 ^ (e - P n) ≤ 10 ^ 4 := Nat.pow_le_pow_right (by omega) hl.2
      exact ⟨nmT T (P n) (e - P n), by omega, c6 z, b4.2.1 z⟩
    · exact ⟨b4.2.2 z, hP, chT hT hP⟩
theorem PA.wd27 (h : PA T P Z N n pc be sc nu le wd fa at_ fm) : wd < 27 := by
  obtain ⟨-, -, -, h⟩ := h
  rcases h with ⟨-, s, e, -, -, -, -, c4, c5, -⟩ | ⟨-, -, h⟩
  · by_cases z : s = 1
    · exact (c4 z).2.1
    · rw [c5 z]; omega
  · omega
theorem PA.pos (h : PA T P Z N n pc be sc nu le wd fa at_ fm) : (fa ≤ 0 ↔ fa = 0) ∧ ¬ fa < 0 := by
  obtain ⟨-, -, -, h⟩ := h
  rcases h with ⟨h, -⟩ | ⟨h, -⟩
  · rw [h]; exact ⟨⟨fun _ => rfl, fun _ => by decide⟩, by decide⟩
  · rw [Int32.lt_iff_toInt_lt] at h
    have e : (0 : Int32).toInt = 0 := by decide
    refine ⟨⟨fun z => ?_, fun z => ?_⟩, fun z => ?_⟩
    · rw [Int32.le_iff_toInt_le] at z; omega
    · rw [z] at h; omega
    · rw [Int32.lt_iff_toInt_lt] at z; omega
theorem ne0_of_pos {x : Int32} (h : 0 < x) : ¬ x = 0 := fun z => by rw [z] at h; exact absurd h (by decide)
theorem a_sign (hC : CX Z N T P sg tp ln so pl va wf) (h : PA T P Z N n pc be sc nu le wd fa at_ fm) {c : Nat} (hc : c ≤ 126) : ∃ b : Bool, m_X7_atSign sg ln pc sc (nI c) = some (chI b) ∧ m_X12_isSign so va at_ fm (nI c) = some (chI b) ∧ (b = true → fa = 0 ∧ n < N ∧ sc = 3) := by
  have hN := hC.bnd
  obtain ⟨hf, hn, ha, h⟩ := h
  unfold m_X7_atSign m_X12_isSign
  rw [← hf]
  rcases h with ⟨h0, hp⟩ | ⟨h1, h2, h3⟩
  · obtain ⟨s, e, t1, t2, t3, t4, t5, t6, t7, t8, t9, -, -, -, -, -, t15⟩ := tk hC hn hp
    rw [if_pos h0, ha, nI_clamp (show n < 2 ^ 31 by omega), if_pos (pn_in2 (show n < 1002 by omega) (by omega)), if_pos (pn_in2 (show n < 1002 by omega) (by omega)), t4, t5]
    by_cases s3 : s = 3
    · obtain ⟨v1, v2, v3⟩ := t15 s3
      rw [s3, if_pos (show nI 3 = 3 from rfl), if_pos (show nI 3 = 3 from rfl), t2, c_sign hC.1 v2, Option.bind_some, v1, nI_l (show c < 2 ^ 31 by omega)]
      by_cases ec : T (P n) = c
      · refine ⟨true, by rw [ec, if_pos rfl]; rfl, by rw [ec, if_pos (lcmp0.mpr rfl)]; rfl, fun _ => ⟨h0, ?_, rfl⟩⟩
        rcases Nat.lt_or_ge n N with y | y
        · exact y
        · have := t9.mpr (by omega); omega
      · refine ⟨false, ?_, ?_, fun z => by cases z⟩
        · rw [if_neg (fun z => ec ((nI_eq (by omega) (by omega)).mp z))]; rfl
        · rw [if_neg (fun z => ec ((lN_inj (by omega) (by omega)).mp (lcmp0.mp z)))]; rfl
    · have e3 : ¬ nI s = 3 := fun z => s3 ((nI_eq (b := 3) (by omega) (by omega)).mp z)
      exact ⟨false, by rw [if_neg e3]; rfl, by rw [if_neg e3]; rfl, fun z => by cases z⟩
  · refine ⟨false, by rw [h2, if_neg (by decide)]; rfl, by rw [if_neg (ne0_of_pos h1)]; rfl, fun z => by cases z⟩
theorem a_word (hC : CX Z N T P sg tp ln so pl va wf) (h : PA T P Z N n pc be sc nu le wd fa at_ fm) {j : Nat} (hj : j < 26) : ∃ b : Bool, m_X7_atWord wd (j + 1) = some (chI b) ∧ m_X12_isWord so va at_ fm wf (nI j) = some (chI b) ∧ (b = true ↔ wd = j + 1) ∧ (b = true → fa = 0 ∧ n < N) := by
  have hN := hC.bnd
  have h27 := h.wd27
  obtain ⟨hf, hn, ha, h⟩ := h
  unfold m_X7_atWord m_X12_isWord
  rw [if_pos (show wd < 27 ∧ j + 1 < 27 by omega), ← hf]
  rcases h with ⟨h0, hp⟩ | ⟨h1, h2, h3⟩
  · obtain ⟨s, e, t1, t2, t3, t4, t5, t6, t7, t8, t9, -, -, t12, t13, -, -⟩ := tk hC hn hp
    rw [if_pos h0, ha, nI_clamp (show n < 2 ^ 31 by omega), if_pos (pn_in2 (show n < 1002 by omega) (by omega)), if_pos (pn_in2 (show n < 1002 by omega) (by omega)), t5, nI_clamp (show j < 2 ^ 31 by omega), if_pos (pn_in2 hj (by omega)), hC.2.2 j hj]
    by_cases s1 : s = 1
    · obtain ⟨l1, l2⟩ := t12 s1
      rw [s1, if_pos (show nI 1 = 1 from rfl)]
      have eq : wd = j + 1 ↔ va n = wdM j := (l2.2 j hj).trans (l1.eq (LR_res hj))
      by_cases ew : wd = j + 1
      · refine ⟨true, by rw [if_pos ew]; rfl, by rw [if_pos (lcmp0.mpr (eq.mp ew))]; rfl, ⟨fun _ => ew, fun _ => rfl⟩, fun _ => ⟨h0, ?_⟩⟩
        rcases Nat.lt_or_ge n N with y | y
        · exact y
        · have := t9.mpr (by omega); omega
      · exact ⟨false, by rw [if_neg ew]; rfl, by rw [if_neg (fun z => ew (eq.mpr (lcmp0.mp z)))]; rfl, ⟨fun z => (by cases z), fun z => absurd z ew⟩, fun z => by cases z⟩
    · have e3 : ¬ nI s = 1 := fun z => s1 ((nI_eq (b := 1) (by omega) (by omega)).mp z)
      have w0 := t13 s1
      exact ⟨false, by rw [if_neg (by omega)]; rfl, by rw [if_neg e3]; rfl, ⟨fun z => (by cases z), fun z => by omega⟩, fun z => by cases z⟩
  · exact ⟨false, by rw [if_neg (by omega)]; rfl, by rw [if_neg (ne0_of_pos h1)]; rfl, ⟨fun z => (by cases z), fun z => by omega⟩, fun z => by cases z⟩
theorem a_num (hC : CX Z N T P sg tp ln so pl va wf) (h : PA T P Z N n pc be sc nu le wd fa at_ fm) : (m_X7_atNumber sc = some 1 ∧ fa = 0 ∧ n < N ∧ so n = 2 ∧ sc = 2 ∧ wd = 0 ∧ ∃ v : Nat, v ≤ 9999 ∧ nu = nI v ∧ va n = lN v) ∨ (m_X7_atNumber sc = some 0 ∧ (fa = 0 → ¬ so n = 2)) := by
  have hN := hC.bnd
  obtain ⟨hf, hn, ha, h⟩ := h
  unfold m_X7_atNumber
  rcases h with ⟨h0, hp⟩ | ⟨h1, h2, h3⟩
  · obtain ⟨s, e, t1, t2, t3, t4, t5, t6, t7, t8, t9, -, -, -, t13, t14, -⟩ := tk hC hn hp
    rw [t4]
    by_cases s2 : s = 2
    · refine Or.inl ⟨by rw [s2]; rfl, h0, ?_, by rw [t5, s2]; rfl, by rw [s2]; rfl, t13 (by omega), t14 s2⟩
      rcases Nat.lt_or_ge n N with y | y
      · exact y
      · have := t9.mpr (by omega); omega
    · have e3 : ¬ nI s = 2 := fun z => s2 ((nI_eq (b := 2) (by omega) (by omega)).mp z)
      exact Or.inr ⟨by rw [if_neg e3], fun _ => by rw [t5]; exact e3⟩
  · exact Or.inr ⟨by rw [h2, if_neg (by decide)], fun z => absurd z (ne0_of_pos h1)⟩
/-- the next token -/
theorem a_adv (hC : CX Z N T P sg tp ln so pl va wf) (h : PA T P Z N n pc be sc nu le wd fa at_ fm) (h0 : fa = 0) (hn : n < N) : OK (m_X7_advance sg ln pc be sc nu le wd fa) (fun R => PA T P Z N (n + 1) R.1 R.2.1 R.2.2.1 R.2.2.2.1 R.2.2.2.2.1 R.2.2.2.2.2 fa (at_ + 1) fm) := by
  obtain ⟨hf, -, ha, h⟩ := h
  rcases h with ⟨-, hp⟩ | ⟨h1, -⟩
  · obtain ⟨s, e, t1, t2, t3, t4, t5, t6, t7, t8, t9, t10, t11, -⟩ := tk hC (by omega) hp
    rw [t3, h0]
    refine OK.imp (c_advance hC.1 t10) (fun R hR => ?_)
    obtain ⟨q, r1, r2⟩ := hR
    have := (t11 hn).uniq r1
    subst this
    exact ⟨by rw [← hf]; exact h0.symm, by omega, by rw [ha, nI_1], Or.inl ⟨rfl, r2⟩⟩
  · exact absurd h0 (ne0_of_pos h1)
theorem a_stay (h1 : ¬ fa = 0) : m_X7_advance sg ln pc be sc nu le wd fa = some (pc, be, sc, nu, le, wd) := by
  unfold m_X7_advance
  rw [if_neg h1]
theorem fk_pos {k q : Nat} (hk : 1 ≤ k) (hk2 : k ≤ 5) (hq : q ≤ 1000) : (0 : Int32) < nI k + 16 * nI q := by
  show 0 < nI k + nI 16 * nI q
  rw [pn_mul, nI_add]
  exact nI_lt (a := 0) (by omega) (by omega)
/-- a fault is told -/
theorem a_bad (hC : CX Z N T P sg tp ln so pl va wf) (h : PA T P Z N n pc be sc nu le wd fa at_ fm) {k : Nat} (hk : 1 ≤ k) (hk2 : k ≤ 5) : OT (m_X7_refuse pc sc wd fa (nI k)) (m_X12_wrong pl at_ fm (nI k)) (fun R R' => 0 < R.2.2 ∧ PA T P Z N n pc be R.1 nu le R.2.1 R.2.2 at_ R') := by
  have hN := hC.bnd
  obtain ⟨hf, hn, ha, h⟩ := h
  unfold m_X7_refuse m_X12_wrong m_X7_refuse_20
  rw [← hf]
  rcases h with ⟨h0, hp⟩ | ⟨h1, h2, h3⟩
  · obtain ⟨s, e, t1, t2, t3, t4, t5, t6, t7, -⟩ := tk hC hn hp
    rw [ha, nI_clamp (show n < 2 ^ 31 by omega), t2, t6]
    refine OT.posL h0 (OT.posR h0 (OT.posR (pn_in2 (show n < 1002 by omega) (by omega)) (OT.ret ?_)))
    have hp := fk_pos hk hk2 (show P n ≤ 1000 by omega)
    exact ⟨hp, rfl, hn, rfl, Or.inr ⟨hp, rfl, rfl⟩⟩
  · exact OT.negL (ne0_of_pos h1) (OT.negR (ne0_of_pos h1) (OT.ret ⟨h1, rfl, hn, ha, Or.inr ⟨h1, rfl, rfl⟩⟩))
theorem a_takeSign (hC : CX Z N T P sg tp ln so pl va wf) (h : PA T P Z N n pc be sc nu le wd fa at_ fm) {c : Nat} (hc : c ≤ 126) : OT (m_X7_takeSign sg ln pc be sc nu le wd fa (nI c)) (m_X12_takeSign so pl va at_ fm (nI c)) (fun R R' => ∃ n', n ≤ n' ∧ (R.2.2.2.2.2.2 = 0 → fa = 0 ∧ n' = n + 1) ∧ PA T P Z N n' R.1 R.2.1 R.2.2.1 R.2.2.2.1 R.2.2.2.2.1 R.2.2.2.2.2.1 R.2.2.2.2.2.2 R'.1 R'.2) := by
  obtain ⟨b, e1, e2, e3⟩ := a_sign hC h hc
  unfold m_X7_takeSign m_X12_takeSign
  refine OT.eqL e1 (OT.eqR e2 ?_)
  cases b with
  | true =>
    obtain ⟨g1, g2, -⟩ := e3 rfl
    refine OT.negL (by decide) (OT.negR (by decide) (OT.bdL (a_adv hC h g1 g2) (fun R hR => OT.ret ⟨n + 1, by omega, fun _ => ⟨g1, rfl⟩, hR⟩)))
  | false =>
    refine OT.posL rfl (OT.posR rfl (OT.bd (a_bad hC h (k := 1) (by omega) (by omega)) (fun R R' hR => OT.ret ⟨n, by omega, fun z => absurd z (ne0_of_pos hR.1), hR.2⟩)))
theorem q_hasWord {q : Int32} {b : Bool} (e : m_X12_isWord so va at_ fm wf q = some (chI b)) : m_X12_hasWord so va at_ fm wf q = some (chI b, if b then at_ + 1 else at_) := by
  unfold m_X12_hasWord m_X12_hasWord_20
  rw [e, Option.bind_some]
  cases b
  · rw [if_pos (show chI false = 0 from rfl), if_pos (by decide), Int32.add_zero]; rfl
  · rw [if_neg (show ¬ chI true = 0 by decide), if_pos (by decide)]; rfl
theorem q_hasSign {q : Int32} {b : Bool} (e : m_X12_isSign so va at_ fm q = some (chI b)) : m_X12_hasSign so va at_ fm q = some (chI b, if b then at_ + 1 else at_) := by
  unfold m_X12_hasSign m_X12_hasSign_20
  rw [e, Option.bind_some]
  cases b
  · rw [if_pos (show chI false = 0 from rfl), if_pos (by decide), Int32.add_zero]; rfl
  · rw [if_neg (show ¬ chI true = 0 by decide), if_pos (by decide)]; rfl
theorem a_takeWord (hC : CX Z N T P sg tp ln so pl va wf) (h : PA T P Z N n pc be sc nu le wd fa at_ fm) {j : Nat} (hj : j < 26) : OT (m_X7_takeWord sg ln pc be sc nu le wd fa (j + 1)) (m_X12_takeWord so pl va at_ fm wf (nI j)) (fun R R' => ∃ n', n ≤ n' ∧ (R.2.2.2.2.2.2 = 0 → fa = 0 ∧ n' = n + 1) ∧ PA T P Z N n' R.1 R.2.1 R.2.2.1 R.2.2.2.1 R.2.2.2.2.1 R.2.2.2.2.2.1 R.2.2.2.2.2.2 R'.1 R'.2) := by
  obtain ⟨b, e1, e2, -, e3⟩ := a_word hC h hj
  unfold m_X7_takeWord m_X12_takeWord
  rw [q_hasWord e2]
  refine OT.eqL e1 (OT.eqR rfl ?_)
  cases b with
  | true =>
    obtain ⟨g1, g2⟩ := e3 rfl
    exact OT.negL (by decide) (OT.negR (show ¬ chI true = 0 by decide) (OT.bdL (a_adv hC h g1 g2) (fun R hR => OT.ret ⟨n + 1, by omega, fun _ => ⟨g1, rfl⟩, hR⟩)))
  | false =>
    exact OT.posL rfl (OT.posR rfl (OT.bd (a_bad hC h (k := 1) (by omega) (by omega)) (fun R R' hR => OT.ret ⟨n, by omega, fun z => absurd z (ne0_of_pos hR.1), hR.2⟩)))
theorem lcmp_lt {a b : Nat} (ha : a < 2 ^ 62) (hb : b < 2 ^ 62) : (lg_cmp (lN a) (lN b) < 0 ↔ a < b) ∧ (lg_cmp (lN a) (lN b) ≤ 0 ↔ a ≤ b) := by
  unfold lg_cmp
  have e1 : lN a > lN b ↔ b < a := by
    show lN b < lN a ↔ _
    rw [Int64.lt_iff_toInt_lt, l_toInt ha, l_toInt hb]; omega
  by_cases h1 : b < a
  · rw [if_pos (e1.mpr h1)]
    exact ⟨⟨fun z => absurd z (by decide), fun z => by omega⟩, ⟨fun z => absurd z (by decide), fun z => by omega⟩⟩
  · rw [if_neg (fun z => h1 (e1.mp z))]
    by_cases h2 : a = b
    · subst h2
      rw [if_pos rfl]
      exact ⟨⟨fun z => absurd z (by decide), fun z => by omega⟩, ⟨fun _ => by omega, fun _ => by decide⟩⟩
    · rw [if_neg (fun z => h2 ((lN_inj ha hb).mp z))]
      exact ⟨⟨fun _ => by omega, fun _ => by decide⟩, ⟨fun _ => by omega, fun _ => by decide⟩⟩
theorem a_takeNumber (hC : CX Z N T P sg tp ln so pl va wf) (h : PA T P Z N n pc be sc nu le wd fa at_ fm) {lo hi : Nat} (hlo : lo ≤ hi) (hhi : hi ≤ 1000) : OT (m_X7_takeNumber sg ln pc be sc nu le wd fa (nI lo) (nI hi)) (m_X12_takeNumber so pl va at_ fm (nI lo) (nI hi)) (fun R R' => ∃ n', n ≤ n' ∧ (R.2.2.2.2.2.2.2 = 0 → fa = 0 ∧ n' = n + 1 ∧ ∃ v : Nat, lo ≤ v ∧ v ≤ hi ∧ R.1 = nI v ∧ R'.1 = nI v) ∧ PA T P Z N n' R.2.1 R.2.2.1 R.2.2.2.1 R.2.2.2.2.1 R.2.2.2.2.2.1 R.2.2.2.2.2.2.1 R.2.2.2.2.2.2.2 R'.2.1 R'.2.2) := by
  have hN := hC.bnd
  have hpos := h.pos
  have hn := h.2.1
  have ha := h.2.2.1
  have hf := h.1
  unfold m_X7_takeNumber m_X12_takeNumber m_X7_takeNumber_34
  -- a fault stands, or is told: nothing more is read
  have bad : ∀ k : Nat, 1 ≤ k → k ≤ 5 → OT (Option.bind (m_X7_refuse pc sc wd fa (nI k)) (fun r10 => Option.bind (m_X7_advance sg ln pc be r10.1 nu le r10.2.1 r10.2.2) (fun r6 => some (nu, r6.1, r6.2.1, r6.2.2.1, r6.2.2.2.1, r6.2.2.2.2.1, r6.2.2.2.2.2, r10.2.2)))) (Option.bind (m_X12_wrong pl at_ fm (nI k)) (fun r3 => m_X12_takeNumber_70 so pl va (nI lo) (nI hi) at_ r3)) (fun R R' => ∃ n', n ≤ n' ∧ (R.2.2.2.2.2.2.2 = 0 → fa = 0 ∧ n' = n + 1 ∧ ∃ v : Nat, lo ≤ v ∧ v ≤ hi ∧ R.1 = nI v ∧ R'.1 = nI v) ∧ PA T P Z N n' R.2.1 R.2.2.1 R.2.2.2.1 R.2.2.2.2.1 R.2.2.2.2.2.1 R.2.2.2.2.2.2.1 R.2.2.2.2.2.2.2 R'.2.1 R'.2.2) := by
    intro k k1 k5
    refine OT.bd (a_bad hC h k1 k5) (fun R R' hR => ?_)
    rw [a_stay (ne0_of_pos hR.1), Option.bind_some]
    unfold m_X12_takeNumber_70
    refine OT.negR (fun z => ?_) (OT.ret ⟨n, by omega, fun z => absurd z (ne0_of_pos hR.1), hR.2⟩)
    rw [← hR.2.1] at z
    exact ne0_of_pos hR.1 (hR.2.pos.1.mp z)
  rcases a_num hC h with ⟨e1, h0, hn', e2, e3, -, v, hv, v1, v2⟩ | ⟨e1, e2⟩
  · have hfm : fm = 0 := by rw [← hf]; exact h0
    refine OT.eqL e1 (OT.negL (by decide) ?_)
    unfold m_X12_takeNumber_28
    rw [if_pos hfm, if_pos hfm, ha, nI_clamp (show n < 2 ^ 31 by omega), if_pos (pn_in2 (show n < 1002 by omega) (by omega)), if_pos (pn_in2 (show n < 1002 by omega) (by omega)), e2, if_pos rfl, v2, nI_l (show lo < 2 ^ 31 by omega), nI_l (show hi < 2 ^ 31 by omega), ← ha]
    obtain ⟨c1, -⟩ := lcmp_lt (a := v) (b := lo) (by omega) (by omega)
    obtain ⟨-, c2⟩ := lcmp_lt (a := v) (b := hi) (by omega) (by omega)
    unfold m_X12_takeNumber_65
    by_cases q1 : v < lo
    · have w : m_X11_within nu (nI lo) (nI hi) = some 0 := by
        unfold m_X11_within
        rw [v1, if_pos (nI_lt q1 (by omega))]
      rw [if_pos (c1.mpr q1)]
      exact OT.eqL w (OT.posL rfl (bad 4 (by omega) (by omega)))
    · rw [if_neg (fun z => q1 (c1.mp z))]
      by_cases q2 : hi < v
      · have w : m_X11_within nu (nI lo) (nI hi) = some 0 := by
          unfold m_X11_within
          rw [v1, if_neg (nI_nlt (show lo ≤ v by omega) (by omega)), if_pos (nI_lt q2 (by omega))]
        refine OT.posR (show ¬ (at_ < 0 ∨ 1002 ≤ n) from by rw [ha]; exact pn_in2 (by omega) (by omega)) ?_
        rw [if_neg (fun z => by have := c2.mp z; omega)]
        exact (OT.eqL w (OT.posL rfl (bad 4 (by omega) (by omega))))
      · have w : m_X11_within nu (nI lo) (nI hi) = some 1 := by
          unfold m_X11_within
          rw [v1, if_neg (nI_nlt (show lo ≤ v by omega) (by omega)), if_neg (nI_nlt (show v ≤ hi by omega) (by omega))]
        refine OT.posR (show ¬ (at_ < 0 ∨ 1002 ≤ n) from by rw [ha]; exact pn_in2 (by omega) (by omega)) ?_
        rw [if_pos (c2.mpr (by omega))]
        unfold m_X12_takeNumber_70
        rw [if_pos (show fm ≤ 0 by rw [hfm]; decide), show at_ + 1 - 1 = at_ from Int32.add_sub_cancel _ _, ha, nI_clamp (show n < 2 ^ 31 by omega), v2, lN_i, ← ha]
        refine OT.posR (show ¬ (at_ < 0 ∨ 1002 ≤ n) from by rw [ha]; exact pn_in2 (by omega) (by omega)) ((OT.eqL w (OT.negL (by decide) (OT.bdL (a_adv hC h h0 hn') (fun R hR => OT.ret ⟨n + 1, by omega, fun _ => ⟨h0, rfl, v, by omega, by omega, v1, rfl⟩, hR⟩)))))
  · refine OT.eqL e1 (OT.posL rfl ?_)
    by_cases h0 : fa = 0
    · have hfm : fm = 0 := by rw [← hf]; exact h0
      rw [if_pos hfm, ha, nI_clamp (show n < 2 ^ 31 by omega), if_pos (pn_in2 (show n < 1002 by omega) (by omega)), if_neg (e2 h0), ← ha]
      exact bad 1 (by omega) (by omega)
    · have hfm : ¬ fm = 0 := by rw [← hf]; exact h0
      rw [if_neg hfm]
      unfold m_X12_takeNumber_28
      rw [if_neg hfm]
      have := bad 1 (by omega) (by omega)
      have e3 : m_X12_wrong pl at_ fm (nI 1) = some fm := by unfold m_X12_wrong; rw [if_neg hfm]
      rw [e3, Option.bind_some] at this
      exact this
end PRIM
