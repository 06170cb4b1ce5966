/-! PURE: tokens -/
def blk (c : Nat) : Prop := c = 32 ∨ c = 10
def ltr (c : Nat) : Prop := 97 ≤ c ∧ c ≤ 122
def dgt (c : Nat) : Prop := 48 ≤ c ∧ c ≤ 57
def sgn (c : Nat) : Prop := c = 40 ∨ c = 41 ∨ c = 59 ∨ c = 61 ∨ c = 60 ∨ c = 43 ∨ c = 45 ∨ c = 42
def Run (P : Nat → Prop) (T : Nat → Nat) (Z k e : Nat) : Prop := k ≤ e ∧ e ≤ Z ∧ (∀ j, k ≤ j → j < e → P (T j)) ∧ (e < Z → ¬ P (T e))
theorem Run.uniq {P : Nat → Prop} {T : Nat → Nat} {Z k e e' : Nat} (h : Run P T Z k e) (h' : Run P T Z k e') : e = e' := by
  rcases Nat.lt_trichotomy e e' with z | z | z
  · exact absurd (h'.2.2.1 e h.1 z) (h.2.2.2 (by have := h'.2.1; omega))
  · exact z
  · exact absurd (h.2.2.1 e' h'.1 z) (h'.2.2.2 (by have := h.2.1; omega))
def Tok (T : Nat → Nat) (Z q s e : Nat) : Prop :=
  (q = Z ∧ s = 0 ∧ e = q) ∨ (q < Z ∧ ltr (T q) ∧ Run ltr T Z q e ∧ s = (if e - q ≤ 8 then 1 else 4)) ∨ (q < Z ∧ dgt (T q) ∧ Run dgt T Z q e ∧ s = (if e - q ≤ 4 then 2 else 4)) ∨ (q < Z ∧ ¬ ltr (T q) ∧ ¬ dgt (T q) ∧ e = q + 1 ∧ ((sgn (T q) ∧ s = 3) ∨ (¬ sgn (T q) ∧ s = 4)))
theorem Tok.uniq {T : Nat → Nat} {Z q s e s' e' : Nat} (h : Tok T Z q s e) (h' : Tok T Z q s' e') : s = s' ∧ e = e' := by
  rcases h with ⟨a1, a2, a3⟩ | ⟨a1, a2, a3, a4⟩ | ⟨a1, a2, a3, a4⟩ | ⟨a1, a2, a3, a4, a5⟩ <;> rcases h' with ⟨b1, b2, b3⟩ | ⟨b1, b2, b3, b4⟩ | ⟨b1, b2, b3, b4⟩ | ⟨b1, b2, b3, b4, b5⟩
  · exact ⟨by rw [a2, b2], by rw [a3, b3]⟩
  · omega
  · omega
  · omega
  · omega
  · have := a3.uniq b3; subst this; exact ⟨by rw [a4, b4], rfl⟩
  · unfold ltr at a2; unfold dgt at b2; omega
  · exact absurd a2 b2
  · omega
  · unfold dgt at a2; unfold ltr at b2; omega
  · have := a3.uniq b3; subst this; exact ⟨by rw [a4, b4], rfl⟩
  · exact absurd a2 b3
  · omega
  · exact absurd b2 a2
  · exact absurd b2 a3
  · refine ⟨?_, by rw [a4, b4]⟩
    rcases a5 with ⟨c1, c2⟩ | ⟨c1, c2⟩ <;> rcases b5 with ⟨d1, d2⟩ | ⟨d1, d2⟩
    · rw [c2, d2]
    · exact absurd c1 d1
    · exact absurd d1 c1
    · rw [c2, d2]
theorem Tok.ends {T : Nat → Nat} {Z q s e : Nat} (h : Tok T Z q s e) : q ≤ Z ∧ e ≤ Z ∧ s ≤ 4 ∧ (q < Z → q < e) ∧ (s = 0 ↔ q = Z) := by
  rcases h with ⟨a1, a2, a3⟩ | ⟨a1, a2, a3, a4⟩ | ⟨a1, a2, a3, a4⟩ | ⟨a1, a2, a3, a4, a5⟩
  · refine ⟨by omega, by omega, by omega, by omega, by omega⟩
  · have h1 := a3.2.1
    have h2 : q < e := by
      rcases Nat.lt_or_ge q e with z | z
      · exact z
      · have := a3.1
        have e0 : e = q := by omega
        subst e0
        exact absurd a2 (a3.2.2.2 a1)
    refine ⟨by omega, h1, by split at a4 <;> omega, fun _ => h2, by split at a4 <;> omega⟩
  · have h1 := a3.2.1
    have h2 : q < e := by
      rcases Nat.lt_or_ge q e with z | z
      · exact z
      · have := a3.1
        have e0 : e = q := by omega
        subst e0
        exact absurd a2 (a3.2.2.2 a1)
    refine ⟨by omega, h1, by split at a4 <;> omega, fun _ => h2, by split at a4 <;> omega⟩
  · refine ⟨by omega, by omega, by omega, by omega, by omega⟩
/-- a word's letters, by a base; a number -/
def cdT (b : Nat) (T : Nat → Nat) (q : Nat) : Nat → Nat
  | 0 => 0
  | k + 1 => cdT b T q k * b + (T (q + k) - 96)
def nmT (T : Nat → Nat) (q : Nat) : Nat → Nat
  | 0 => 0
  | k + 1 => nmT T q k * 10 + (T (q + k) - 48)
/-! the words that mean something -/
def WD (wd : Nat) (le : Int64) : Prop := wd < 27 ∧ ∀ j, j < 26 → (wd = j + 1 ↔ le = wLet (j + 1))
theorem lcmp0 {x y : Int64} : lg_cmp x y = 0 ↔ x = y := by
  unfold lg_cmp
  by_cases h : x > y
  · rw [if_pos h]
    refine ⟨fun z => absurd z (by decide), fun z => ?_⟩
    subst z
    exact absurd h (by simp [Int64.lt_irrefl])
  · rw [if_neg h]
    by_cases h2 : x = y
    · rw [if_pos h2]; exact ⟨fun _ => h2, fun _ => rfl⟩
    · rw [if_neg h2]; exact ⟨fun z => absurd z (by decide), fun z => absurd z h2⟩
theorem wLet_inj : ∀ i : Nat, i < 27 → ∀ j : Nat, j < 27 → wLet i = wLet j → i = j := by decide +kernel
theorem by_loop {y x : Int64} : ∀ (c i fu : Nat), i + c = 27 → c < fu → (∀ j, j < i → ¬ wLet j = x) → ∃ wd, m_X9_by_10 y fu x 27 (nI i) = some wd ∧ WD wd x
  | 0, i, fu + 1, hc, _, h => by
    have : i = 27 := by omega
    subst this
    refine ⟨0, by rw [m_X9_by_10, if_pos (by decide)], by omega, fun j hj => ⟨fun z => by omega, fun z => absurd z.symm (h (j + 1) (by omega))⟩⟩
  | c + 1, i, fu + 1, hc, hf, h => by
    rw [m_X9_by_10, if_neg (show ¬ (27 : Int32) ≤ nI i from nI_ge (b := 27) (by omega) (by omega)), nI_clamp (show i < 2 ^ 31 by omega), if_pos (pn_in2 (by omega) (by omega)), if_pos (show i < 27 by omega), nI_1]
    by_cases e : wLet i = x
    · rw [if_pos (lcmp0.mpr e)]
      refine ⟨i, rfl, by omega, fun j hj => ⟨fun z => by rw [← z]; exact e.symm, fun z => wLet_inj i (by omega) (j + 1) (by omega) (e.trans z)⟩⟩
    · rw [if_neg (fun z => e (lcmp0.mp z))]
      exact by_loop c (i + 1) fu (by omega) (by omega) (fun j hj => by
        by_cases z : j = i
        · rw [z]; exact e
        · exact h j (by omega))
theorem by_ok (x : Int64) : ∃ wd, m_X9_by x = some wd ∧ WD wd x := by
  have hFU := FU_ge
  exact by_loop 27 0 FU (by omega) (by omega) (fun j hj => by omega)
/-! the class's cursor at a token -/
def CP (T : Nat → Nat) (Z q : Nat) (pl be so nu : Int32) (le : Int64) (wd : Nat) : Prop :=
  ∃ s e, Tok T Z q s e ∧ pl = nI q ∧ be = nI e ∧ so = nI s ∧ (s = 1 → le = lN (cdT 32 T q (e - q)) ∧ WD wd le) ∧ (¬ s = 1 → wd = 0) ∧ (s = 2 → nu = nI (nmT T q (e - q)))
section TOKEN
variable {Z : Nat} {T : Nat → Nat} {sg tp : Nat → Int32} {ln tn : Int32}
theorem c_sign (h : TP Z T sg tp ln tn) {i : Nat} (hi : i < Z) : m_X7_signAt sg ln (nI i) = some (nI (T i)) := by
  obtain ⟨hZ, hl, -, hj⟩ := h
  obtain ⟨e1, -, e3⟩ := hj i hi
  have hc : T i < 256 := by unfold chr at e3; omega
  unfold m_X7_signAt
  rw [hl, if_neg (nI_pos (by omega)), if_neg (nI_ge hi (by omega)), if_neg (show ¬ (1000 : Int32) ≤ nI i from nI_ge (b := 1000) (by omega) (by omega)), nI_clamp (show i < 2 ^ 31 by omega), if_pos (pn_in2 (by omega) (by omega)), e1, if_pos (ch_ok _ hc).2]
theorem c_signZ (h : TP Z T sg tp ln tn) : m_X7_signAt sg ln (nI Z) = some 0 := by
  obtain ⟨hZ, hl, -, hj⟩ := h
  unfold m_X7_signAt
  rw [hl, if_neg (nI_pos (by omega)), if_pos (nI_le (by omega) (by omega))]
theorem chT (h : TP Z T sg tp ln tn) {i : Nat} (hi : i < Z) : T i ≤ 126 := by
  have := (h.2.2.2 i hi).2.2
  unfold chr at this
  omega
theorem is_l {c : Nat} (hc : c ≤ 126) : (ltr c ∧ m_X7_isLetter (nI c) = some 1 ∧ m_X12_isLetter (nI c) = some 1) ∨ (¬ ltr c ∧ m_X7_isLetter (nI c) = some 0 ∧ m_X12_isLetter (nI c) = some 0) := by
  unfold m_X7_isLetter m_X12_isLetter ltr
  by_cases h1 : c < 97
  · rw [if_pos (show nI c < 97 from nI_lt (b := 97) h1 (by omega))]
    exact Or.inr ⟨by omega, rfl, rfl⟩
  · rw [if_neg (show ¬ nI c < 97 from nI_nlt (b := 97) (by omega) (by omega))]
    by_cases h2 : 122 < c
    · rw [if_pos (show (122 : Int32) < nI c from nI_lt (a := 122) h2 (by omega))]
      exact Or.inr ⟨by omega, rfl, rfl⟩
    · rw [if_neg (show ¬ (122 : Int32) < nI c from nI_nlt (a := 122) (by omega) (by omega))]
      exact Or.inl ⟨by omega, rfl, rfl⟩
theorem is_d {c : Nat} (hc : c ≤ 126) : (dgt c ∧ m_X7_isDigit (nI c) = some 1 ∧ m_X12_isDigit (nI c) = some 1) ∨ (¬ dgt c ∧ m_X7_isDigit (nI c) = some 0 ∧ m_X12_isDigit (nI c) = some 0) := by
  unfold m_X7_isDigit m_X12_isDigit dgt
  by_cases h1 : c < 48
  · rw [if_pos (show nI c < 48 from nI_lt (b := 48) h1 (by omega))]
    exact Or.inr ⟨by omega, rfl, rfl⟩
  · rw [if_neg (show ¬ nI c < 48 from nI_nlt (b := 48) (by omega) (by omega))]
    by_cases h2 : 57 < c
    · rw [if_pos (show (57 : Int32) < nI c from nI_lt (a := 57) h2 (by omega))]
      exact Or.inr ⟨by omega, rfl, rfl⟩
    · rw [if_neg (show ¬ (57 : Int32) < nI c from nI_nlt (a := 57) (by omega) (by omega))]
      exact Or.inl ⟨by omega, rfl, rfl⟩
theorem pn_subn {a b : Nat} (h : b ≤ a) : nI a - nI b = nI (a - b) := pn_sub h
theorem c_word_loop (h : TP Z T sg tp ln tn) {q : Nat} {so : Int32} {wd0 : Nat} : ∀ (c k fu : Nat), q + k + c = Z → c < fu → (∀ j, j < k → ltr (T (q + j))) →
    OK (m_X7_takeInWord_13 sg ln (nI q) fu (nI (q + k)) so (lN (cdT 32 T q k)) wd0) (fun R => ∃ e, Run ltr T Z q e ∧ R.1 = nI e ∧ R.2.1 = nI (if e - q ≤ 8 then 1 else 4) ∧ R.2.2.1 = lN (cdT 32 T q (e - q)) ∧ (e - q ≤ 8 → WD R.2.2.2 R.2.2.1) ∧ (¬ e - q ≤ 8 → R.2.2.2 = 0)) := by
  have hZ := h.1
  -- the end of a word
  have fin : ∀ k, q + k ≤ Z → (∀ j, j < k → ltr (T (q + j))) → (q + k < Z → ¬ ltr (T (q + k))) → OK (m_X7_takeInWord_78 sg ln (nI q) (nI (q + k)) so (lN (cdT 32 T q k)) wd0) (fun R => ∃ e, Run ltr T Z q e ∧ R.1 = nI e ∧ R.2.1 = nI (if e - q ≤ 8 then 1 else 4) ∧ R.2.2.1 = lN (cdT 32 T q (e - q)) ∧ (e - q ≤ 8 → WD R.2.2.2 R.2.2.1) ∧ (¬ e - q ≤ 8 → R.2.2.2 = 0)) := by
    intro k hk hl hn
    have hr : Run ltr T Z q (q + k) := ⟨by omega, hk, fun j h1 h2 => by have := hl (j - q) (by omega); rw [show q + (j - q) = j by omega] at this; exact this, hn⟩
    unfold m_X7_takeInWord_78 m_X7_takeInWord_97 m_X7_takeInWord_108 m_X7_takeInWord_129
    rw [pn_sub (show q ≤ q + k by omega), show q + k - q = k by omega]
    by_cases h8 : k ≤ 8
    · obtain ⟨wd, e1, e2⟩ := by_ok (lN (cdT 32 T q k))
      refine OK.neg (nI_nlt (a := 8) h8 (by omega)) (OK.neg (by decide) (OK.neg (by decide) (OK.eq e1 (OK.ret ⟨q + k, hr, rfl, ?_, ?_, fun _ => ?_, fun z => ?_⟩))))
      · rw [if_pos (by omega)]; rfl
      · rw [show q + k - q = k by omega]
      · exact e2
      · omega
    · refine OK.pos (nI_lt (a := 8) (by omega) (by omega)) (OK.pos rfl (OK.pos rfl (OK.ret ⟨q + k, hr, rfl, ?_, ?_, fun z => ?_, fun _ => rfl⟩)))
      · rw [if_neg (by omega)]; rfl
      · rw [show q + k - q = k by omega]
      · omega
  intro c
  induction c with
  | zero =>
    intro k fu hc hf hl
    obtain ⟨f, rfl⟩ : ∃ f, fu = f + 1 := ⟨fu - 1, by omega⟩
    rw [m_X7_takeInWord_13]
    exact OK.pos (by rw [h.2.1]; exact nI_le (by omega) (by omega)) (fin k (by omega) hl (fun z => by omega))
  | succ c ih =>
    intro k fu hc hf hl
    obtain ⟨f, rfl⟩ : ∃ f, fu = f + 1 := ⟨fu - 1, by omega⟩
    have hi : q + k < Z := by omega
    rw [m_X7_takeInWord_13]
    refine OK.neg (by rw [h.2.1]; exact nI_ge (by omega) (by omega)) (OK.eq (c_sign h hi) ?_)
    rcases is_l (chT h hi) with ⟨l1, l2, -⟩ | ⟨l1, l2, -⟩
    · refine OK.eq l2 (OK.neg (by decide) (OK.eq (c_sign h hi) ?_))
      have e : lN (cdT 32 T q k) * 32 + (nI (T (q + k)) - 97 + 1).toInt64 = lN (cdT 32 T q (k + 1)) := by
        unfold ltr at l1
        rw [show (97 : Int32) = nI 97 from rfl, pn_sub l1.1, nI_1, nI_l (by omega), show (32 : Int64) = lN 32 from rfl, lN_mul, lN_add, show T (q + k) - 97 + 1 = T (q + k) - 96 by omega]
        rfl
      rw [nI_1, e]
      exact ih (k + 1) f (by omega) (by omega) (fun j hj => by
        by_cases z : j = k
        · rw [z]; exact l1
        · exact hl j (by omega))
    · exact OK.eq l2 (OK.pos rfl (fin k (by omega) hl (fun _ => l1)))
theorem c_num_loop (h : TP Z T sg tp ln tn) {q : Nat} {so : Int32} : ∀ (c k fu : Nat), q + k + c = Z → c < fu → (∀ j, j < k → dgt (T (q + j))) →
    OK (m_X7_takeInNumber_13 sg ln (nI q) fu (nI (q + k)) so (nI (nmT T q k))) (fun R => ∃ e, Run dgt T Z q e ∧ R.1 = nI e ∧ R.2.1 = nI (if e - q ≤ 4 then 2 else 4) ∧ R.2.2 = nI (nmT T q (e - q))) := by
  have hZ := h.1
  have fin : ∀ k, q + k ≤ Z → (∀ j, j < k → dgt (T (q + j))) → (q + k < Z → ¬ dgt (T (q + k))) → OK (m_X7_takeInNumber_74 sg ln (nI q) (nI (q + k)) so (nI (nmT T q k))) (fun R => ∃ e, Run dgt T Z q e ∧ R.1 = nI e ∧ R.2.1 = nI (if e - q ≤ 4 then 2 else 4) ∧ R.2.2 = nI (nmT T q (e - q))) := by
    intro k hk hl hn
    have hr : Run dgt T Z q (q + k) := ⟨by omega, hk, fun j h1 h2 => by have := hl (j - q) (by omega); rw [show q + (j - q) = j by omega] at this; exact this, hn⟩
    unfold m_X7_takeInNumber_74 m_X7_takeInNumber_93
    rw [pn_sub (show q ≤ q + k by omega), show q + k - q = k by omega]
    by_cases h8 : k ≤ 4
    · refine OK.neg (nI_nlt (a := 4) h8 (by omega)) (OK.ret ⟨q + k, hr, rfl, ?_, ?_⟩)
      · rw [if_pos (by omega)]; rfl
      · rw [show q + k - q = k by omega]
    · refine OK.pos (nI_lt (a := 4) (by omega) (by omega)) (OK.ret ⟨q + k, hr, rfl, ?_, ?_⟩)
      · rw [if_neg (by omega)]; rfl
      · rw [show q + k - q = k by omega]
  intro c
  induction c with
  | zero =>
    intro k fu hc hf hl
    obtain ⟨f, rfl⟩ : ∃ f, fu = f + 1 := ⟨fu - 1, by omega⟩
    rw [m_X7_takeInNumber_13]
    exact OK.pos (by rw [h.2.1]; exact nI_le (by omega) (by omega)) (fin k (by omega) hl (fun z => by omega))
  | succ c ih =>
    intro k fu hc hf hl
    obtain ⟨f, rfl⟩ : ∃ f, fu = f + 1 := ⟨fu - 1, by omega⟩
    have hi : q + k < Z := by omega
    rw [m_X7_takeInNumber_13]
    refine OK.neg (by rw [h.2.1]; exact nI_ge (by omega) (by omega)) (OK.eq (c_sign h hi) ?_)
    rcases is_d (chT h hi) with ⟨l1, l2, -⟩ | ⟨l1, l2, -⟩
    · refine OK.eq l2 (OK.neg (by decide) (OK.eq (c_sign h hi) ?_))
      have e : nI (nmT T q k) * 10 + (nI (T (q + k)) - 48) = nI (nmT T q (k + 1)) := by
        unfold dgt at l1
        rw [show (48 : Int32) = nI 48 from rfl, pn_sub l1.1, show (10 : Int32) = nI 10 from rfl, pn_mul, nI_add]
        rfl
      rw [nI_1, e]
      exact ih (k + 1) f (by omega) (by omega) (fun j hj => by
        by_cases z : j = k
        · rw [z]; exact l1
        · exact hl j (by omega))
    · exact OK.eq l2 (OK.pos rfl (fin k (by omega) hl (fun _ => l1)))
/-! the signs -/
theorem ix_loop {ch fr x : Int32} : ∀ (c i fu : Nat), i + c = 8 → c < fu → (∀ j, j < i → ¬ wSg j = x) → ∃ r, m_J1_indexOfChar_4cfef_7 ch fr 8 fu x (nI i) = some r ∧ ((∃ j, j < 8 ∧ wSg j = x ∧ ¬ r < 0) ∨ ((∀ j, j < 8 → ¬ wSg j = x) ∧ r < 0))
  | 0, i, fu + 1, hc, _, h => by
    have : i = 8 := by omega
    subst this
    exact ⟨-1, by rw [m_J1_indexOfChar_4cfef_7, if_pos (by decide)], Or.inr ⟨h, by decide⟩⟩
  | c + 1, i, fu + 1, hc, hf, h => by
    rw [m_J1_indexOfChar_4cfef_7, if_neg (show ¬ (8 : Int32) ≤ nI i from nI_ge (b := 8) (by omega) (by omega)), nI_clamp (show i < 2 ^ 31 by omega), if_pos (pn_in2 (by omega) (by omega)), nI_1]
    by_cases e : wSg i = x
    · rw [if_pos e]
      exact ⟨nI i, rfl, Or.inl ⟨i, by omega, e, nI_pos (by omega)⟩⟩
    · rw [if_neg e]
      exact ix_loop c (i + 1) fu (by omega) (by omega) (fun j hj => by
        by_cases z : j = i
        · rw [z]; exact e
        · exact h j (by omega))
theorem sg_1 : ∀ c : Nat, c ≤ 126 → (nI c).toInt8.toInt32 = nI c := by decide +kernel
def sgnb (c : Nat) : Bool := c == 40 || c == 41 || c == 59 || c == 61 || c == 60 || c == 43 || c == 45 || c == 42
theorem sg_2 : ∀ c : Nat, c ≤ 126 → ∀ j : Nat, j < 8 → wSg j = nI c → sgnb c = true := by decide +kernel
theorem sg_3 : ∀ c : Nat, c ≤ 126 → sgnb c = true → wSg 0 = nI c ∨ wSg 1 = nI c ∨ wSg 2 = nI c ∨ wSg 3 = nI c ∨ wSg 4 = nI c ∨ wSg 5 = nI c ∨ wSg 6 = nI c ∨ wSg 7 = nI c := by decide +kernel
theorem sgnb_iff {c : Nat} : sgnb c = true ↔ sgn c := by
  unfold sgnb sgn
  simp [or_assoc]
theorem sg_q : ∀ c : Nat, c ≤ 126 → m_X12_isSignOf (nI c) = some (if sgnb c then 1 else 0) := by decide +kernel
theorem c_ix {c : Nat} (hc : c ≤ 126) : ∃ r, m_J0_indexOf_0f7a4 (nI c) = some r ∧ (sgn c ↔ ¬ r < 0) := by
  have hFU := FU_ge
  obtain ⟨r, e1, e2⟩ := ix_loop (ch := nI c) (fr := 0) (x := nI c) 8 0 FU (by omega) (by omega) (fun j hj => by omega)
  refine ⟨r, ?_, ?_⟩
  · unfold m_J0_indexOf_0f7a4 m_J0_indexOf_7cf53 m_J0_length_8abf5 m_J1_indexOf_4cfef m_J1_indexOfChar_4cfef m_J1_canEncode_9a6ad
    rw [sg_1 c hc, Option.bind_some, show (8 : Int32) >>> ((0 : Int32) &&& 31) = 8 by decide, if_neg (nI_pos (show c < 2 ^ 31 by omega)), if_neg (show ¬ (255 : Int32) < nI c from nI_nlt (a := 255) (by omega) (by omega)), Option.bind_some, if_neg (show ¬ (1 : Int32) = 0 by decide), show (if (0 : Int32) < 0 then (0 : Int32) else 0) = 0 by decide, show (if (8 : Int32) < 8 then (8 : Int32) else 8) = 8 by decide, if_pos (show (0 : Int32) < 8 by decide), show m_J1_indexOfChar_4cfef_7 (nI c) 0 8 FU (nI c) 0 = _ from e1]
    rfl
  · rw [← sgnb_iff]
    rcases e2 with ⟨j, hj, e, hr⟩ | ⟨e, hr⟩
    · exact ⟨fun _ => hr, fun _ => sg_2 c hc j hj e⟩
    · refine ⟨fun z => ?_, fun z => absurd hr z⟩
      rcases sg_3 c hc z with y | y | y | y | y | y | y | y
      · exact absurd y (e 0 (by omega))
      · exact absurd y (e 1 (by omega))
      · exact absurd y (e 2 (by omega))
      · exact absurd y (e 3 (by omega))
      · exact absurd y (e 4 (by omega))
      · exact absurd y (e 5 (by omega))
      · exact absurd y (e 6 (by omega))
      · exact absurd y (e 7 (by omega))
/-! the class goes to the next token -/
theorem c_at (h : TP Z T sg tp ln tn) {q : Nat} (hq : q ≤ Z) {fa0 be so nu : Int32} {le : Int64} {wd : Nat} : OK (m_X7_advance_66 sg ln fa0 (nI q) be so nu le wd) (fun R => CP T Z q R.1 R.2.1 R.2.2.1 R.2.2.2.1 R.2.2.2.2.1 R.2.2.2.2.2) := by
  have hFU := FU_ge
  have hZ := h.1
  unfold m_X7_advance_66
  by_cases e : q = Z
  · subst e
    refine OK.eq (c_signZ h) (OK.neg (by rw [h.2.1]; exact nI_nlt (by omega) (by omega)) (OK.ret ⟨0, q, Or.inl ⟨rfl, rfl, rfl⟩, rfl, rfl, rfl, fun z => by omega, fun _ => rfl, fun z => by omega⟩))
  · have hi : q < Z := by omega
    refine OK.eq (c_sign h hi) (OK.pos (by rw [h.2.1]; exact nI_lt hi (by omega)) ?_)
    rcases is_l (chT h hi) with ⟨l1, l2, -⟩ | ⟨l1, l2, -⟩
    · refine OK.eq l2 (OK.neg (by decide) ?_)
      unfold m_X7_takeInWord
      have := c_word_loop h (q := q) (so := so) (wd0 := 0) (Z - q) 0 FU (by omega) (by omega) (fun j hj => by omega)
      rw [Nat.add_zero] at this
      refine OK.bd this (fun R hR => OK.ret ?_)
      obtain ⟨e, r1, r2, r3, r4, r5, r6⟩ := hR
      refine ⟨if e - q ≤ 8 then 1 else 4, e, Or.inr (Or.inl ⟨hi, l1, r1, rfl⟩), rfl, r2, r3, fun z => ?_, fun z => ?_, fun z => ?_⟩
      · have : e - q ≤ 8 := by split at z <;> omega
        exact ⟨r4, r5 this⟩
      · exact r6 (fun y => z (by rw [if_pos y]))
      · split at z <;> omega
    · refine OK.eq l2 (OK.pos rfl ?_)
      rcases is_d (chT h hi) with ⟨d1, d2, -⟩ | ⟨d1, d2, -⟩
      · refine OK.eq d2 (OK.neg (by decide) ?_)
        unfold m_X7_takeInNumber
        have := c_num_loop h (q := q) (so := so) (Z - q) 0 FU (by omega) (by omega) (fun j hj => by omega)
        rw [Nat.add_zero] at this
        refine OK.bd this (fun R hR => OK.ret ?_)
        obtain ⟨e, r1, r2, r3, r4⟩ := hR
        refine ⟨if e - q ≤ 4 then 2 else 4, e, Or.inr (Or.inr (Or.inl ⟨hi, d1, r1, rfl⟩)), rfl, r2, r3, fun z => ?_, fun _ => rfl, fun _ => r4⟩
        split at z <;> omega
      · refine OK.eq d2 (OK.pos rfl ?_)
        obtain ⟨r, e1, e2⟩ := c_ix (chT h hi)
        unfold m_X7_advance_152
        refine OK.eq e1 (OK.ite (fun z => OK.ret ?_) (fun z => OK.ret ?_))
        · exact ⟨4, q + 1, Or.inr (Or.inr (Or.inr ⟨hi, l1, d1, rfl, Or.inr ⟨fun y => e2.mp y z, rfl⟩⟩)), rfl, nI_1 q, rfl, fun y => by omega, fun _ => rfl, fun y => by omega⟩
        · exact ⟨3, q + 1, Or.inr (Or.inr (Or.inr ⟨hi, l1, d1, rfl, Or.inl ⟨e2.mpr z, rfl⟩⟩)), rfl, nI_1 q, rfl, fun y => by omega, fun _ => rfl, fun y => by omega⟩
theorem c_skip (h : TP Z T sg tp ln tn) {e0 : Nat} {fa0 be so nu : Int32} {le : Int64} {wd : Nat} : ∀ (c k fu : Nat), k + c = Z → c < fu → e0 ≤ k → (∀ j, e0 ≤ j → j < k → blk (T j)) →
    OK (m_X7_advance_16 sg ln fa0 fu (nI k) be so nu le wd) (fun R => ∃ q, Run blk T Z e0 q ∧ CP T Z q R.1 R.2.1 R.2.2.1 R.2.2.2.1 R.2.2.2.2.1 R.2.2.2.2.2)
  | 0, k, fu + 1, hc, _, h0, hb => by
    have hZ := h.1
    rw [m_X7_advance_16]
    refine OK.pos (by rw [h.2.1]; exact nI_le (by omega) (by omega)) (OK.imp (c_at h (show k ≤ Z by omega)) (fun R hR => ⟨k, ⟨h0, by omega, hb, fun z => by omega⟩, hR⟩))
  | c + 1, k, fu + 1, hc, hf, h0, hb => by
    have hZ := h.1
    have hi : k < Z := by omega
    have hc126 := chT h hi
    rw [m_X7_advance_16]
    unfold m_X7_advance_53
    rw [nI_1]
    have go := fun hk : blk (T k) => c_skip h (e0 := e0) (fa0 := fa0) (be := be) (so := so) (nu := nu) (le := le) (wd := wd) c (k + 1) fu (by omega) (by omega) (by omega) (fun j h1 h2 => by
      by_cases z : j = k
      · rw [z]; exact hk
      · exact hb j h1 (by omega))
    refine OK.neg (by rw [h.2.1]; exact nI_ge (by omega) (by omega)) (OK.eq (c_sign h hi) (OK.ite (fun z => go (Or.inl ((nI_eq (b := 32) (by omega) (by omega)).mp z))) (fun z => OK.eq (c_sign h hi) (OK.ite (fun y => go (Or.inr ((nI_eq (b := 10) (by omega) (by omega)).mp y))) (fun y => ?_)))))
    refine OK.imp (c_at h (show k ≤ Z by omega)) (fun R hR => ⟨k, ⟨h0, by omega, hb, fun _ b => ?_⟩, hR⟩)
    rcases b with b | b
    · exact z (by rw [b]; rfl)
    · exact y (by rw [b]; rfl)
theorem c_advance (h : TP Z T sg tp ln tn) {e : Nat} (he : e ≤ Z) {pl so nu : Int32} {le : Int64} {wd : Nat} : OK (m_X7_advance sg ln pl (nI e) so nu le wd 0) (fun R => ∃ q, Run blk T Z e q ∧ CP T Z q R.1 R.2.1 R.2.2.1 R.2.2.2.1 R.2.2.2.2.1 R.2.2.2.2.2) := by
  have hFU := FU_ge
  have hZ := h.1
  unfold m_X7_advance
  exact OK.pos rfl (c_skip h (Z - e) e FU (by omega) (by omega) (by omega) (fun j h1 h2 => by omega))
end TOKEN
