/-! PURE: through however many -/
def feN (F : Nat → Nat) (S : Nat) : Nat → Nat
  | 0 => 0
  | i + 1 => feN F S i ||| (if S.testBit i then F i else 0)
def seN (F : Nat → Nat) (S : Nat) : Nat → Nat
  | 0 => S
  | i + 1 => if (seN F S i).testBit i then seN F S i ||| F i else seN F S i
theorem b_or : ∀ a : Nat, a < 64 → ∀ b : Nat, b < 64 → nI a ||| nI b = nI (a ||| b) ∧ a ||| b < 64 := by decide +kernel
theorem b_pop : ∀ a : Nat, a < 64 → ∀ b : Nat, b < 64 → a ||| b = a ∨ popN a 6 < popN (a ||| b) 6 := by decide +kernel
theorem b_full : ∀ a : Nat, a < 64 → 6 ≤ popN a 6 → a = 63 := by decide +kernel
theorem b_one : ∀ a : Nat, a < 64 → ¬ a = 0 → 1 ≤ popN a 6 := by decide +kernel
theorem b_63 : ∀ b : Nat, b < 64 → 63 ||| b = 63 := by decide +kernel
theorem b_mem : ∀ a : Nat, a < 64 → ∀ b : Nat, b < 64 → a ||| b = b → ∀ i : Nat, i < 6 → a.testBit i = true → b.testBit i = true := by
  intro a _ b _ h i _ hi
  rw [← h, Nat.testBit_or, hi, Bool.true_or]
theorem feN_lt {F : Nat → Nat} (hF : ∀ p, p < 6 → F p < 64) {S : Nat} : ∀ i : Nat, i ≤ 6 → feN F S i < 64
  | 0, _ => by show (0 : Nat) < 64; omega
  | i + 1, h => by
    show feN F S i ||| (if S.testBit i then F i else 0) < 64
    refine (b_or _ (feN_lt hF i (by omega)) _ ?_).2
    split
    · exact hF i (by omega)
    · omega
theorem seN_lt {F : Nat → Nat} (hF : ∀ p, p < 6 → F p < 64) {S : Nat} (hS : S < 64) : ∀ i : Nat, i ≤ 6 → seN F S i < 64
  | 0, _ => hS
  | i + 1, h => by
    show (if (seN F S i).testBit i then seN F S i ||| F i else seN F S i) < 64
    split
    · exact (b_or _ (seN_lt hF hS i (by omega)) _ (hF i (by omega))).2
    · exact seN_lt hF hS i (by omega)
/-- closed: whom one of them feels is one of them -/
def Clo (F : Nat → Nat) (C : Nat) : Prop := ∀ o, o < 6 → C.testBit o = true → F o ||| C = C
theorem or_sub {a b c : Nat} (h1 : a ||| c = c) (h2 : b ||| c = c) : (a ||| b) ||| c = c := by rw [Nat.or_assoc, h2, h1]
theorem feN_sub {F : Nat → Nat} {S C : Nat} (hC : Clo F C) (hS : S ||| C = C) : ∀ i : Nat, i ≤ 6 → feN F S i ||| C = C
  | 0, _ => Nat.zero_or C
  | i + 1, h => by
    show (feN F S i ||| (if S.testBit i then F i else 0)) ||| C = C
    refine or_sub (feN_sub hC hS i (by omega)) ?_
    split
    · rename_i e
      exact hC i (by omega) (by rw [← hS, Nat.testBit_or, e, Bool.true_or])
    · exact Nat.zero_or C
theorem seN_sub {F : Nat → Nat} {S C : Nat} (hC : Clo F C) (hS : S ||| C = C) : ∀ i : Nat, i ≤ 6 → seN F S i ||| C = C
  | 0, _ => hS
  | i + 1, h => by
    have ih := seN_sub hC hS i (by omega)
    show (if (seN F S i).testBit i then seN F S i ||| F i else seN F S i) ||| C = C
    split
    · rename_i e
      exact or_sub ih (hC i (by omega) (by rw [← ih, Nat.testBit_or, e, Bool.true_or]))
    · exact ih
/-- a round at once, so often -/
def itA (F : Nat → Nat) (S : Nat) : Nat → Nat
  | 0 => S
  | k + 1 => itA F S k ||| feN F (itA F S k) 6
/-- a round in place, so often -/
def itB (F : Nat → Nat) (n S : Nat) : Nat → Nat
  | 0 => S
  | k + 1 => seN F (itB F n S k) n
theorem itA_lt {F : Nat → Nat} (hF : ∀ p, p < 6 → F p < 64) {S : Nat} (hS : S < 64) : ∀ k, itA F S k < 64
  | 0 => hS
  | k + 1 => (b_or _ (itA_lt hF hS k) _ (feN_lt hF 6 (Nat.le_refl _))).2
theorem itB_lt {F : Nat → Nat} (hF : ∀ p, p < 6 → F p < 64) {n S : Nat} (hn : n ≤ 6) (hS : S < 64) : ∀ k, itB F n S k < 64
  | 0 => hS
  | k + 1 => seN_lt hF (itB_lt hF hn hS k) n hn
theorem itA_sub {F : Nat → Nat} {S C : Nat} (hC : Clo F C) (hS : S ||| C = C) : ∀ k, itA F S k ||| C = C
  | 0 => hS
  | k + 1 => or_sub (itA_sub hC hS k) (feN_sub hC (itA_sub hC hS k) 6 (Nat.le_refl _))
theorem itB_sub {F : Nat → Nat} {n S C : Nat} (hn : n ≤ 6) (hC : Clo F C) (hS : S ||| C = C) : ∀ k, itB F n S k ||| C = C
  | 0 => hS
  | k + 1 => seN_sub hC (itB_sub hn hC hS k) n hn
theorem or_le {a b c : Nat} (h : a ||| b = b) : a ||| (b ||| c) = b ||| c := by rw [← Nat.or_assoc, h]
theorem itA_up {F : Nat → Nat} {S : Nat} : ∀ k, S ||| itA F S k = itA F S k
  | 0 => Nat.or_self S
  | k + 1 => or_le (itA_up k)
theorem seN_up {F : Nat → Nat} {S : Nat} : ∀ i, S ||| seN F S i = seN F S i
  | 0 => Nat.or_self S
  | i + 1 => by
    show S ||| (if (seN F S i).testBit i then seN F S i ||| F i else seN F S i) = (if (seN F S i).testBit i then seN F S i ||| F i else seN F S i)
    split
    · exact or_le (seN_up i)
    · exact seN_up i
theorem or_tr {a b c : Nat} (h1 : a ||| b = b) (h2 : b ||| c = c) : a ||| c = c := by rw [← h2, ← Nat.or_assoc, h1]
theorem itB_up {F : Nat → Nat} {n S : Nat} : ∀ k, S ||| itB F n S k = itB F n S k
  | 0 => Nat.or_self S
  | k + 1 => or_tr (itB_up k) (seN_up n)
/-- a fixed point of a round is closed -/
theorem feN_has {F : Nat → Nat} {S o : Nat} : ∀ i : Nat, o < i → S.testBit o = true → F o ||| feN F S i = feN F S i
  | i + 1, h, hb => by
    show F o ||| (feN F S i ||| (if S.testBit i then F i else 0)) = feN F S i ||| (if S.testBit i then F i else 0)
    by_cases e : o = i
    · subst e
      rw [if_pos hb, Nat.or_comm (feN F S o) (F o), ← Nat.or_assoc, Nat.or_self]
    · exact or_le (feN_has i (by omega) hb)
theorem cloA {F : Nat → Nat} {S : Nat} (h : S ||| feN F S 6 = S) : Clo F S := by
  intro o ho hb
  have := feN_has (F := F) 6 ho hb
  exact or_tr this (by rw [Nat.or_comm]; exact h)
theorem or_anti {a b : Nat} (h1 : a ||| b = b) (h2 : b ||| a = a) : a = b := by rw [← h2, Nat.or_comm, h1]
theorem seN_step {F : Nat → Nat} {S : Nat} (i : Nat) : seN F S i ||| seN F S (i + 1) = seN F S (i + 1) := by
  show seN F S i ||| (if (seN F S i).testBit i then seN F S i ||| F i else seN F S i) = (if (seN F S i).testBit i then seN F S i ||| F i else seN F S i)
  split
  · exact or_le (Nat.or_self _)
  · exact Nat.or_self _
theorem seN_mono {F : Nat → Nat} {S i : Nat} : ∀ d : Nat, seN F S i ||| seN F S (i + d) = seN F S (i + d)
  | 0 => Nat.or_self _
  | d + 1 => or_tr (seN_mono d) (seN_step (i + d))
theorem cloB {F : Nat → Nat} {S n : Nat} (hn : n ≤ 6) (hS : S < 2 ^ n) (h : seN F S n = S) : Clo F S := by
  intro o ho hb
  have hon : o < n := by
    rcases Nat.lt_or_ge o n with h1 | h1
    · exact h1
    · rw [Nat.testBit_lt_two_pow (Nat.lt_of_lt_of_le hS (Nat.pow_le_pow_right (by omega) h1))] at hb
      cases hb
  have e1 : seN F S o = S := by
    have := seN_mono (F := F) (S := S) (i := o) (n - o)
    rw [show o + (n - o) = n by omega, h] at this
    exact or_anti this (seN_up o)
  have e2 : seN F S (o + 1) = S := by
    have := seN_mono (F := F) (S := S) (i := o + 1) (n - (o + 1))
    rw [show o + 1 + (n - (o + 1)) = n by omega, h] at this
    exact or_anti this (seN_up (o + 1))
  have e3 : (if (seN F S o).testBit o then seN F S o ||| F o else seN F S o) = S := e2
  rw [e1, if_pos hb, Nat.or_comm] at e3
  exact e3
theorem itA_pop {F : Nat → Nat} (hF : ∀ p, p < 6 → F p < 64) {S : Nat} (hS : S < 64) (h0 : ¬ S = 0) : ∀ k, itA F S (k + 1) = itA F S k ∨ k + 2 ≤ popN (itA F S (k + 1)) 6
  | 0 => by
    rcases b_pop S hS _ (feN_lt (S := S) hF 6 (Nat.le_refl _)) with h | h
    · exact Or.inl h
    · have := b_one S hS h0
      exact Or.inr (by show 2 ≤ popN (S ||| feN F S 6) 6; omega)
  | k + 1 => by
    rcases itA_pop hF hS h0 k with h | h
    · refine Or.inl ?_
      show itA F S (k + 1) ||| feN F (itA F S (k + 1)) 6 = itA F S (k + 1)
      rw [h]; exact h
    · rcases b_pop _ (itA_lt hF hS (k + 1)) _ (feN_lt (S := itA F S (k + 1)) hF 6 (Nat.le_refl _)) with g | g
      · exact Or.inl g
      · exact Or.inr (by show k + 1 + 2 ≤ popN (itA F S (k + 1) ||| feN F (itA F S (k + 1)) 6) 6; omega)
theorem b_pop2 {a c : Nat} (ha : a < 64) (hc : c < 64) (h : a ||| c = c) : c = a ∨ popN a 6 < popN c 6 := by
  have := b_pop a ha c hc
  rw [h] at this
  exact this
theorem itB_pop {F : Nat → Nat} (hF : ∀ p, p < 6 → F p < 64) {n S : Nat} (hn : n ≤ 6) (hS : S < 64) (h0 : ¬ S = 0) : ∀ k, itB F n S (k + 1) = itB F n S k ∨ k + 2 ≤ popN (itB F n S (k + 1)) 6
  | 0 => by
    rcases b_pop2 hS (itB_lt hF hn hS 1) (itB_up 1) with h | h
    · exact Or.inl h
    · have := b_one S hS h0
      exact Or.inr (by show 2 ≤ popN (itB F n S 1) 6; omega)
  | k + 1 => by
    rcases itB_pop hF hn hS h0 k with h | h
    · refine Or.inl ?_
      show seN F (itB F n S (k + 1)) n = itB F n S (k + 1)
      rw [h]; exact h
    · rcases b_pop2 (itB_lt hF hn hS (k + 1)) (itB_lt hF hn hS (k + 2)) (seN_up n) with g | g
      · exact Or.inl g
      · exact Or.inr (by show k + 1 + 2 ≤ popN (itB F n S (k + 2)) 6; omega)
/-- all whom one feels, through however many: both ways to reckon it -/
theorem itAB {F : Nat → Nat} {n S : Nat} (hn : n ≤ 6) (hF : ∀ p, p < 6 → F p < 2 ^ n) (hS : S < 2 ^ n) : itA F S 5 = itB F n S 6 := by
  have h64 : 2 ^ n ≤ 64 := Nat.pow_le_pow_right (n := 2) (by omega) (show n ≤ 6 from hn)
  have hF' : ∀ p, p < 6 → F p < 64 := fun p hp => Nat.lt_of_lt_of_le (hF p hp) h64
  have hS' : S < 64 := Nat.lt_of_lt_of_le hS h64
  by_cases h0 : S = 0
  · subst h0
    have z1 : ∀ i, feN F 0 i = 0 := by
      intro i
      induction i with
      | zero => rfl
      | succ i ih =>
        show feN F 0 i ||| (if Nat.testBit 0 i then F i else 0) = 0
        rw [ih, if_neg (by simp)]
        rfl
    have z2 : ∀ i, seN F 0 i = 0 := by
      intro i
      induction i with
      | zero => rfl
      | succ i ih =>
        show (if (seN F 0 i).testBit i then seN F 0 i ||| F i else seN F 0 i) = 0
        rw [ih, if_neg (by simp)]
    have z3 : ∀ k, itA F 0 k = 0 := by
      intro k
      induction k with
      | zero => rfl
      | succ k ih =>
        show itA F 0 k ||| feN F (itA F 0 k) 6 = 0
        rw [ih, z1]
        rfl
    have z4 : ∀ k, itB F n 0 k = 0 := by
      intro k
      induction k with
      | zero => rfl
      | succ k ih =>
        show seN F (itB F n 0 k) n = 0
        rw [ih, z2]
    rw [z3, z4]
  · -- both are closed
    have cA : Clo F (itA F S 5) := by
      refine cloA ?_
      rcases itA_pop hF' hS' h0 4 with h | h
      · have e : itA F S 5 ||| feN F (itA F S 5) 6 = itA F S 5 := by
          rw [h]; exact h
        exact e
      · rw [b_full _ (itA_lt hF' hS' 5) (by omega), b_63 _ (feN_lt hF' 6 (Nat.le_refl _))]
    have ltB : ∀ i : Nat, i ≤ 6 → ∀ T : Nat, T < 2 ^ n → seN F T i < 2 ^ n := by
      intro i
      induction i with
      | zero => intro _ T hT; exact hT
      | succ i ih =>
        intro hi T hT
        show (if (seN F T i).testBit i then seN F T i ||| F i else seN F T i) < 2 ^ n
        split
        · exact Nat.or_lt_two_pow (ih (by omega) T hT) (hF i (by omega))
        · exact ih (by omega) T hT
    have ltB2 : ∀ k, itB F n S k < 2 ^ n := by
      intro k
      induction k with
      | zero => exact hS
      | succ k ih => exact ltB n hn _ ih
    have cB : Clo F (itB F n S 6) := by
      refine cloB hn (ltB2 6) ?_
      rcases itB_pop hF' hn hS' h0 5 with h | h
      · have e : seN F (itB F n S 6) n = itB F n S 6 := by
          rw [h]; exact h
        exact e
      · have h : 7 ≤ popN (itB F n S 6) 6 := h
        have e := b_full _ (itB_lt hF' hn hS' 6) (by omega)
        have up := seN_up (F := F) (S := itB F n S 6) n
        rw [e] at up ⊢
        rw [← up]
        exact b_63 _ (seN_lt hF' (by omega) n hn)
    exact or_anti (itA_sub cB (itB_up 6) 5) (itB_sub hn cA (itA_up 5) 6)
section REACH
variable {G : Gm} {kf st tf op ar lf ff sf : Nat → Int32} {size ps mast dt : Int32} {L F : Nat → Nat} {d : Nat}
theorem F64 (hG : gOK G) (h : lOK G L F) : ∀ p, p < 6 → F p < 64 := fun p hp => f64 hG (h.2 p hp)
theorem c_feltBy_loop (hG : gOK G) (h : CS G L F d lf ff dt) {S : Nat} (hS : S < 64) : ∀ (c i fu : Nat), i + c = 6 → c < fu → m_X6_feltBy_4 ff (nI S) fu (nI (feN F S i)) (nI i) = some (nI (feN F S 6))
  | 0, i, fu + 1, hc, _ => by
    have : i = 6 := by omega
    subst this
    rw [m_X6_feltBy_4, if_pos (by decide)]
  | c + 1, i, fu + 1, hc, hf => by
    have ih := c_feltBy_loop hG h hS c (i + 1) fu (by omega) (by omega)
    have hF := F64 hG h.1
    rw [m_X6_feltBy_4, if_neg (show ¬ (6 : Int32) ≤ nI i from nI_ge (b := 6) (by omega) (by omega)), b_holds S hS i (by omega), Option.bind_some, nI_1]
    have es : feN F S (i + 1) = feN F S i ||| (if S.testBit i then F i else 0) := rfl
    by_cases e : S.testBit i = true
    · rw [if_pos e] at es
      rw [if_pos e, if_neg (by decide), p_at (show i < 6 by omega) (by omega), h.2.2.2 i (by omega), Option.bind_some, (b_or _ (feN_lt hF i (by omega)) _ (hF i (by omega))).1, ← es]
      exact ih
    · rw [if_neg e] at es
      rw [if_neg e, if_pos rfl, show (0 : Int32) = nI 0 from rfl, (b_or _ (feN_lt hF i (by omega)) 0 (by omega)).1, ← es]
      exact ih
theorem c_feltBy (hG : gOK G) (h : CS G L F d lf ff dt) {S : Nat} (hS : S < 64) : m_X6_feltBy ff (nI S) = some (nI (feN F S 6)) := by
  have hFU := FU_ge
  exact c_feltBy_loop hG h hS 6 0 FU (by omega) (by omega)
theorem c_from_loop (hG : gOK G) (h : CS G L F d lf ff dt) {S : Nat} (hS : S < 64) {q : Int32} : ∀ (c i fu : Nat), i + c = 5 → c < fu → m_X6_feltFrom_11 ff q fu (nI (itA F S i)) (nI (i + 1)) = some (nI (itA F S 5))
  | 0, i, fu + 1, hc, _ => by
    have : i = 5 := by omega
    subst this
    rw [m_X6_feltFrom_11, if_pos (by decide)]
  | c + 1, i, fu + 1, hc, hf => by
    have hF := F64 hG h.1
    rw [m_X6_feltFrom_11, if_neg (show ¬ (6 : Int32) ≤ nI (i + 1) from nI_ge (b := 6) (by omega) (by omega)), c_feltBy hG h (itA_lt hF hS i), Option.bind_some, (b_or _ (itA_lt hF hS i) _ (feN_lt hF 6 (Nat.le_refl _))).1, nI_1]
    exact c_from_loop hG h hS c (i + 1) fu (by omega) (by omega)
theorem c_from (hG : gOK G) (h : CS G L F d lf ff dt) {p : Nat} (hp : p < 6) : m_X6_feltFrom ff (nI p) = some (nI (itA F (F p) 5)) := by
  have hFU := FU_ge
  unfold m_X6_feltFrom
  rw [p_at hp (by omega), h.2.2.2 p hp, Option.bind_some]
  exact c_from_loop hG h (F64 hG h.1 p hp) 5 0 FU (by omega) (by omega)
theorem q_in_loop (hQ : QT G tf op ar) (h : QS G 0 L F d sf) {S : Nat} (hS : S < 64) {q1 q2 x4 : Int32} {K13 : Int32 → Int32 → Option Int32} : ∀ (c i fu : Nat), i + c = G.1 → c < fu → m_X12_feltIn_22 tf sf q1 q2 K13 fu (nI (seN F S i)) x4 (nI i) = K13 (nI (seN F S G.1)) (x4 + 1)
  | 0, i, fu + 1, hc, _ => by
    have hn := hQ.1.1
    have : i = G.1 := by omega
    subst this
    rw [m_X12_feltIn_22, q_persons, hQ.2.1, Option.bind_some, if_pos (nI_le (by omega) (by omega))]
  | c + 1, i, fu + 1, hc, hf => by
    have hn := hQ.1.1
    have hF := F64 hQ.1 h.1
    have hl := seN_lt hF hS i (by omega)
    have ih := q_in_loop hQ h hS (q1 := q1) (q2 := q2) (x4 := x4) (K13 := K13) c (i + 1) fu (by omega) (by omega)
    have es : seN F S (i + 1) = (if (seN F S i).testBit i then seN F S i ||| F i else seN F S i) := rfl
    rw [m_X12_feltIn_22, q_persons, hQ.2.1, Option.bind_some, if_neg (nI_ge (by omega) (by omega)), i7, nI_clamp (show 7 + i < 2 ^ 31 by omega), h.f (by omega), nI_1]
    by_cases e : (seN F S i).testBit i = true
    · rw [if_pos e] at es
      rw [if_pos ((b_shr1 _ hl i (by omega)).mpr e), if_pos (pn_in2 (by omega) (by omega)), Option.bind_some, (b_or _ hl _ (hF i (by omega))).1, ← es]
      exact ih
    · rw [if_neg e] at es
      rw [if_neg (fun z => e ((b_shr1 _ hl i (by omega)).mp z)), Int32.or_zero, ← es]
      exact ih
theorem q_felt_loop (hQ : QT G tf op ar) (h : QS G 0 L F d sf) {S : Nat} (hS : S < 64) {q1 : Int32} : ∀ (c i fu : Nat), i + c = 6 → c < fu → m_X12_feltIn_13 tf sf q1 7 fu (nI (itB F G.1 S i)) (nI (i + 1)) = some (nI (itB F G.1 S 6))
  | 0, i, fu + 1, hc, _ => by
    have : i = 6 := by omega
    subst this
    rw [m_X12_feltIn_13, if_pos (by decide)]
  | c + 1, i, fu + 1, hc, hf => by
    have hn := hQ.1.1
    have hFU := FU_ge
    have hF := F64 hQ.1 h.1
    rw [m_X12_feltIn_13, if_neg (show ¬ (7 : Int32) ≤ nI (i + 1) from nI_ge (b := 7) (by omega) (by omega))]
    rw [show m_X12_feltIn_22 tf sf q1 7 (m_X12_feltIn_13 tf sf q1 7 fu) FU (nI (itB F G.1 S i)) (nI (i + 1)) 0 = _ from q_in_loop hQ h (itB_lt hF hn hS i) G.1 0 FU (by omega) (by omega), nI_1]
    exact q_felt_loop hQ h hS c (i + 1) fu (by omega) (by omega)
theorem q_from (hQ : QT G tf op ar) (h : QS G 0 L F d sf) {p : Nat} (hp : p < G.1) : m_X12_feltIn tf sf (nI p) 7 = some (nI (itB F G.1 (F p) 6)) := by
  have hFU := FU_ge
  have hn := hQ.1.1
  unfold m_X12_feltIn
  rw [i7, nI_clamp (show 7 + p < 2 ^ 31 by omega), h.f hp, if_pos (pn_in2 (by omega) (by omega))]
  exact q_felt_loop hQ h (F64 hQ.1 h.1 p (by omega)) 6 0 FU (by omega) (by omega)
/-- both sides tell the same set -/
theorem b_from (hQ : QT G tf op ar) (h : CS G L F d lf ff dt) (h' : QS G 0 L F d sf) {p : Nat} (hp : p < G.1) : ∃ S, S < 64 ∧ m_X6_feltFrom ff (nI p) = some (nI S) ∧ m_X12_feltIn tf sf (nI p) 7 = some (nI S) := by
  have hn := hQ.1.1
  have hF := F64 hQ.1 h.1
  refine ⟨itA F (F p) 5, itA_lt hF (hF p (by omega)) 5, c_from hQ.1 h (by omega), ?_⟩
  rw [itAB hn h.1.2 (h.1.2 p (by omega))]
  exact q_from hQ h' hp
theorem l_reach (hT : CT G kf st size ps mast) (hQ : QT G tf op ar) (h : NW G lf ff dt sf) (v : Int32) : OT (m_X11_reach ff ps v) (m_X12_reach tf sf v) (fun R R' => R = R'.1) := by
  obtain ⟨L, F, d, h1, h2⟩ := h
  unfold m_X11_reach m_X12_reach
  rw [hT.2.1]
  rcases w_has hQ.1.1 hQ.2.1 v with ⟨e1, e2⟩ | ⟨p, hp, rfl, e1, e2⟩
  · exact OT.eqL e1 (OT.eqR e2 (OT.posL rfl (OT.posR rfl (OT.ret rfl))))
  · obtain ⟨S, -, e3, e4⟩ := b_from hQ h1 h2 hp
    exact OT.eqL e1 (OT.eqR e2 (OT.negL (by decide) (OT.negR (by decide) (OT.eqL e3 (OT.eqR e4 (OT.ret rfl))))))
theorem thr_in (hQ : QT G tf op ar) (h : QS G 0 L F d sf) {S : Nat} (hS : S < 64) {q1 q2 x4 th : Int32} {K36 : Int32 → Int32 → Int32 → Option (Int32 × Int32)} : ∀ (c i fu : Nat), i + c = G.1 → c < fu → m_X12_through_61 tf sf q1 q2 K36 fu (nI S) x4 (nI (S ||| feN F S i)) (nI i) th = K36 (nI (S ||| feN F S G.1)) (x4 + 1) th
  | 0, i, fu + 1, hc, _ => by
    have hn := hQ.1.1
    have : i = G.1 := by omega
    subst this
    rw [m_X12_through_61, q_persons, hQ.2.1, Option.bind_some, if_pos (nI_le (by omega) (by omega))]
  | c + 1, i, fu + 1, hc, hf => by
    have hn := hQ.1.1
    have hF := F64 hQ.1 h.1
    have hl := (b_or S hS _ (feN_lt (S := S) hF i (by omega))).2
    have ih := thr_in hQ h hS (q1 := q1) (q2 := q2) (x4 := x4) (th := th) (K36 := K36) c (i + 1) fu (by omega) (by omega)
    have es : feN F S (i + 1) = feN F S i ||| (if S.testBit i then F i else 0) := rfl
    rw [m_X12_through_61, q_persons, hQ.2.1, Option.bind_some, if_neg (nI_ge (by omega) (by omega)), i7, nI_clamp (show 7 + i < 2 ^ 31 by omega), h.f (by omega), nI_1]
    by_cases e : S.testBit i = true
    · rw [if_pos e] at es
      rw [if_pos ((b_shr1 _ hS i (by omega)).mpr e), if_pos (pn_in2 (by omega) (by omega)), Option.bind_some, (b_or _ hl _ (hF i (by omega))).1, Nat.or_assoc, ← es]
      exact ih
    · rw [if_neg e, Nat.or_zero] at es
      rw [if_neg (fun z => e ((b_shr1 _ hS i (by omega)).mp z)), Int32.or_zero, ← es]
      exact ih
theorem feN_n {S n : Nat} (hn : n ≤ 6) (hS : S < 2 ^ n) : ∀ d : Nat, feN F S (n + d) = feN F S n
  | 0 => rfl
  | d + 1 => by
    show feN F S (n + d) ||| (if S.testBit (n + d) then F (n + d) else 0) = _
    rw [if_neg (by rw [Nat.testBit_lt_two_pow (Nat.lt_of_lt_of_le hS (Nat.pow_le_pow_right (by omega) (by omega)))]; simp), Nat.or_zero, feN_n hn hS d]
theorem feN_2n {n S : Nat} (hF : ∀ p, p < 6 → F p < 2 ^ n) : ∀ i : Nat, i ≤ 6 → feN F S i < 2 ^ n
  | 0, _ => Nat.two_pow_pos n
  | i + 1, h => by
    show feN F S i ||| (if S.testBit i then F i else 0) < 2 ^ n
    refine Nat.or_lt_two_pow (feN_2n hF i (by omega)) ?_
    split
    · exact hF i (by omega)
    · exact Nat.two_pow_pos n
theorem thr_loop (hQ : QT G tf op ar) (h : CS G L F d lf ff dt) (h' : QS G 0 L F d sf) {q1 : Int32} {o : Nat} (ho : o < G.1) :
    ∀ (c i fu fv S : Nat) (th : Int32), i + c = 7 → c < fu → c < fv → S < 2 ^ G.1 → OT (m_X11_through_42 ff ps q1 (nI o) fu (nI S) (nI i)) (m_X12_through_36 tf sf q1 (nI o) fv (nI S) (nI i) th) (fun R R' => R = R'.1)
  | 0, i, fu + 1, fv + 1, S, th, hc, _, _, _ => by
    have : i = 7 := by omega
    subst this
    rw [m_X11_through_42, m_X12_through_36]
    exact OT.posL (by decide) (OT.posR (by decide) (OT.ret rfl))
  | c + 1, i, fu + 1, fv + 1, S, th, hc, hf, hf', hS => by
    have hn := hQ.1.1
    have hFU := FU_ge
    have hF := F64 hQ.1 h.1
    have hS6 : S < 64 := Nat.lt_of_lt_of_le hS (Nat.pow_le_pow_right (n := 2) (by omega) (show G.1 ≤ 6 from hn))
    rw [m_X11_through_42, m_X12_through_36]
    refine OT.negL (nI_nlt (a := 6) (by omega) (by omega)) (OT.negR (nI_nlt (a := 6) (by omega) (by omega)) (OT.eqL (b_holds S hS6 o (by omega)) ?_))
    by_cases e : S.testBit o = true
    · rw [if_pos e]
      exact OT.negL (by decide) (OT.posR ((b_shr1 S hS6 o (by omega)).mpr e) (OT.ret rfl))
    · rw [if_neg e]
      refine OT.posL rfl (OT.negR (fun z => e ((b_shr1 S hS6 o (by omega)).mp z)) (OT.eqL (c_feltBy hQ.1 h hS6) ?_))
      have e0 : nI S = nI (S ||| feN F S 0) := by show _ = nI (S ||| 0); rw [Nat.or_zero]
      have e1 : m_X12_through_61 tf sf q1 (nI o) (m_X12_through_36 tf sf q1 (nI o) fv) FU (nI S) (nI i) (nI S) 0 th = m_X12_through_36 tf sf q1 (nI o) fv (nI (S ||| feN F S G.1)) (nI i + 1) th := by
        conv => lhs; rw [show m_X12_through_61 tf sf q1 (nI o) (m_X12_through_36 tf sf q1 (nI o) fv) FU (nI S) (nI i) (nI S) = m_X12_through_61 tf sf q1 (nI o) (m_X12_through_36 tf sf q1 (nI o) fv) FU (nI S) (nI i) (nI (S ||| feN F S 0)) by rw [← e0]]
        exact thr_in hQ h' hS6 G.1 0 FU (by omega) (by omega)
      have e2 := feN_n (F := F) hn hS (6 - G.1)
      rw [show G.1 + (6 - G.1) = 6 by omega] at e2
      rw [e1, nI_1, e2, (b_or S hS6 _ (feN_lt hF G.1 (by omega))).1]
      exact thr_loop hQ h h' ho c (i + 1) fu fv _ th (by omega) (by omega) (by omega) (Nat.or_lt_two_pow hS (feN_2n h.1.2 G.1 hn))
theorem l_through (hT : CT G kf st size ps mast) (hQ : QT G tf op ar) (h : NW G lf ff dt sf) (v q : Int32) : OT (m_X11_through ff ps v q) (m_X12_through tf sf v q) (fun R R' => R = R'.1) := by
  have hFU := FU_ge
  have hn := hT.1.1
  obtain ⟨L, F, d, h1, h2⟩ := h
  unfold m_X11_through m_X12_through
  rw [hT.2.1]
  rcases w_has hQ.1.1 hQ.2.1 v with ⟨e1, e2⟩ | ⟨p, hp, rfl, e1, e2⟩
  · exact OT.eqL e1 (OT.eqR e2 (OT.posL rfl (OT.posR rfl (OT.ret rfl))))
  · refine OT.eqL e1 (OT.eqR e2 (OT.negL (by decide) (OT.negR (by decide) ?_)))
    rcases w_has hQ.1.1 hQ.2.1 q with ⟨e1, e2⟩ | ⟨o, ho, rfl, e1, e2⟩
    · exact OT.eqL e1 (OT.eqR e2 (OT.posL rfl (OT.posR rfl (OT.ret rfl))))
    · refine OT.eqL e1 (OT.eqR e2 (OT.negL (by decide) (OT.negR (by decide) ?_)))
      rw [p_at (show p < 6 by omega) (by omega), h1.2.2.2 p (by omega), i7, nI_clamp (show 7 + p < 2 ^ 31 by omega), h2.f hp]
      exact OT.posR (pn_in2 (by omega) (by omega)) (OT.eqL rfl (thr_loop hQ h1 h2 ho 6 1 FU FU (F p) 0 (by omega) (by omega) (by omega) (h1.1.2 p (by omega))))
/-! groups -/
theorem grp_off {p : Nat} (hp : p < 6) {x th : Int32} {K9 : Int32 → Int32 → Int32 → Option (Int32 × Int32)} : ∀ (c i fv : Nat), i + c = p → c < fv → m_X12_groups_22 tf sf K9 fv x (nI p) 0 (nI i) th = K9 (x + 0) (nI (p + 1)) th
  | 0, i, fv + 1, hc, _ => by
    rw [m_X12_groups_22, if_pos (nI_le (by omega) (by omega)), if_pos rfl, nI_1]
  | c + 1, i, fv + 1, hc, hf => by
    rw [m_X12_groups_22, if_neg (nI_ge (by omega) (by omega)), if_pos rfl, nI_1]
    exact grp_off hp c (i + 1) fv (by omega) (by omega)
theorem b_shr01 : ∀ F : Nat, F < 64 → ∀ i : Nat, i < 6 → (((nI F >>> (nI i &&& 31)) &&& 1 = 0) ↔ ¬ F.testBit i = true) := by decide +kernel
theorem grp_in (hQ : QT G tf op ar) (h : CS G L F d lf ff dt) (h' : QS G 0 L F d sf) {p S : Nat} (hp : p < G.1) (hS : S < 64) (hm : m_X12_feltIn tf sf (nI p) 7 = some (nI S)) {x th : Int32} {K9 : Int32 → Int32 → Int32 → Option (Int32 × Int32)} :
    ∀ (c i fu fv : Nat), i + c = p → c < fu → c < fv → (m_X11_isFirstOfGroup_14 ff (nI p) fu (nI S) (nI i) = some 0 ∧ m_X12_groups_22 tf sf K9 fv x (nI p) 1 (nI i) th = K9 (x + 0) (nI (p + 1)) th) ∨ (m_X11_isFirstOfGroup_14 ff (nI p) fu (nI S) (nI i) = some 1 ∧ m_X12_groups_22 tf sf K9 fv x (nI p) 1 (nI i) th = K9 (x + 1) (nI (p + 1)) th)
  | 0, i, fu + 1, fv + 1, hc, _, _ => by
    have hn := hQ.1.1
    refine Or.inr ⟨?_, ?_⟩
    · rw [m_X11_isFirstOfGroup_14, if_pos (nI_le (by omega) (by omega))]
    · rw [m_X12_groups_22, if_pos (nI_le (by omega) (by omega)), if_neg (by decide), nI_1]
  | c + 1, i, fu + 1, fv + 1, hc, hf, hf' => by
    have hn := hQ.1.1
    have ih := grp_in hQ h h' hp hS hm (x := x) (th := th) (K9 := K9) c (i + 1) fu fv (by omega) (by omega) (by omega)
    obtain ⟨S2, hS2, e3, e4⟩ := b_from hQ h h' (show i < G.1 by omega)
    rw [m_X11_isFirstOfGroup_14, m_X12_groups_22, if_neg (nI_ge (by omega) (by omega)), if_neg (nI_ge (by omega) (by omega)), if_neg (show ¬ (1 : Int32) = 0 by decide), b_holds S hS i (by omega), hm, e3, e4, Option.bind_some, Option.bind_some, Option.bind_some, Option.bind_some, b_holds S2 hS2 p (by omega), Option.bind_some, nI_1]
    by_cases e : S.testBit i = true
    · rw [if_pos e, if_neg (show ¬ (1 : Int32) = 0 by decide), if_neg (fun z => (b_shr01 S hS i (by omega)).mp z e)]
      by_cases e2 : S2.testBit p = true
      · rw [if_pos e2, if_neg (show ¬ (1 : Int32) = 0 by decide), if_neg (fun z => (b_shr01 S2 hS2 p (by omega)).mp z e2)]
        exact Or.inl ⟨rfl, grp_off (by omega) c (i + 1) fv (by omega) (by omega)⟩
      · rw [if_neg e2, if_pos rfl, if_pos ((b_shr01 S2 hS2 p (by omega)).mpr e2)]
        exact ih
    · rw [if_neg e, if_pos rfl, if_pos ((b_shr01 S hS i (by omega)).mpr e)]
      exact ih
theorem grp_out (hT : CT G kf st size ps mast) (hQ : QT G tf op ar) (h : CS G L F d lf ff dt) (h' : QS G 0 L F d sf) {th : Int32} :
    ∀ (c i fu fv : Nat) (x : Int32), i + c = G.1 → c < fu → c < fv → OT (m_X11_groups_4 ff ps fu x (nI i)) (m_X12_groups_9 tf sf fv x (nI i) th) (fun R R' => R = R'.1)
  | 0, i, fu + 1, fv + 1, x, hc, _, _ => by
    have hn := hT.1.1
    rw [m_X11_groups_4, m_X12_groups_9, q_persons, hQ.2.1, hT.2.1]
    exact OT.posL (nI_le (by omega) (by omega)) (OT.eqR rfl (OT.posR (nI_le (by omega) (by omega)) (OT.ret rfl)))
  | c + 1, i, fu + 1, fv + 1, x, hc, hf, hf' => by
    have hn := hT.1.1
    have hFU := FU_ge
    have go := fun x : Int32 => grp_out hT hQ h h' (th := th) c (i + 1) fu fv x (by omega) (by omega) (by omega)
    rw [m_X11_groups_4, m_X12_groups_9, q_persons, hQ.2.1, nI_1]
    unfold m_X11_isFirstOfGroup
    obtain ⟨S, hS, e3, e4⟩ := b_from hQ h h' (show i < G.1 by omega)
    rw [e3, Option.bind_some]
    refine OT.negL (by rw [hT.2.1]; exact nI_ge (by omega) (by omega)) (OT.eqR rfl (OT.negR (nI_ge (by omega) (by omega)) ?_))
    rcases grp_in hQ h h' (show i < G.1 by omega) hS e4 (x := x) (th := th) (K9 := m_X12_groups_9 tf sf fv) i 0 FU FU (by omega) (by omega) (by omega) with ⟨a1, a2⟩ | ⟨a1, a2⟩
    · refine OT.eqL a1 (OT.posL rfl ?_)
      rw [show m_X12_groups_22 tf sf (m_X12_groups_9 tf sf fv) FU x (nI i) 1 0 th = _ from a2]
      exact go _
    · refine OT.eqL a1 (OT.negL (by decide) ?_)
      rw [show m_X12_groups_22 tf sf (m_X12_groups_9 tf sf fv) FU x (nI i) 1 0 th = _ from a2]
      exact go _
theorem l_groups (hT : CT G kf st size ps mast) (hQ : QT G tf op ar) (h : NW G lf ff dt sf) : OT (m_X11_groups ff ps) (m_X12_groups tf sf) (fun R R' => R = R'.1) := by
  have hFU := FU_ge
  have hn := hT.1.1
  obtain ⟨L, F, d, h1, h2⟩ := h
  exact grp_out hT hQ h1 h2 G.1 0 FU FU _ (by omega) (by omega) (by omega)
end REACH
