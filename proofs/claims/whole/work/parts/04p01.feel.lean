/-! PURE: who feels whom, bits -/
theorem FU_ge : 10000 ≤ FU := by decide
theorem b_holds : ∀ F : Nat, F < 64 → ∀ i : Nat, i < 6 → m_X11_holds (nI F) (nI i) = some (if F.testBit i then 1 else 0) := by decide +kernel
theorem b_shr0 : ∀ F : Nat, F < 64 → ∀ i : Nat, i ≤ 6 → ((nI F >>> (nI i &&& 31) = 0) ↔ F < 2 ^ i) := by decide +kernel
theorem b_shr1 : ∀ F : Nat, F < 64 → ∀ i : Nat, i < 6 → (((nI F >>> (nI i &&& 31)) &&& 1 = 1) ↔ F.testBit i = true) := by decide +kernel
theorem b_stop {F i j : Nat} (h : F < 2 ^ i) (hj : i ≤ j) : F.testBit j = false := Nat.testBit_lt_two_pow (Nat.lt_of_lt_of_le h (Nat.pow_le_pow_right (by omega) hj))
def cntF (F Lp : Nat) (L : Nat → Nat) : Nat → Nat
  | 0 => 0
  | n + 1 => cntF F Lp L n + (if F.testBit n = true ∧ Lp < L n then 1 else 0)
theorem cntF_le {F Lp : Nat} {L : Nat → Nat} : ∀ n, cntF F Lp L n ≤ n
  | 0 => Nat.le_refl _
  | n + 1 => by
    have := cntF_le (F := F) (Lp := Lp) (L := L) n
    show cntF F Lp L n + (if _ then 1 else 0) ≤ n + 1
    split <;> omega
theorem cntF_stop {F Lp i : Nat} {L : Nat → Nat} (h : F < 2 ^ i) : ∀ d : Nat, cntF F Lp L (i + d) = cntF F Lp L i
  | 0 => rfl
  | d + 1 => by
    show cntF F Lp L (i + d) + (if F.testBit (i + d) = true ∧ Lp < L (i + d) then 1 else 0) = _
    rw [if_neg (by rw [b_stop h (by omega)]; simp), cntF_stop h d]
    rfl
theorem p_felt_loop {F Lp : Nat} {L : Nat → Nat} {lf ff : Nat → Int32} {person : Int32} (hF : F < 64) (hLp : Lp ≤ 60) (hl : ∀ o, o < 6 → lf o = nI (L o) ∧ L o ≤ 60) :
    ∀ (d i fu : Nat), i + d = 6 → d < fu → m_X6_lackingMoreAmongFelt_24 lf ff person fu (nI F) (nI Lp) (nI (cntF F Lp L i)) (nI i) = some (nI (cntF F Lp L 6))
  | 0, i, fu + 1, h, _ => by
    have : i = 6 := by omega
    subst this
    unfold m_X6_lackingMoreAmongFelt_24
    rw [if_pos (by decide)]
  | d + 1, i, fu + 1, h, hf => by
    have hi : i < 6 := by omega
    have hc := cntF_le (F := F) (Lp := Lp) (L := L) i
    unfold m_X6_lackingMoreAmongFelt_24
    rw [if_neg (show ¬ (6 : Int32) ≤ nI i from nI_ge (b := 6) hi (by omega))]
    by_cases hz : F < 2 ^ i
    · rw [if_pos ((b_shr0 F hF i (by omega)).mpr hz), show 6 = i + (d + 1) by omega, cntF_stop hz]
    · rw [if_neg (fun e => hz ((b_shr0 F hF i (by omega)).mp e)), b_holds F hF i hi, Option.bind_some]
      have ih := p_felt_loop (ff := ff) (person := person) hF hLp hl d (i + 1) fu (by omega) (by omega)
      have es : cntF F Lp L (i + 1) = cntF F Lp L i + (if F.testBit i = true ∧ Lp < L i then 1 else 0) := rfl
      by_cases hb : F.testBit i = true
      · rw [if_pos hb, if_neg (show ¬ (1 : Int32) = 0 by decide), if_pos (nI_in hi (by omega)), nI_clamp (by omega), (hl i hi).1]
        by_cases hg : Lp < L i
        · rw [if_pos ⟨hb, hg⟩] at es
          rw [if_neg (nI_ge hg (by have := (hl i hi).2; omega)), nI_1, nI_1, ← es]
          exact ih
        · rw [if_neg (fun z => hg z.2)] at es
          rw [if_pos (nI_le (by omega) (by omega)), nI_1]
          rw [es] at ih
          exact ih
      · rw [if_neg hb, if_pos rfl, nI_1]
        rw [if_neg (fun z => hb z.1)] at es
        rw [es] at ih
        exact ih
theorem p_felt {F L : Nat → Nat} {lf ff : Nat → Int32} {p : Nat} (hp : p < 6) (hF : ff p = nI (F p) ∧ F p < 64) (hl : ∀ o, o < 6 → lf o = nI (L o) ∧ L o ≤ 60) : m_X6_lackingMoreAmongFelt lf ff (nI p) = some (nI (cntF (F p) (L p) L 6)) := by
  have hFU := FU_ge
  unfold m_X6_lackingMoreAmongFelt
  revert hFU
  generalize FU = fu
  intro hFU
  rw [p_at hp (by omega), p_at hp (by omega), hF.1, (hl p hp).1, Option.bind_some, Option.bind_some]
  exact p_felt_loop hF.2 (hl p hp).2 hl 6 0 fu (by omega) (by omega)
theorem q_doesFeel {sf : Nat → Int32} {b p o F : Nat} (hb : b ≤ 1056) (hp : p < 6) (ho : o < 6) (hf : sf (b + 7 + p) = nI F) (hF : F < 64) : m_X12_doesFeel sf (nI b) (nI p) (nI o) = some (if F.testBit o then 1 else 0) := by
  have e : nI b + 7 + nI p = nI (b + 7 + p) := by
    show nI b + nI 7 + nI p = _
    rw [nI_add, nI_add]
  unfold m_X12_doesFeel
  rw [e, if_pos (nI_in (by omega) (by omega)), nI_clamp (by omega), hf]
  by_cases h : F.testBit o = true
  · rw [if_pos ((b_shr1 F hF o ho).mpr h), if_pos h]
  · rw [if_neg (fun z => h ((b_shr1 F hF o ho).mp z)), if_neg h]
