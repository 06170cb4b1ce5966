/-! PURE: the lines of a town -/
/-- the town being read, as both hold it: its people -/
def DP (k : Nat) (K L F : Nat → Nat) (ps rm : Int32) (nf rn : Nat → Int64) (kf bl bf tf : Nat → Int32) : Prop := ps = nI k ∧ rm = nI k ∧ tf 30 = nI k ∧ NMr k nf rn ∧ (∀ j, j < k → K j ≤ 3 ∧ kf j = nI (K j) ∧ tf (35 + 3 * j) = nI (K j) ∧ tf (36 + 3 * j) = nI (L j)) ∧ (∀ j, j < 6 → L j ≤ 60 ∧ bl j = nI (L j)) ∧ (∀ j, j < 6 → F j < 2 ^ k ∧ bf j = nI (F j) ∧ tf (37 + 3 * j) = nI (F j))
/-- its mast, weights and rounding -/
def DO (M w r : Nat) (mast wv rv : Int32) (tf : Nat → Int32) : Prop := M ≤ 99 ∧ wOK w r ∧ mast = nI M ∧ tf 31 = nI M ∧ wv = nI w ∧ tf 32 = nI w ∧ rv = nI r ∧ tf 33 = nI r
/-- what was told once, and the law -/
def DL (o : Nat) (on onc : Int32) (st : Nat → Int32) (size : Int32) (tf op ar : Nat → Int32) (codes : Int32) : Prop := o < 16 ∧ on = nI o ∧ onc = nI o ∧ ((o < 8 ∧ tf 34 = -1 ∧ codes = 0 ∧ size = 3 ∧ st 0 = -3 ∧ st 1 = 1 ∧ st 2 = -11) ∨ (8 ≤ o ∧ tf 34 = 0 ∧ ∃ z, z ≤ 1000 ∧ codes = nI (z + 1) ∧ size = nI z ∧ SQ z 1 st op ar ∧ op (1100 + z) = 0))
def DS (ps rm : Int32) (nf rn : Nat → Int64) (kf bl bf tf : Nat → Int32) (mast wv rv on onc : Int32) (st : Nat → Int32) (size : Int32) (op ar : Nat → Int32) (codes : Int32) : Prop := ∃ (k : Nat) (K L F : Nat → Nat) (M w r o : Nat), DP k K L F ps rm nf rn kf bl bf tf ∧ DO M w r mast wv rv tf ∧ DL o on onc st size tf op ar codes
abbrev CL18 := Int32 × Int32 × Int32 × Int32 × Int32 × (Nat → Int64) × (Nat → Int32) × (Nat → Int32) × (Nat → Int32) × Int32 × (Nat → Int32) × Int32 × Int32 × Int32 × Int32 × Int64 × Nat × Int32
abbrev QL9 := Int32 × Int32 × Int32 × Int32 × Int32 × (Nat → Int32) × (Nat → Int32) × (Nat → Int32) × (Nat → Int64)
/-- what a line hands back -/
def LN (T P : Nat → Nat) (Z N n : Nat) (tf op ar : Nat → Int32) (R : CL18) (R' : QL9) : Prop := ∃ n', n ≤ n' ∧ PA T P Z N n' R.2.2.2.2.2.2.2.2.2.2.2.1 R.2.2.2.2.2.2.2.2.2.2.2.2.1 R.2.2.2.2.2.2.2.2.2.2.2.2.2.1 R.2.2.2.2.2.2.2.2.2.2.2.2.2.2.1 R.2.2.2.2.2.2.2.2.2.2.2.2.2.2.2.1 R.2.2.2.2.2.2.2.2.2.2.2.2.2.2.2.2.1 R.2.2.2.2.2.2.2.2.2.2.2.2.2.2.2.2.2 R'.1 R'.2.1 ∧ (R.2.2.2.2.2.2.2.2.2.2.2.2.2.2.2.2.2 = 0 → DS R.1 R'.2.2.2.1 R.2.2.2.2.2.1 R'.2.2.2.2.2.2.2.2 R.2.2.2.2.2.2.1 R.2.2.2.2.2.2.2.1 R.2.2.2.2.2.2.2.2.1 R'.2.2.2.2.2.1 R.2.1 R.2.2.1 R.2.2.2.1 R.2.2.2.2.1 R'.2.2.2.2.1 R.2.2.2.2.2.2.2.2.2.2.1 R.2.2.2.2.2.2.2.2.2.1 R'.2.2.2.2.2.2.1 R'.2.2.2.2.2.2.2.1 R'.2.2.1) ∧ (∀ k, k < 1100 → R'.2.2.2.2.2.2.1 k = op k ∧ R'.2.2.2.2.2.2.2.1 k = ar k) ∧ ∀ k, k < 30 → R'.2.2.2.2.2.1 k = tf k
section LINES
variable {Z N n k M w r o : Nat} {T P : Nat → Nat} {K L F : Nat → Nat} {sg tp so pl st stk op ar kf bl bf tf : Nat → Int32} {ln : Int32} {va wf nf rn nm : Nat → Int64} {pc be sc nu fa at_ fm size codes ps rm mast wv rv on onc : Int32} {le : Int64} {wd : Nat} {th ta sz m1 un we ro : Int32} {gg : Int64}
/-- the model's table changed elsewhere -/
theorem DP.same {t' : Nat → Int32} (h : DP k K L F ps rm nf rn kf bl bf tf) (e : ∀ i, (i = 30 ∨ 35 ≤ i) → t' i = tf i) : DP k K L F ps rm nf rn kf bl bf t' := by
  obtain ⟨h1, h2, h3, h4, h5, h6, h7⟩ := h
  refine ⟨h1, h2, by rw [e 30 (by omega)]; exact h3, h4, fun j hj => ?_, h6, fun j hj => ?_⟩
  · obtain ⟨g1, g2, g3, g4⟩ := h5 j hj
    exact ⟨g1, g2, by rw [e _ (by omega)]; exact g3, by rw [e _ (by omega)]; exact g4⟩
  · obtain ⟨g1, g2, g3⟩ := h7 j hj
    exact ⟨g1, g2, by rw [e _ (by omega)]; exact g3⟩
theorem DO.same {t' : Nat → Int32} (h : DO M w r mast wv rv tf) (e1 : t' 31 = tf 31) (e2 : t' 32 = tf 32) (e3 : t' 33 = tf 33) : DO M w r mast wv rv t' := by
  obtain ⟨h1, h2, h3, h4, h5, h6, h7, h8⟩ := h
  exact ⟨h1, h2, h3, e1.trans h4, h5, e2.trans h6, h7, e3.trans h8⟩
theorem DL.same {t' : Nat → Int32} (h : DL o on onc st size tf op ar codes) (e : t' 34 = tf 34) : DL o on onc st size t' op ar codes := by
  obtain ⟨h1, h2, h3, h4⟩ := h
  refine ⟨h1, h2, h3, ?_⟩
  rw [e]
  exact h4
theorem DP.feel (h : DP k K L F ps rm nf rn kf bl bf tf) {a b : Nat} (ha : a < k) (hb : b < k) (hn : (F a).testBit b = false) : ∃ bf', m_X6_turnFeeling bf (nI a) (nI b) = some bf' ∧ DP k K L (setL F a (F a ||| 2 ^ b)) ps rm nf rn kf bl bf' (upd tf (37 + 3 * a) (nI (F a) ||| (1 <<< (nI b &&& 31)))) := by
  obtain ⟨h1, h2, h3, h4, h5, h6, h7⟩ := h
  have hk := h4.1
  have fk : ∀ j, j < 6 → F j < 64 := fun j hj => Nat.lt_of_lt_of_le (h7 j hj).1 (Nat.pow_le_pow_right (n := 2) (by omega) hk)
  have key : ∀ f : Nat, f < 64 → ∀ b : Nat, b < 6 → f.testBit b = false → nI f ^^^ (1 <<< (nI b &&& 31)) = nI (f ||| 2 ^ b) ∧ nI f ||| (1 <<< (nI b &&& 31)) = nI (f ||| 2 ^ b) := by decide +kernel
  obtain ⟨x1, x2⟩ := key (F a) (fk a (by omega)) b (by omega) hn
  refine ⟨upd bf a (nI (F a ||| 2 ^ b)), ?_, h1, h2, ?_, h4, fun j hj => ?_, h6, fun j hj => ?_⟩
  · unfold m_X6_turnFeeling m_X11_bit
    rw [p_at (show a < 6 by omega) (by omega), (h7 a (by omega)).2.1, Option.bind_some, Option.bind_some, x1, p_put (show a < 6 by omega) (by omega)]
    rfl
  · unfold upd; rw [if_neg (by omega)]; exact h3
  · obtain ⟨g1, g2, g3, g4⟩ := h5 j hj
    refine ⟨g1, g2, ?_, ?_⟩
    · unfold upd; rw [if_neg (by omega)]; exact g3
    · unfold upd; rw [if_neg (by omega)]; exact g4
  · obtain ⟨g1, g2, g3⟩ := h7 j hj
    rw [x2]
    by_cases e : j = a
    · subst e
      have e1 : setL F j (F j ||| 2 ^ b) j = F j ||| 2 ^ b := by unfold setL; rw [if_pos rfl]
      rw [e1]
      refine ⟨Nat.or_lt_two_pow g1 (Nat.pow_lt_pow_right (by omega) hb), ?_, ?_⟩
      · unfold upd; rw [if_pos rfl]
      · unfold upd; rw [if_pos rfl]
    · have e1 : setL F a (F a ||| 2 ^ b) j = F j := by unfold setL; rw [if_neg e]
      rw [e1]
      refine ⟨g1, ?_, ?_⟩
      · unfold upd; rw [if_neg e]; exact g2
      · unfold upd; rw [if_neg (by omega)]; exact g3
theorem DP.person (h : DP k K L F ps rm nf rn kf bl bf tf) (hk : k < 6) {kd l : Nat} (h1' : kd ≤ 3) (h2' : l ≤ 60) {x y : Int64} (hx : LR x y) : DP (k + 1) (setL K k kd) (setL L k l) F (nI (k + 1)) (nI (k + 1)) (vp_updL nf k x) (vp_updL rn k y) (upd kf k (nI kd)) (upd bl k (nI l)) bf (upd (upd (upd tf (35 + 3 * k) (nI kd)) (36 + 3 * k) (nI l)) 30 (nI (k + 1))) := by
  obtain ⟨h1, h2, h3, h4, h5, h6, h7⟩ := h
  refine ⟨rfl, rfl, rfl, ⟨by omega, fun j hj => ?_⟩, fun j hj => ?_, fun j hj => ?_, fun j hj => ?_⟩
  · unfold vp_updL
    by_cases e : j = k
    · rw [if_pos e, if_pos e]; exact hx
    · rw [if_neg e, if_neg e]; exact h4.2 j (by omega)
  · unfold setL upd
    by_cases e : j = k
    · subst e
      rw [if_pos rfl, if_pos rfl, if_pos rfl, if_neg (by omega), if_neg (by omega), if_pos rfl, if_neg (by omega), if_pos rfl]
      exact ⟨h1', rfl, rfl, rfl⟩
    · obtain ⟨g1, g2, g3, g4⟩ := h5 j (by omega)
      rw [if_neg e, if_neg e, if_neg e, if_neg (by omega), if_neg (by omega), if_neg (by omega), if_neg (by omega), if_neg (by omega), if_neg (by omega)]
      exact ⟨g1, g2, g3, g4⟩
  · unfold setL upd
    by_cases e : j = k
    · rw [if_pos e, if_pos e]; exact ⟨h2', rfl⟩
    · rw [if_neg e, if_neg e]; exact h6 j hj
  · obtain ⟨g1, g2, g3⟩ := h7 j hj
    refine ⟨Nat.lt_of_lt_of_le g1 (Nat.pow_le_pow_right (n := 2) (by omega) (by omega)), g2, ?_⟩
    unfold upd
    rw [if_neg (by omega), if_neg (by omega), if_neg (by omega)]
    exact g3
end LINES
