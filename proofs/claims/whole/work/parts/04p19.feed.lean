/-! PURE: what is fed -/
theorem bv_byte (b : BitVec 64) (s : Nat) (hs : s ≤ 56) : ((b >>> s).signExtend 32) &&& 255#32 = ((b.sshiftRight s).signExtend 32) &&& 255#32 := by
  apply BitVec.eq_of_getLsbD_eq
  intro i hi
  have h255 : ∀ i : Nat, i < 32 → (255#32).getLsbD i = decide (i < 8) := by decide
  rw [BitVec.getLsbD_and, BitVec.getLsbD_and, h255 i hi]
  by_cases h8 : i < 8
  · simp only [BitVec.getLsbD_signExtend, BitVec.getLsbD_ushiftRight, BitVec.getLsbD_sshiftRight, hi]
    simp only [show i < 64 by omega, show ¬ 64 ≤ i by omega, show s + i < 64 by omega]
    simp
  · simp [h8]
theorem byte_eq (x : Int64) : ∀ j : Nat, j ≤ 7 → (((x.toUInt64 >>> ((nI (8 * j)).toInt64.toUInt64 &&& Int64.toUInt64 63)).toInt64).toInt32) &&& 255 = ((x >>> ((nI (8 * j)).toInt64 &&& 63)).toInt32) &&& 255 := by
  intro j hj
  rcases (show j = 0 ∨ j = 1 ∨ j = 2 ∨ j = 3 ∨ j = 4 ∨ j = 5 ∨ j = 6 ∨ j = 7 by omega) with rfl | rfl | rfl | rfl | rfl | rfl | rfl | rfl
  · exact Int32.toBitVec_inj.mp (bv_byte x.toBitVec 0 (by omega))
  · exact Int32.toBitVec_inj.mp (bv_byte x.toBitVec 8 (by omega))
  · exact Int32.toBitVec_inj.mp (bv_byte x.toBitVec 16 (by omega))
  · exact Int32.toBitVec_inj.mp (bv_byte x.toBitVec 24 (by omega))
  · exact Int32.toBitVec_inj.mp (bv_byte x.toBitVec 32 (by omega))
  · exact Int32.toBitVec_inj.mp (bv_byte x.toBitVec 40 (by omega))
  · exact Int32.toBitVec_inj.mp (bv_byte x.toBitVec 48 (by omega))
  · exact Int32.toBitVec_inj.mp (bv_byte x.toBitVec 56 (by omega))
theorem byte_lt (y : Int32) : ∃ k : Nat, k < 256 ∧ y &&& 255 = nI k := by
  refine ⟨(y.toBitVec &&& 255#32).toNat, ?_, ?_⟩
  · rw [BitVec.toNat_and]
    exact Nat.lt_of_le_of_lt Nat.and_le_right (by decide)
  · apply Int32.toBitVec_inj.mp
    show y.toBitVec &&& 255#32 = BitVec.ofNat 32 (y.toBitVec &&& 255#32).toNat
    rw [BitVec.ofNat_toNat, BitVec.setWidth_eq]
theorem ch_ok : ∀ k : Nat, k < 256 → (nI k).toUInt32 % 65536 = (nI k).toUInt32 ∧ vp_nar .char (nI k) = nI k := by decide +kernel
theorem ch_u (x : Int32) : x.toUInt32.toInt32 = x := rfl
theorem st8 : ∀ j : Nat, j ≤ 7 → nI (8 * j) + (-8) = (if j = 0 then -8 else nI (8 * (j - 1))) := by decide +kernel
/-- the tape, on both sides -/
def chr (c : Nat) : Prop := c = 10 ∨ (32 ≤ c ∧ c ≤ 126)
def TP (Z : Nat) (T : Nat → Nat) (sg tp : Nat → Int32) (ln tn : Int32) : Prop := Z ≤ 1000 ∧ ln = nI Z ∧ tn = nI Z ∧ ∀ j, j < Z → sg j = nI (T j) ∧ tp j = nI (T j) ∧ chr (T j)
theorem lay_loop {b b' : Int64} : ∀ (c fu fv : Nat) (Z : Nat) (T : Nat → Nat) (sg tp : Nat → Int32) (ln tn x : Int32), c ≤ 8 → c < fu → c < fv → x = (if c = 0 then -8 else nI (8 * (c - 1))) → TP Z T sg tp ln tn →
    OT (m_X7_append_3 b fu b' x ln sg) (m_X12_lay_3 b fv b' x tn tp) (fun R R' => ∃ (Z : Nat) (T : Nat → Nat), TP Z T R.2 R'.2 R.1 R'.1)
  | 0, fu + 1, fv + 1, Z, T, sg, tp, ln, tn, x, _, _, _, hx, h => by
    rw [if_pos rfl] at hx
    subst hx
    rw [m_X7_append_3, m_X12_lay_3]
    exact OT.posL (by decide) (OT.posR (by decide) (OT.ret ⟨Z, T, h⟩))
  | c + 1, fu + 1, fv + 1, Z, T, sg, tp, ln, tn, x, hc, hf, hf', hx, h => by
    rw [if_neg (by omega), Nat.add_sub_cancel] at hx
    subst hx
    have go := fun (Z : Nat) (T : Nat → Nat) (sg tp : Nat → Int32) (ln tn : Int32) h => lay_loop (b := b) (b' := b') c fu fv Z T sg tp ln tn (nI (8 * c) + (-8)) (by omega) (by omega) (by omega) (st8 c (by omega)) h
    rw [m_X7_append_3, m_X12_lay_3, byte_eq b' c (by omega)]
    refine OT.negL (nI_pos (by omega)) (OT.negR (nI_pos (by omega)) (OT.eqL rfl (OT.eqR rfl ?_)))
    obtain ⟨k, hk, e⟩ := byte_lt ((b' >>> ((nI (8 * c)).toInt64 &&& 63)).toInt32)
    rw [e]
    unfold m_X7_append_36 m_X7_append_41 m_X12_lay_38
    -- a sign that fits
    have put : chr k → OT (if (1 : Int32) = 0 then (m_X7_append_3 b fu b' (nI (8 * c) + (-8)) ln sg) else (if ln < 0 then (m_X7_append_3 b fu b' (nI (8 * c) + (-8)) ln sg) else (if 1000 ≤ ln then (m_X7_append_3 b fu b' (nI (8 * c) + (-8)) ln sg) else (if ¬ (ln < 0 ∨ 1000 ≤ ln.toNatClampNeg) then (m_X7_append_3 b fu b' (nI (8 * c) + (-8)) (ln + 1) (upd sg ln.toNatClampNeg (vp_nar .char (((nI k).toUInt32 % 65536).toInt32)))) else none)))) (if 1000 ≤ tn then (m_X12_lay_3 b fv b' (nI (8 * c) + (-8)) tn tp) else (if ¬ (tn < 0 ∨ 1000 ≤ tn.toNatClampNeg) then (m_X12_lay_3 b fv b' (nI (8 * c) + (-8)) (tn + 1) (upd tp tn.toNatClampNeg (nI k))) else none)) (fun R R' => ∃ (Z : Nat) (T : Nat → Nat), TP Z T R.2 R'.2 R.1 R'.1) := by
      intro hch
      have h0 := h
      obtain ⟨hZ, hl, ht, hj⟩ := h
      rw [hl, ht, nI_clamp (show Z < 2 ^ 31 by omega), (ch_ok k hk).1, ch_u, (ch_ok k hk).2]
      refine OT.negL (by decide) (OT.negL (nI_pos (by omega)) ?_)
      by_cases hz : Z = 1000
      · subst hz
        refine OT.posL (by decide) (OT.posR (by decide) ?_)
        have := go 1000 T sg tp ln tn h0
        rw [hl, ht] at this
        exact this
      · refine OT.negL (nI_ge (b := 1000) (by omega) (by omega)) (OT.negR (nI_ge (b := 1000) (by omega) (by omega)) (OT.posL (pn_in2 (by omega) (by omega)) (OT.posR (pn_in2 (by omega) (by omega)) ?_)))
        rw [nI_1]
        refine go (Z + 1) (setL T Z k) _ _ _ _ ⟨by omega, rfl, rfl, fun j hj' => ?_⟩
        unfold upd setL
        by_cases ej : j = Z
        · rw [if_pos ej, if_pos ej, if_pos ej]; exact ⟨rfl, rfl, hch⟩
        · rw [if_neg ej, if_neg ej, if_neg ej]; exact hj j (by omega)
    have skip := go Z T sg tp ln tn h
    by_cases k10 : k = 10
    · subst k10
      exact OT.posL rfl (OT.posR rfl (put (Or.inl rfl)))
    · refine OT.negL (fun z => k10 ((nI_eq (b := 10) (by omega) (by omega)).mp z)) (OT.negR (fun z => k10 ((nI_eq (b := 10) (by omega) (by omega)).mp z)) ?_)
      unfold m_X11_within
      by_cases h1 : k < 32
      · rw [if_pos (show nI k < 32 from nI_lt (b := 32) h1 (by omega))]
        exact OT.eqL rfl (OT.posL rfl (OT.posL rfl (OT.posR (nI_lt (b := 32) h1 (by omega)) skip)))
      · rw [if_neg (show ¬ nI k < 32 from nI_nlt (b := 32) (by omega) (by omega))]
        by_cases h2 : 126 < k
        · rw [if_pos (show (126 : Int32) < nI k from nI_lt (a := 126) h2 (by omega))]
          exact OT.eqL rfl (OT.posL rfl (OT.posL rfl (OT.negR (nI_nlt (b := 32) (by omega) (by omega)) (OT.posR (nI_lt (a := 126) h2 (by omega)) skip))))
        · rw [if_neg (show ¬ (126 : Int32) < nI k from nI_nlt (a := 126) (by omega) (by omega))]
          exact OT.eqL rfl (OT.negL (by decide) (OT.negR (nI_nlt (b := 32) (by omega) (by omega)) (OT.negR (nI_nlt (a := 126) (by omega) (by omega)) (put (Or.inr ⟨by omega, by omega⟩)))))
theorem l_lay {Z : Nat} {T : Nat → Nat} {sg tp : Nat → Int32} {ln tn : Int32} (h : TP Z T sg tp ln tn) (b : Int64) : OT (m_X7_append sg ln b) (m_X12_lay tp tn b) (fun R R' => ∃ (Z : Nat) (T : Nat → Nat), TP Z T R.2 R'.2 R.1 R'.1) := by
  have hFU := FU_ge
  exact lay_loop 8 FU FU Z T sg tp ln tn 56 (by omega) (by omega) (by omega) rfl h
theorem l_feed {Z : Nat} {T : Nat → Nat} {sg tp : Nat → Int32} {ln tn : Int32} (h : TP Z T sg tp ln tn) (a b c : Int64) : OT (m_X11_feed sg ln a b c) (m_X12_feed tp tn a b c) (fun R R' => R.1 = R'.1 ∧ ∃ (Z : Nat) (T : Nat → Nat), TP Z T R.2.2 R'.2.2.2 R.2.1 R'.2.2.1) := by
  unfold m_X11_feed m_X12_feed
  refine OT.bd (l_lay h a) (fun R1 R1' ⟨Z1, T1, h1⟩ => OT.bd (l_lay h1 b) (fun R2 R2' ⟨Z2, T2, h2⟩ => OT.bd (l_lay h2 c) (fun R3 R3' ⟨Z3, T3, h3⟩ => OT.ret ⟨h3.2.1.trans h3.2.2.1.symm, Z3, T3, h3⟩)))
