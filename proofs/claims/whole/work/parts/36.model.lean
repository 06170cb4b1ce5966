theorem dX12_bits_0 : decode cX12_bits 0 = .ok (.iconst 0, 1) := by decide +kernel
theorem dX12_bits_1 : decode cX12_bits 1 = .ok (.istore_n 1, 1) := by decide +kernel
theorem dX12_bits_2 : decode cX12_bits 2 = .ok (.iconst 0, 1) := by decide +kernel
theorem dX12_bits_3 : decode cX12_bits 3 = .ok (.istore_n 2, 1) := by decide +kernel
theorem dX12_bits_4 : decode cX12_bits 4 = .ok (.iload_n 2, 1) := by decide +kernel
theorem dX12_bits_5 : decode cX12_bits 5 = .ok (.bipush 30, 2) := by decide +kernel
theorem dX12_bits_7 : decode cX12_bits 7 = .ok (.if_icmp .ge 17, 3) := by decide +kernel
theorem dX12_bits_10 : decode cX12_bits 10 = .ok (.iload_n 1, 1) := by decide +kernel
theorem dX12_bits_11 : decode cX12_bits 11 = .ok (.iload_n 0, 1) := by decide +kernel
theorem dX12_bits_12 : decode cX12_bits 12 = .ok (.iload_n 2, 1) := by decide +kernel
theorem dX12_bits_13 : decode cX12_bits 13 = .ok (.ishr, 1) := by decide +kernel
theorem dX12_bits_14 : decode cX12_bits 14 = .ok (.iconst 1, 1) := by decide +kernel
theorem dX12_bits_15 : decode cX12_bits 15 = .ok (.iand, 1) := by decide +kernel
theorem dX12_bits_16 : decode cX12_bits 16 = .ok (.iadd, 1) := by decide +kernel
theorem dX12_bits_17 : decode cX12_bits 17 = .ok (.istore_n 1, 1) := by decide +kernel
theorem dX12_bits_18 : decode cX12_bits 18 = .ok (.iinc 2 1, 3) := by decide +kernel
theorem dX12_bits_21 : decode cX12_bits 21 = .ok (.goto (-17), 3) := by decide +kernel
theorem dX12_bits_24 : decode cX12_bits 24 = .ok (.iload_n 1, 1) := by decide +kernel
theorem dX12_bits_25 : decode cX12_bits 25 = .ok (.ireturn, 1) := by decide +kernel
abbrev wd_X12_bits (k : Nat → ClassId) : va_W := []
set_option maxHeartbeats 4000000 in
set_option maxRecDepth 100000 in
theorem c_X12_bits (l : Launch) (D : va_G) (k : Nat → ClassId) (q1 : Int32) (R0 : Int32) (hm : m_X12_bits q1 = some R0) : CR l D (TY k) yX12_bits cX12_bits 3 (some .int) 0 0 [.int q1] (wd_X12_bits k ) (some (.int R0)) := by
  refine CR.mk (by decide) (Nat.le_of_ble_eq_true rfl) ?_
  intro p e s m args below meth c ls ⟨hx, hb, hr, hts, hown, hlocks, hml⟩ hP hG hl
  have hl : lv_has ls 3 [(0, .int q1)] := hl
  have h_4 : ∀ (n : Nat), ∀ (x1 : Int32) (x2 : Int32) (ls : Array Slot), lv_has ls 3 [(0, .int q1), (1, .int x1), (2, .int x2)] → m_X12_bits_4 q1 n x1 x2 = some R0 → W p l e (Rm 0 0) s m args below meth c s.heap [] 0 0 (MQ below (QR (some (.int R0))) args s 0 0 (fun _ => False)) (F0 m 4 ls []) := by
    intro n
    induction n with
    | zero => intro x1 x2 ls hl hm; cases hm
    | succ n ih =>
      intro x1 x2 ls hl hm
      unfold m_X12_bits_4 at hm
      refine lv_iload_n (pc := 4) hx hb dX12_bits_4 rfl (lv_at hl 2 rfl) ?_
      refine lv_bipush (v := 30) (pc := 5) hx hb dX12_bits_5 (by decide) ?_
      refine lv_icmp_ge (tgt := 24) (pc := 7) hx hb dX12_bits_7 (by decide) (fun hc => ?_) (fun hc => ?_)
      · rw [if_pos hc] at hm
        refine lv_iload_n (pc := 24) hx hb dX12_bits_24 rfl (lv_at hl 1 rfl) ?_
        rw [← Option.some.inj hm]
        exact W.iret hx hb hr (fun t ht _ => ⟨rfl, ht⟩) (fun _ h => by cases h) dX12_bits_25 hlocks
      · rw [if_neg hc] at hm
        refine lv_iload_n (pc := 10) hx hb dX12_bits_10 rfl (lv_at hl 1 rfl) ?_
        refine lv_iload_n (pc := 11) hx hb dX12_bits_11 rfl (lv_at hl 0 rfl) ?_
        refine lv_iload_n (pc := 12) hx hb dX12_bits_12 rfl (lv_at hl 2 rfl) ?_
        refine lv_ishr (pc := 13) hx hb dX12_bits_13 ?_
        refine lv_iconst (v := 1) (pc := 14) hx hb dX12_bits_14 (by decide) ?_
        refine lv_iand (pc := 15) hx hb dX12_bits_15 ?_
        refine lv_iadd (pc := 16) hx hb dX12_bits_16 ?_
        refine lv_istore_n (lv' := [(1, .int (x1 + ((q1 >>> (x2 &&& 31)) &&& 1))), (0, .int q1), (2, .int x2)]) (pc := 17) hx hb dX12_bits_17 rfl hl (Nat.le_of_ble_eq_true rfl) rfl (fun ls hl => ?_)
        refine lv_iinc (k := 2) (v := x2 + 1) (lv' := [(2, .int (x2 + 1)), (1, .int (x1 + ((q1 >>> (x2 &&& 31)) &&& 1))), (0, .int q1)]) (pc := 18) hx hb dX12_bits_18 hl rfl rfl (Nat.le_of_ble_eq_true rfl) rfl (fun ls hl => ?_)
        refine lv_goto (tgt := 4) (pc := 21) hx hb dX12_bits_21 (by decide) ?_
        exact ih (x1 + ((q1 >>> (x2 &&& 31)) &&& 1)) (x2 + 1) ls (lv_sub hl [2, 1, 0] rfl) hm
  unfold m_X12_bits at hm
  refine lv_iconst (v := 0) (pc := 0) hx hb dX12_bits_0 (by decide) ?_
  refine lv_istore_n (lv' := [(1, .int 0), (0, .int q1)]) (pc := 1) hx hb dX12_bits_1 rfl hl (Nat.le_of_ble_eq_true rfl) rfl (fun ls hl => ?_)
  refine lv_iconst (v := 0) (pc := 2) hx hb dX12_bits_2 (by decide) ?_
  refine lv_istore_n (lv' := [(2, .int 0), (1, .int 0), (0, .int q1)]) (pc := 3) hx hb dX12_bits_3 rfl hl (Nat.le_of_ble_eq_true rfl) rfl (fun ls hl => ?_)
  exact h_4 FU 0 0 ls (lv_sub hl [2, 1, 0] rfl) hm
theorem dX12_highWithout_0 : decode cX12_highWithout 0 = .ok (.aload_n 0, 1) := by decide +kernel
theorem dX12_highWithout_1 : decode cX12_highWithout 1 = .ok (.invokevirtual 318, 3) := by decide +kernel
theorem dX12_highWithout_4 : decode cX12_highWithout 4 = .ok (.iconst 0, 1) := by decide +kernel
theorem dX12_highWithout_5 : decode cX12_highWithout 5 = .ok (.istore_n 2, 1) := by decide +kernel
theorem dX12_highWithout_6 : decode cX12_highWithout 6 = .ok (.iload_n 2, 1) := by decide +kernel
theorem dX12_highWithout_7 : decode cX12_highWithout 7 = .ok (.aload_n 0, 1) := by decide +kernel
theorem dX12_highWithout_8 : decode cX12_highWithout 8 = .ok (.invokevirtual 255, 3) := by decide +kernel
theorem dX12_highWithout_11 : decode cX12_highWithout 11 = .ok (.if_icmp .ge 42, 3) := by decide +kernel
theorem dX12_highWithout_14 : decode cX12_highWithout 14 = .ok (.aload_n 0, 1) := by decide +kernel
theorem dX12_highWithout_15 : decode cX12_highWithout 15 = .ok (.getfield 113, 3) := by decide +kernel
theorem dX12_highWithout_18 : decode cX12_highWithout 18 = .ok (.sipush 1009, 3) := by decide +kernel
theorem dX12_highWithout_21 : decode cX12_highWithout 21 = .ok (.iload_n 2, 1) := by decide +kernel
theorem dX12_highWithout_22 : decode cX12_highWithout 22 = .ok (.iadd, 1) := by decide +kernel
theorem dX12_highWithout_23 : decode cX12_highWithout 23 = .ok (.iload_n 1, 1) := by decide +kernel
theorem dX12_highWithout_24 : decode cX12_highWithout 24 = .ok (.iload_n 2, 1) := by decide +kernel
theorem dX12_highWithout_25 : decode cX12_highWithout 25 = .ok (.ishr, 1) := by decide +kernel
theorem dX12_highWithout_26 : decode cX12_highWithout 26 = .ok (.iconst 1, 1) := by decide +kernel
theorem dX12_highWithout_27 : decode cX12_highWithout 27 = .ok (.iand, 1) := by decide +kernel
theorem dX12_highWithout_28 : decode cX12_highWithout 28 = .ok (.iconst 1, 1) := by decide +kernel
theorem dX12_highWithout_29 : decode cX12_highWithout 29 = .ok (.if_icmp .ne 7, 3) := by decide +kernel
theorem dX12_highWithout_32 : decode cX12_highWithout 32 = .ok (.iconst 0, 1) := by decide +kernel
theorem dX12_highWithout_33 : decode cX12_highWithout 33 = .ok (.goto 13, 3) := by decide +kernel
theorem dX12_highWithout_36 : decode cX12_highWithout 36 = .ok (.aload_n 0, 1) := by decide +kernel
theorem dX12_highWithout_37 : decode cX12_highWithout 37 = .ok (.getfield 113, 3) := by decide +kernel
theorem dX12_highWithout_40 : decode cX12_highWithout 40 = .ok (.sipush 1009, 3) := by decide +kernel
theorem dX12_highWithout_43 : decode cX12_highWithout 43 = .ok (.iload_n 2, 1) := by decide +kernel
theorem dX12_highWithout_44 : decode cX12_highWithout 44 = .ok (.iadd, 1) := by decide +kernel
theorem dX12_highWithout_45 : decode cX12_highWithout 45 = .ok (.iaload, 1) := by decide +kernel
theorem dX12_highWithout_46 : decode cX12_highWithout 46 = .ok (.iastore, 1) := by decide +kernel
theorem dX12_highWithout_47 : decode cX12_highWithout 47 = .ok (.iinc 2 1, 3) := by decide +kernel
theorem dX12_highWithout_50 : decode cX12_highWithout 50 = .ok (.goto (-44), 3) := by decide +kernel
theorem dX12_highWithout_53 : decode cX12_highWithout 53 = .ok (.aload_n 0, 1) := by decide +kernel
theorem dX12_highWithout_54 : decode cX12_highWithout 54 = .ok (.sipush 1008, 3) := by decide +kernel
theorem dX12_highWithout_57 : decode cX12_highWithout 57 = .ok (.invokevirtual 293, 3) := by decide +kernel
theorem dX12_highWithout_60 : decode cX12_highWithout 60 = .ok (.ireturn, 1) := by decide +kernel
abbrev wd_X12_highWithout (k : Nat → ClassId) (this : Nat) (this_thrown : Int32) (this_tape : Nat) (this_taped : Int32) (this_size : Int32) (this_sort : Nat) (this_place : Nat) (this_value : Nat) (this_at : Int32) (this_fault : Int32) (this_words : Nat) (this_towns : Nat) (this_towns_f : Nat → Int32) (this_op : Nat) (this_arg : Nat) (this_codes : Int32) (this_names : Nat) (this_readNames : Nat) (this_namesMany : Int32) (this_readMany : Int32) (this_once : Int32) (this_lines : Nat) (this_facts : Nat) (this_pile : Nat) (this_state : Nat) (this_state_f : Nat → Int32) (this_undos : Int32) (this_isMarked : Nat) (this_weight : Int32) (this_rounding : Int32) (this_lacks : Nat) (this_alikes : Nat) (this_g : Int64) : va_W := [(this, .inr (10, [.int this_thrown, .ref this_tape, .int this_taped, .int this_size, .ref this_sort, .ref this_place, .ref this_value, .int this_at, .int this_fault, .ref this_words, .ref this_towns, .ref this_op, .ref this_arg, .int this_codes, .ref this_names, .ref this_readNames, .int this_namesMany, .int this_readMany, .int this_once, .ref this_lines, .ref this_facts, .ref this_pile, .ref this_state, .int this_undos, .ref this_isMarked, .int this_weight, .int this_rounding, .ref this_lacks, .ref this_alikes, .long this_g])), (this_towns, .inl (k 0, 60, .inl this_towns_f)), (this_state, .inl (k 0, 1104, .inl this_state_f))]
set_option maxHeartbeats 4000000 in
set_option maxRecDepth 100000 in
theorem c_X12_highWithout (l : Launch) (D : va_G) (k : Nat → ClassId) (this : Nat) (this_thrown : Int32) (this_tape : Nat) (this_taped : Int32) (this_size : Int32) (this_sort : Nat) (this_place : Nat) (this_value : Nat) (this_at : Int32) (this_fault : Int32) (this_words : Nat) (this_towns : Nat) (this_towns_f : Nat → Int32) (this_op : Nat) (this_arg : Nat) (this_codes : Int32) (this_names : Nat) (this_readNames : Nat) (this_namesMany : Int32) (this_readMany : Int32) (this_once : Int32) (this_lines : Nat) (this_facts : Nat) (this_pile : Nat) (this_state : Nat) (this_state_f : Nat → Int32) (this_undos : Int32) (this_isMarked : Nat) (this_weight : Int32) (this_rounding : Int32) (this_lacks : Nat) (this_alikes : Nat) (this_g : Int64) (q1 : Int32) (R0 : Int32 × (Nat → Int32)) (hm : m_X12_highWithout this_towns_f this_state_f this_weight this_rounding q1 = some R0) : CW l D (TY k) yX12_highWithout cX12_highWithout 3 (some .int) 4 90 [.ref this, .int q1] (wd_X12_highWithout k this this_thrown this_tape this_taped this_size this_sort this_place this_value this_at this_fault this_words this_towns this_towns_f this_op this_arg this_codes this_names this_readNames this_namesMany this_readMany this_once this_lines this_facts this_pile this_state this_state_f this_undos this_isMarked this_weight this_rounding this_lacks this_alikes this_g) (some (.int R0.1)) (wd_X12_highWithout k this this_thrown this_tape this_taped this_size this_sort this_place this_value this_at this_fault this_words this_towns this_towns_f this_op this_arg this_codes this_names this_readNames this_namesMany this_readMany this_once this_lines this_facts this_pile this_state R0.2 this_undos this_isMarked this_weight this_rounding this_lacks this_alikes this_g) := by
  refine CW.mk (by decide) (Nat.le_of_ble_eq_true rfl) ?_
  intro p e s m args below meth c ls A ⟨hx, hb, hr, hts, hown, hlocks, hml⟩ hP hG hD hA hl hS hq
  have hl : lv_has ls 3 [(0, .ref this), (1, .int q1)] := hl
  have h_46 : ∀ (K6 : Int32 → (Nat → Int32) → Option (Int32 × (Nat → Int32))) (hK6 : ∀ (x2 : Int32) (u_this_state_f : Nat → Int32) (H : Heap) (locs : List Loc) (ls : Array Slot), va_P D vwCl (wd_X12_highWithout k this this_thrown this_tape this_taped this_size this_sort this_place this_value this_at this_fault this_words this_towns this_towns_f this_op this_arg this_codes this_names this_readNames this_namesMany this_readMany this_once this_lines this_facts this_pile this_state u_this_state_f this_undos this_isMarked this_weight this_rounding this_lacks this_alikes this_g) H → va_D A (wd_X12_highWithout k this this_thrown this_tape this_taped this_size this_sort this_place this_value this_at this_fault this_words this_towns this_towns_f this_op this_arg this_codes this_names this_readNames this_namesMany this_readMany this_once this_lines this_facts this_pile this_state u_this_state_f this_undos this_isMarked this_weight this_rounding this_lacks this_alikes this_g) → va_S A s.heap H locs → lv_has ls 3 [(0, .ref this), (1, .int q1), (2, .int x2)] → K6 x2 u_this_state_f = some R0 → W p l e (Rm 4 90) s m args below meth c H locs 0 0 (MQ below (QW D (some (.int R0.1)) (wd_X12_highWithout k this this_thrown this_tape this_taped this_size this_sort this_place this_value this_at this_fault this_words this_towns this_towns_f this_op this_arg this_codes this_names this_readNames this_namesMany this_readMany this_once this_lines this_facts this_pile this_state this_state_f this_undos this_isMarked this_weight this_rounding this_lacks this_alikes this_g) (wd_X12_highWithout k this this_thrown this_tape this_taped this_size this_sort this_place this_value this_at this_fault this_words this_towns this_towns_f this_op this_arg this_codes this_names this_readNames this_namesMany this_readMany this_once this_lines this_facts this_pile this_state R0.2 this_undos this_isMarked this_weight this_rounding this_lacks this_alikes this_g) s.heap.size) args s 0 0 A) (F0 m 6 ls [])), ∀ (x2 : Int32) (t0 : Int32) (t1 : Int32) (u_this_state_f : Nat → Int32) (H : Heap) (locs : List Loc) (ls : Array Slot), va_P D vwCl (wd_X12_highWithout k this this_thrown this_tape this_taped this_size this_sort this_place this_value this_at this_fault this_words this_towns this_towns_f this_op this_arg this_codes this_names this_readNames this_namesMany this_readMany this_once this_lines this_facts this_pile this_state u_this_state_f this_undos this_isMarked this_weight this_rounding this_lacks this_alikes this_g) H → va_D A (wd_X12_highWithout k this this_thrown this_tape this_taped this_size this_sort this_place this_value this_at this_fault this_words this_towns this_towns_f this_op this_arg this_codes this_names this_readNames this_namesMany this_readMany this_once this_lines this_facts this_pile this_state u_this_state_f this_undos this_isMarked this_weight this_rounding this_lacks this_alikes this_g) → va_S A s.heap H locs → lv_has ls 3 [(0, .ref this), (1, .int q1), (2, .int x2)] → m_X12_highWithout_46 this_towns_f this_weight this_rounding q1 K6 x2 t0 t1 u_this_state_f = some R0 → W p l e (Rm 4 90) s m args below meth c H locs 0 0 (MQ below (QW D (some (.int R0.1)) (wd_X12_highWithout k this this_thrown this_tape this_taped this_size this_sort this_place this_value this_at this_fault this_words this_towns this_towns_f this_op this_arg this_codes this_names this_readNames this_namesMany this_readMany this_once this_lines this_facts this_pile this_state this_state_f this_undos this_isMarked this_weight this_rounding this_lacks this_alikes this_g) (wd_X12_highWithout k this this_thrown this_tape this_taped this_size this_sort this_place this_value this_at this_fault this_words this_towns this_towns_f this_op this_arg this_codes this_names this_readNames this_namesMany this_readMany this_once this_lines this_facts this_pile this_state R0.2 this_undos this_isMarked this_weight this_rounding this_lacks this_alikes this_g) s.heap.size) args s 0 0 A) (F0 m 46 ls [.int t0, .int t1, .ref this_state]) := by
    intro K6 hK6 x2 t0 t1 u_this_state_f H locs ls hP hD hS hl hm
    unfold m_X12_highWithout_46 at hm
    obtain ⟨hin, hm⟩ := gd hm
    refine va_iast (pc := 46) (D := D) hx hb hG.1 hP hD hS 2 0 rfl rfl hin dX12_highWithout_46 (fun H locs hP hD hS => ?_)
    have hP : va_P D vwCl (wd_X12_highWithout k this this_thrown this_tape this_taped this_size this_sort this_place this_value this_at this_fault this_words this_towns this_towns_f this_op this_arg this_codes this_names this_readNames this_namesMany this_readMany this_once this_lines this_facts this_pile this_state (upd u_this_state_f t1.toNatClampNeg t0) this_undos this_isMarked this_weight this_rounding this_lacks this_alikes this_g) H := hP
    have hD : va_D A (wd_X12_highWithout k this this_thrown this_tape this_taped this_size this_sort this_place this_value this_at this_fault this_words this_towns this_towns_f this_op this_arg this_codes this_names this_readNames this_namesMany this_readMany this_once this_lines this_facts this_pile this_state (upd u_this_state_f t1.toNatClampNeg t0) this_undos this_isMarked this_weight this_rounding this_lacks this_alikes this_g) := hD
    refine lv_iinc (k := 2) (v := x2 + 1) (lv' := [(2, .int (x2 + 1)), (0, .ref this), (1, .int q1)]) (pc := 47) hx hb dX12_highWithout_47 hl rfl rfl (Nat.le_of_ble_eq_true rfl) rfl (fun ls hl => ?_)
    refine lv_goto (tgt := 6) (pc := 50) hx hb dX12_highWithout_50 (by decide) ?_
    exact hK6 (x2 + 1) (upd u_this_state_f t1.toNatClampNeg t0) H locs ls hP hD hS (lv_sub hl [1, 2, 0] rfl) hm
  have h_6 : ∀ (n : Nat), ∀ (x2 : Int32) (u_this_state_f : Nat → Int32) (H : Heap) (locs : List Loc) (ls : Array Slot), va_P D vwCl (wd_X12_highWithout k this this_thrown this_tape this_taped this_size this_sort this_place this_value this_at this_fault this_words this_towns this_towns_f this_op this_arg this_codes this_names this_readNames this_namesMany this_readMany this_once this_lines this_facts this_pile this_state u_this_state_f this_undos this_isMarked this_weight this_rounding this_lacks this_alikes this_g) H → va_D A (wd_X12_highWithout k this this_thrown this_tape this_taped this_size this_sort this_place this_value this_at this_fault this_words this_towns this_towns_f this_op this_arg this_codes this_names this_readNames this_namesMany this_readMany this_once this_lines this_facts this_pile this_state u_this_state_f this_undos this_isMarked this_weight this_rounding this_lacks this_alikes this_g) → va_S A s.heap H locs → lv_has ls 3 [(0, .ref this), (1, .int q1), (2, .int x2)] → m_X12_highWithout_6 this_towns_f this_weight this_rounding q1 n x2 u_this_state_f = some R0 → W p l e (Rm 4 90) s m args below meth c H locs 0 0 (MQ below (QW D (some (.int R0.1)) (wd_X12_highWithout k this this_thrown this_tape this_taped this_size this_sort this_place this_value this_at this_fault this_words this_towns this_towns_f this_op this_arg this_codes this_names this_readNames this_namesMany this_readMany this_once this_lines this_facts this_pile this_state this_state_f this_undos this_isMarked this_weight this_rounding this_lacks this_alikes this_g) (wd_X12_highWithout k this this_thrown this_tape this_taped this_size this_sort this_place this_value this_at this_fault this_words this_towns this_towns_f this_op this_arg this_codes this_names this_readNames this_namesMany this_readMany this_once this_lines this_facts this_pile this_state R0.2 this_undos this_isMarked this_weight this_rounding this_lacks this_alikes this_g) s.heap.size) args s 0 0 A) (F0 m 6 ls []) := by
    intro n
    induction n with
    | zero => intro x2 u_this_state_f H locs ls hP hD hS hl hm; cases hm
    | succ n ih =>
      intro x2 u_this_state_f H locs ls hP hD hS hl hm
      unfold m_X12_highWithout_6 at hm
      refine lv_iload_n (pc := 6) hx hb dX12_highWithout_6 rfl (lv_at hl 2 rfl) ?_
      refine lv_aload_n (pc := 7) hx hb dX12_highWithout_7 rfl (lv_at hl 0 rfl) ?_
      obtain ⟨r4, hcl, hm⟩ := bd hm
      refine cr_back (run_V (pc := 8) (n := 0) (As := []) (rest := [.int x2]) ⟨hx, hb, hml, hown, hts⟩ (c_X12_persons l D k this this_thrown this_tape this_taped this_size this_sort this_place this_value this_at this_fault this_words this_towns this_towns_f this_op this_arg this_codes this_names this_readNames this_namesMany this_readMany this_once this_lines this_facts this_pile this_state this_undos this_isMarked this_weight this_rounding this_lacks this_alikes this_g r4 hcl) ⟨kw_1252, kw_16, by decide +kernel⟩ kw_1249 kw_1251 ks_97 ⟨Nat.le_of_ble_eq_true rfl, Nat.le_of_ble_eq_true rfl⟩ pr_blind (prR (hP.sub [0, 1] rfl) hG) (va_recv hG.1 hP (ci := 10) (q0 := 0) rfl rfl) rfl hl.1 rfl (Nat.le_of_ble_eq_true rfl) dX12_highWithout_8 ⟨Nat.zero_le _, Nat.zero_le _⟩) ?_
      refine lv_icmp_ge (tgt := 53) (pc := 11) hx hb dX12_highWithout_11 (by decide) (fun hc => ?_) (fun hc => ?_)
      · rw [if_pos hc] at hm
        refine lv_aload_n (pc := 53) hx hb dX12_highWithout_53 rfl (lv_at hl 0 rfl) ?_
        refine lv_sipush (v := 1008) (pc := 54) hx hb dX12_highWithout_54 (by decide) ?_
        obtain ⟨r5, hcl, hm⟩ := bd hm
        refine cr_back (run_V (pc := 57) (n := 1) (As := [.int 1008]) (rest := []) ⟨hx, hb, hml, hown, hts⟩ (c_X12_highOf l D k this this_thrown this_tape this_taped this_size this_sort this_place this_value this_at this_fault this_words this_towns this_towns_f this_op this_arg this_codes this_names this_readNames this_namesMany this_readMany this_once this_lines this_facts this_pile this_state u_this_state_f this_undos this_isMarked this_weight this_rounding this_lacks this_alikes this_g 1008 r5 hcl) ⟨kw_1475, kw_16, by decide +kernel⟩ kw_1472 kw_1474 ks_123 ⟨Nat.le_of_ble_eq_true rfl, Nat.le_of_ble_eq_true rfl⟩ pr_blind (prR (hP.sub [0, 1, 2] rfl) hG) (va_recv hG.1 hP (ci := 10) (q0 := 0) rfl rfl) rfl hl.1 rfl (Nat.le_of_ble_eq_true rfl) dX12_highWithout_57 ⟨Nat.zero_le _, Nat.zero_le _⟩) ?_
        rw [← Option.some.inj hm]
        exact W.iret hx hb hr (fun t ht _ => hq _ _ H t ht hP hD locs hS) hS.2.2 dX12_highWithout_60 hlocks
      · rw [if_neg hc] at hm
        refine lv_aload_n (pc := 14) hx hb dX12_highWithout_14 rfl (lv_at hl 0 rfl) ?_
        refine va_get (pc := 15) (D := D) (ci := 10) (C := RX12) (T := TX12) (N := 30) hx hb hts hiX12 hown hG.1 hP 0 rfl rfl 22 (Nat.le_of_ble_eq_true rfl) (hts _ kw_1279) (fun _ h9 => h9) rfl dX12_highWithout_15 ?_
        refine lv_sipush (v := 1009) (pc := 18) hx hb dX12_highWithout_18 (by decide) ?_
        refine lv_iload_n (pc := 21) hx hb dX12_highWithout_21 rfl (lv_at hl 2 rfl) ?_
        refine lv_iadd (pc := 22) hx hb dX12_highWithout_22 ?_
        refine lv_iload_n (pc := 23) hx hb dX12_highWithout_23 rfl (lv_at hl 1 rfl) ?_
        refine lv_iload_n (pc := 24) hx hb dX12_highWithout_24 rfl (lv_at hl 2 rfl) ?_
        refine lv_ishr (pc := 25) hx hb dX12_highWithout_25 ?_
        refine lv_iconst (v := 1) (pc := 26) hx hb dX12_highWithout_26 (by decide) ?_
        refine lv_iand (pc := 27) hx hb dX12_highWithout_27 ?_
        refine lv_iconst (v := 1) (pc := 28) hx hb dX12_highWithout_28 (by decide) ?_
        refine lv_icmp_ne (tgt := 36) (pc := 29) hx hb dX12_highWithout_29 (by decide) (fun hc => ?_) (fun hc => ?_)
        · rw [if_neg hc] at hm
          refine lv_aload_n (pc := 36) hx hb dX12_highWithout_36 rfl (lv_at hl 0 rfl) ?_
          refine va_get (pc := 37) (D := D) (ci := 10) (C := RX12) (T := TX12) (N := 30) hx hb hts hiX12 hown hG.1 hP 0 rfl rfl 22 (Nat.le_of_ble_eq_true rfl) (hts _ kw_1279) (fun _ h9 => h9) rfl dX12_highWithout_37 ?_
          refine lv_sipush (v := 1009) (pc := 40) hx hb dX12_highWithout_40 (by decide) ?_
          refine lv_iload_n (pc := 43) hx hb dX12_highWithout_43 rfl (lv_at hl 2 rfl) ?_
          refine lv_iadd (pc := 44) hx hb dX12_highWithout_44 ?_
          obtain ⟨hin, hm⟩ := gd hm
          refine va_iald (pc := 45) (D := D) hx hb hG.1 hP 2 0 rfl rfl hin dX12_highWithout_45 ?_
          exact h_46 (m_X12_highWithout_6 this_towns_f this_weight this_rounding q1 n) ih x2 (u_this_state_f (1009 + x2).toNatClampNeg) (1009 + x2) u_this_state_f H locs ls hP hD hS (lv_sub hl [0, 1, 2] rfl) hm
        · rw [if_pos hc] at hm
          refine lv_iconst (v := 0) (pc := 32) hx hb dX12_highWithout_32 (by decide) ?_
          refine lv_goto (tgt := 46) (pc := 33) hx hb dX12_highWithout_33 (by decide) ?_
          exact h_46 (m_X12_highWithout_6 this_towns_f this_weight this_rounding q1 n) ih x2 0 (1009 + x2) u_this_state_f H locs ls hP hD hS (lv_sub hl [0, 1, 2] rfl) hm
  unfold m_X12_highWithout at hm
  suffices hgo : ∀ (H : Heap) (locs : List Loc), va_P D vwCl (wd_X12_highWithout k this this_thrown this_tape this_taped this_size this_sort this_place this_value this_at this_fault this_words this_towns this_towns_f this_op this_arg this_codes this_names this_readNames this_namesMany this_readMany this_once this_lines this_facts this_pile this_state this_state_f this_undos this_isMarked this_weight this_rounding this_lacks this_alikes this_g) H → va_D A (wd_X12_highWithout k this this_thrown this_tape this_taped this_size this_sort this_place this_value this_at this_fault this_words this_towns this_towns_f this_op this_arg this_codes this_names this_readNames this_namesMany this_readMany this_once this_lines this_facts this_pile this_state this_state_f this_undos this_isMarked this_weight this_rounding this_lacks this_alikes this_g) → va_S A s.heap H locs → W p l e (Rm 4 90) s m args below meth c H locs 0 0 (MQ below (QW D (some (.int R0.1)) (wd_X12_highWithout k this this_thrown this_tape this_taped this_size this_sort this_place this_value this_at this_fault this_words this_towns this_towns_f this_op this_arg this_codes this_names this_readNames this_namesMany this_readMany this_once this_lines this_facts this_pile this_state this_state_f this_undos this_isMarked this_weight this_rounding this_lacks this_alikes this_g) (wd_X12_highWithout k this this_thrown this_tape this_taped this_size this_sort this_place this_value this_at this_fault this_words this_towns this_towns_f this_op this_arg this_codes this_names this_readNames this_namesMany this_readMany this_once this_lines this_facts this_pile this_state R0.2 this_undos this_isMarked this_weight this_rounding this_lacks this_alikes this_g) s.heap.size) args s 0 0 A) (F0 m 0 ls []) from hgo _ _ hP hD hS
  clear hP hD hS
  intro H locs hP hD hS
  refine lv_aload_n (pc := 0) hx hb dX12_highWithout_0 rfl (lv_at hl 0 rfl) ?_
  obtain ⟨r6, hcl, hm⟩ := bd hm
  refine cw_mask (ws' := (wd_X12_highWithout k this this_thrown this_tape this_taped this_size this_sort this_place this_value this_at this_fault this_words this_towns this_towns_f this_op this_arg this_codes this_names this_readNames this_namesMany this_readMany this_once this_lines this_facts this_pile this_state r6 this_undos this_isMarked this_weight this_rounding this_lacks this_alikes this_g)) (run_V (pc := 1) (n := 0) (As := []) (rest := []) ⟨hx, hb, hml, hown, hts⟩ ((c_X12_triesNow l D k this this_thrown this_tape this_taped this_size this_sort this_place this_value this_at this_fault this_words this_towns this_op this_arg this_codes this_names this_readNames this_namesMany this_readMany this_once this_lines this_facts this_pile this_state this_state_f this_undos this_isMarked this_weight this_rounding this_lacks this_alikes this_g r6 hcl) H.size) ⟨kw_1564, kw_16, by decide +kernel⟩ kw_1561 kw_1563 ks_134 ⟨Nat.le_of_ble_eq_true rfl, Nat.le_of_ble_eq_true rfl⟩ pw_blind (prW (P_pick [true, false, true] rfl hP) hG (D_pick [true, false, true] rfl hD)) (va_recv hG.1 hP (ci := 10) (q0 := 0) rfl rfl) rfl hl.1 rfl (Nat.le_of_ble_eq_true rfl) dX12_highWithout_1 ⟨Nat.zero_le _, Nat.zero_le _⟩) hP hD hS hA [true, false, true] rfl rfl rfl (fun H locs hP hD hS => ?_)
  refine lv_iconst (v := 0) (pc := 4) hx hb dX12_highWithout_4 (by decide) ?_
  refine lv_istore_n (lv' := [(2, .int 0), (0, .ref this), (1, .int q1)]) (pc := 5) hx hb dX12_highWithout_5 rfl hl (Nat.le_of_ble_eq_true rfl) rfl (fun ls hl => ?_)
  exact h_6 FU 0 r6 H locs ls hP hD hS (lv_sub hl [1, 2, 0] rfl) hm
theorem dX12_spared_0 : decode cX12_spared 0 = .ok (.aload_n 0, 1) := by decide +kernel
theorem dX12_spared_1 : decode cX12_spared 1 = .ok (.iconst 0, 1) := by decide +kernel
theorem dX12_spared_2 : decode cX12_spared 2 = .ok (.putfield 1, 3) := by decide +kernel
theorem dX12_spared_5 : decode cX12_spared 5 = .ok (.iconst (-1), 1) := by decide +kernel
theorem dX12_spared_6 : decode cX12_spared 6 = .ok (.istore_n 2, 1) := by decide +kernel
theorem dX12_spared_7 : decode cX12_spared 7 = .ok (.iconst 0, 1) := by decide +kernel
theorem dX12_spared_8 : decode cX12_spared 8 = .ok (.istore_n 3, 1) := by decide +kernel
theorem dX12_spared_9 : decode cX12_spared 9 = .ok (.iload_n 3, 1) := by decide +kernel
theorem dX12_spared_10 : decode cX12_spared 10 = .ok (.iconst 1, 1) := by decide +kernel
theorem dX12_spared_11 : decode cX12_spared 11 = .ok (.aload_n 0, 1) := by decide +kernel
theorem dX12_spared_12 : decode cX12_spared 12 = .ok (.invokevirtual 255, 3) := by decide +kernel
theorem dX12_spared_15 : decode cX12_spared 15 = .ok (.ishl, 1) := by decide +kernel
theorem dX12_spared_16 : decode cX12_spared 16 = .ok (.if_icmp .ge 49, 3) := by decide +kernel
theorem dX12_spared_19 : decode cX12_spared 19 = .ok (.iload_n 1, 1) := by decide +kernel
theorem dX12_spared_20 : decode cX12_spared 20 = .ok (.iconst 1, 1) := by decide +kernel
theorem dX12_spared_21 : decode cX12_spared 21 = .ok (.bipush 99, 2) := by decide +kernel
theorem dX12_spared_23 : decode cX12_spared 23 = .ok (.invokestatic 306, 3) := by decide +kernel
theorem dX12_spared_26 : decode cX12_spared 26 = .ok (.ifCond .eq 39, 3) := by decide +kernel
theorem dX12_spared_29 : decode cX12_spared 29 = .ok (.iload_n 2, 1) := by decide +kernel
theorem dX12_spared_30 : decode cX12_spared 30 = .ok (.ifCond .lt 14, 3) := by decide +kernel
theorem dX12_spared_33 : decode cX12_spared 33 = .ok (.iload_n 3, 1) := by decide +kernel
theorem dX12_spared_34 : decode cX12_spared 34 = .ok (.invokestatic 328, 3) := by decide +kernel
theorem dX12_spared_37 : decode cX12_spared 37 = .ok (.iload_n 2, 1) := by decide +kernel
theorem dX12_spared_38 : decode cX12_spared 38 = .ok (.invokestatic 328, 3) := by decide +kernel
theorem dX12_spared_41 : decode cX12_spared 41 = .ok (.if_icmp .ge 16, 3) := by decide +kernel
theorem dX12_spared_44 : decode cX12_spared 44 = .ok (.aload_n 0, 1) := by decide +kernel
theorem dX12_spared_45 : decode cX12_spared 45 = .ok (.iload_n 3, 1) := by decide +kernel
theorem dX12_spared_46 : decode cX12_spared 46 = .ok (.invokevirtual 331, 3) := by decide +kernel
theorem dX12_spared_49 : decode cX12_spared 49 = .ok (.iload_n 1, 1) := by decide +kernel
theorem dX12_spared_50 : decode cX12_spared 50 = .ok (.if_icmp .lt 7, 3) := by decide +kernel
theorem dX12_spared_53 : decode cX12_spared 53 = .ok (.iload_n 3, 1) := by decide +kernel
theorem dX12_spared_54 : decode cX12_spared 54 = .ok (.goto 4, 3) := by decide +kernel
theorem dX12_spared_57 : decode cX12_spared 57 = .ok (.iload_n 2, 1) := by decide +kernel
theorem dX12_spared_58 : decode cX12_spared 58 = .ok (.istore_n 2, 1) := by decide +kernel
theorem dX12_spared_59 : decode cX12_spared 59 = .ok (.iinc 3 1, 3) := by decide +kernel
theorem dX12_spared_62 : decode cX12_spared 62 = .ok (.goto (-53), 3) := by decide +kernel
theorem dX12_spared_65 : decode cX12_spared 65 = .ok (.iload_n 2, 1) := by decide +kernel
theorem dX12_spared_66 : decode cX12_spared 66 = .ok (.ireturn, 1) := by decide +kernel
abbrev wd_X12_spared (k : Nat → ClassId) (this : Nat) (this_thrown : Int32) (this_tape : Nat) (this_taped : Int32) (this_size : Int32) (this_sort : Nat) (this_place : Nat) (this_value : Nat) (this_at : Int32) (this_fault : Int32) (this_words : Nat) (this_towns : Nat) (this_towns_f : Nat → Int32) (this_op : Nat) (this_arg : Nat) (this_codes : Int32) (this_names : Nat) (this_readNames : Nat) (this_namesMany : Int32) (this_readMany : Int32) (this_once : Int32) (this_lines : Nat) (this_facts : Nat) (this_pile : Nat) (this_state : Nat) (this_state_f : Nat → Int32) (this_undos : Int32) (this_isMarked : Nat) (this_weight : Int32) (this_rounding : Int32) (this_lacks : Nat) (this_alikes : Nat) (this_g : Int64) : va_W := [(this, .inr (10, [.int this_thrown, .ref this_tape, .int this_taped, .int this_size, .ref this_sort, .ref this_place, .ref this_value, .int this_at, .int this_fault, .ref this_words, .ref this_towns, .ref this_op, .ref this_arg, .int this_codes, .ref this_names, .ref this_readNames, .int this_namesMany, .int this_readMany, .int this_once, .ref this_lines, .ref this_facts, .ref this_pile, .ref this_state, .int this_undos, .ref this_isMarked, .int this_weight, .int this_rounding, .ref this_lacks, .ref this_alikes, .long this_g])), (this_towns, .inl (k 0, 60, .inl this_towns_f)), (this_state, .inl (k 0, 1104, .inl this_state_f))]
set_option maxHeartbeats 4000000 in
set_option maxRecDepth 100000 in
theorem c_X12_spared (l : Launch) (D : va_G) (k : Nat → ClassId) (this : Nat) (this_thrown : Int32) (this_tape : Nat) (this_taped : Int32) (this_size : Int32) (this_sort : Nat) (this_place : Nat) (this_value : Nat) (this_at : Int32) (this_fault : Int32) (this_words : Nat) (this_towns : Nat) (this_towns_f : Nat → Int32) (this_op : Nat) (this_arg : Nat) (this_codes : Int32) (this_names : Nat) (this_readNames : Nat) (this_namesMany : Int32) (this_readMany : Int32) (this_once : Int32) (this_lines : Nat) (this_facts : Nat) (this_pile : Nat) (this_state : Nat) (this_state_f : Nat → Int32) (this_undos : Int32) (this_isMarked : Nat) (this_weight : Int32) (this_rounding : Int32) (this_lacks : Nat) (this_alikes : Nat) (this_g : Int64) (q1 : Int32) (R0 : Int32 × Int32 × (Nat → Int32)) (hm : m_X12_spared this_towns_f this_state_f this_weight this_rounding q1 = some R0) : CW l D (TY k) yX12_spared cX12_spared 4 (some .int) 5 112 [.ref this, .int q1] (wd_X12_spared k this this_thrown this_tape this_taped this_size this_sort this_place this_value this_at this_fault this_words this_towns this_towns_f this_op this_arg this_codes this_names this_readNames this_namesMany this_readMany this_once this_lines this_facts this_pile this_state this_state_f this_undos this_isMarked this_weight this_rounding this_lacks this_alikes this_g) (some (.int R0.1)) (wd_X12_spared k this R0.2.1 this_tape this_taped this_size this_sort this_place this_value this_at this_fault this_words this_towns this_towns_f this_op this_arg this_codes this_names this_readNames this_namesMany this_readMany this_once this_lines this_facts this_pile this_state R0.2.2 this_undos this_isMarked this_weight this_rounding this_lacks this_alikes this_g) := by
  refine CW.mk (by decide) (Nat.le_of_ble_eq_true rfl) ?_
  intro p e s m args below meth c ls A ⟨hx, hb, hr, hts, hown, hlocks, hml⟩ hP hG hD hA hl hS hq
  have hl : lv_has ls 4 [(0, .ref this), (1, .int q1)] := hl
  have h_44 : ∀ (K9 : Int32 → Int32 → Int32 → (Nat → Int32) → Option (Int32 × Int32 × (Nat → Int32))) (hK9 : ∀ (x2 : Int32) (x3 : Int32) (u_this_thrown : Int32) (u_this_state_f : Nat → Int32) (H : Heap) (locs : List Loc) (ls : Array Slot), va_P D vwCl (wd_X12_spared k this u_this_thrown this_tape this_taped this_size this_sort this_place this_value this_at this_fault this_words this_towns this_towns_f this_op this_arg this_codes this_names this_readNames this_namesMany this_readMany this_once this_lines this_facts this_pile this_state u_this_state_f this_undos this_isMarked this_weight this_rounding this_lacks this_alikes this_g) H → va_D A (wd_X12_spared k this u_this_thrown this_tape this_taped this_size this_sort this_place this_value this_at this_fault this_words this_towns this_towns_f this_op this_arg this_codes this_names this_readNames this_namesMany this_readMany this_once this_lines this_facts this_pile this_state u_this_state_f this_undos this_isMarked this_weight this_rounding this_lacks this_alikes this_g) → va_S A s.heap H locs → lv_has ls 4 [(0, .ref this), (1, .int q1), (2, .int x2), (3, .int x3)] → K9 x2 x3 u_this_thrown u_this_state_f = some R0 → W p l e (Rm 5 112) s m args below meth c H locs 0 0 (MQ below (QW D (some (.int R0.1)) (wd_X12_spared k this this_thrown this_tape this_taped this_size this_sort this_place this_value this_at this_fault this_words this_towns this_towns_f this_op this_arg this_codes this_names this_readNames this_namesMany this_readMany this_once this_lines this_facts this_pile this_state this_state_f this_undos this_isMarked this_weight this_rounding this_lacks this_alikes this_g) (wd_X12_spared k this R0.2.1 this_tape this_taped this_size this_sort this_place this_value this_at this_fault this_words this_towns this_towns_f this_op this_arg this_codes this_names this_readNames this_namesMany this_readMany this_once this_lines this_facts this_pile this_state R0.2.2 this_undos this_isMarked this_weight this_rounding this_lacks this_alikes this_g) s.heap.size) args s 0 0 A) (F0 m 9 ls [])), ∀ (x2 : Int32) (x3 : Int32) (u_this_thrown : Int32) (u_this_state_f : Nat → Int32) (H : Heap) (locs : List Loc) (ls : Array Slot), va_P D vwCl (wd_X12_spared k this u_this_thrown this_tape this_taped this_size this_sort this_place this_value this_at this_fault this_words this_towns this_towns_f this_op this_arg this_codes this_names this_readNames this_namesMany this_readMany this_once this_lines this_facts this_pile this_state u_this_state_f this_undos this_isMarked this_weight this_rounding this_lacks this_alikes this_g) H → va_D A (wd_X12_spared k this u_this_thrown this_tape this_taped this_size this_sort this_place this_value this_at this_fault this_words this_towns this_towns_f this_op this_arg this_codes this_names this_readNames this_namesMany this_readMany this_once this_lines this_facts this_pile this_state u_this_state_f this_undos this_isMarked this_weight this_rounding this_lacks this_alikes this_g) → va_S A s.heap H locs → lv_has ls 4 [(0, .ref this), (1, .int q1), (2, .int x2), (3, .int x3)] → m_X12_spared_44 this_towns_f this_weight this_rounding q1 K9 x2 x3 u_this_thrown u_this_state_f = some R0 → W p l e (Rm 5 112) s m args below meth c H locs 0 0 (MQ below (QW D (some (.int R0.1)) (wd_X12_spared k this this_thrown this_tape this_taped this_size this_sort this_place this_value this_at this_fault this_words this_towns this_towns_f this_op this_arg this_codes this_names this_readNames this_namesMany this_readMany this_once this_lines this_facts this_pile this_state this_state_f this_undos this_isMarked this_weight this_rounding this_lacks this_alikes this_g) (wd_X12_spared k this R0.2.1 this_tape this_taped this_size this_sort this_place this_value this_at this_fault this_words this_towns this_towns_f this_op this_arg this_codes this_names this_readNames this_namesMany this_readMany this_once this_lines this_facts this_pile this_state R0.2.2 this_undos this_isMarked this_weight this_rounding this_lacks this_alikes this_g) s.heap.size) args s 0 0 A) (F0 m 44 ls []) := by
    intro K9 hK9 x2 x3 u_this_thrown u_this_state_f H locs ls hP hD hS hl hm
    unfold m_X12_spared_44 at hm
    refine lv_aload_n (pc := 44) hx hb dX12_spared_44 rfl (lv_at hl 0 rfl) ?_
    refine lv_iload_n (pc := 45) hx hb dX12_spared_45 rfl (lv_at hl 3 rfl) ?_
    obtain ⟨r6, hcl, hm⟩ := bd hm
    refine cw_mask (ws' := (wd_X12_spared k this u_this_thrown this_tape this_taped this_size this_sort this_place this_value this_at this_fault this_words this_towns this_towns_f this_op this_arg this_codes this_names this_readNames this_namesMany this_readMany this_once this_lines this_facts this_pile this_state r6.2 this_undos this_isMarked this_weight this_rounding this_lacks this_alikes this_g)) (run_V (pc := 46) (n := 1) (As := [.int x3]) (rest := []) ⟨hx, hb, hml, hown, hts⟩ ((c_X12_highWithout l D k this u_this_thrown this_tape this_taped this_size this_sort this_place this_value this_at this_fault this_words this_towns this_towns_f this_op this_arg this_codes this_names this_readNames this_namesMany this_readMany this_once this_lines this_facts this_pile this_state u_this_state_f this_undos this_isMarked this_weight this_rounding this_lacks this_alikes this_g x3 r6 hcl) H.size) ⟨kw_1615, kw_16, by decide +kernel⟩ kw_1612 kw_1614 ks_137 ⟨Nat.le_of_ble_eq_true rfl, Nat.le_of_ble_eq_true rfl⟩ pw_blind (prW (P_pick [true, true, true] rfl hP) hG (D_pick [true, true, true] rfl hD)) (va_recv hG.1 hP (ci := 10) (q0 := 0) rfl rfl) rfl hl.1 rfl (Nat.le_of_ble_eq_true rfl) dX12_spared_46 ⟨Nat.zero_le _, Nat.zero_le _⟩) hP hD hS hA [true, true, true] rfl rfl rfl (fun H locs hP hD hS => ?_)
    refine lv_iload_n (pc := 49) hx hb dX12_spared_49 rfl (lv_at hl 1 rfl) ?_
    refine lv_icmp_lt (tgt := 57) (pc := 50) hx hb dX12_spared_50 (by decide) (fun hc => ?_) (fun hc => ?_)
    · rw [if_pos hc] at hm
      refine lv_iload_n (pc := 57) hx hb dX12_spared_57 rfl (lv_at hl 2 rfl) ?_
      refine lv_istore_n (lv' := [(2, .int x2), (0, .ref this), (1, .int q1), (3, .int x3)]) (pc := 58) hx hb dX12_spared_58 rfl hl (Nat.le_of_ble_eq_true rfl) rfl (fun ls hl => ?_)
      refine lv_iinc (k := 3) (v := x3 + 1) (lv' := [(3, .int (x3 + 1)), (2, .int x2), (0, .ref this), (1, .int q1)]) (pc := 59) hx hb dX12_spared_59 hl rfl rfl (Nat.le_of_ble_eq_true rfl) rfl (fun ls hl => ?_)
      refine lv_goto (tgt := 9) (pc := 62) hx hb dX12_spared_62 (by decide) ?_
      exact hK9 x2 (x3 + 1) u_this_thrown r6.2 H locs ls hP hD hS (lv_sub hl [2, 3, 1, 0] rfl) hm
    · rw [if_neg hc] at hm
      refine lv_iload_n (pc := 53) hx hb dX12_spared_53 rfl (lv_at hl 3 rfl) ?_
      refine lv_goto (tgt := 58) (pc := 54) hx hb dX12_spared_54 (by decide) ?_
      refine lv_istore_n (lv' := [(2, .int x3), (0, .ref this), (1, .int q1), (3, .int x3)]) (pc := 58) hx hb dX12_spared_58 rfl hl (Nat.le_of_ble_eq_true rfl) rfl (fun ls hl => ?_)
      refine lv_iinc (k := 3) (v := x3 + 1) (lv' := [(3, .int (x3 + 1)), (2, .int x3), (0, .ref this), (1, .int q1)]) (pc := 59) hx hb dX12_spared_59 hl rfl rfl (Nat.le_of_ble_eq_true rfl) rfl (fun ls hl => ?_)
      refine lv_goto (tgt := 9) (pc := 62) hx hb dX12_spared_62 (by decide) ?_
      exact hK9 x3 (x3 + 1) u_this_thrown r6.2 H locs ls hP hD hS (lv_sub hl [2, 3, 1, 0] rfl) hm
  have h_9 : ∀ (n : Nat), ∀ (x2 : Int32) (x3 : Int32) (u_this_thrown : Int32) (u_this_state_f : Nat → Int32) (H : Heap) (locs : List Loc) (ls : Array Slot), va_P D vwCl (wd_X12_spared k this u_this_thrown this_tape this_taped this_size this_sort this_place this_value this_at this_fault this_words this_towns this_towns_f this_op this_arg this_codes this_names this_readNames this_namesMany this_readMany this_once this_lines this_facts this_pile this_state u_this_state_f this_undos this_isMarked this_weight this_rounding this_lacks this_alikes this_g) H → va_D A (wd_X12_spared k this u_this_thrown this_tape this_taped this_size this_sort this_place this_value this_at this_fault this_words this_towns this_towns_f this_op this_arg this_codes this_names this_readNames this_namesMany this_readMany this_once this_lines this_facts this_pile this_state u_this_state_f this_undos this_isMarked this_weight this_rounding this_lacks this_alikes this_g) → va_S A s.heap H locs → lv_has ls 4 [(0, .ref this), (1, .int q1), (2, .int x2), (3, .int x3)] → m_X12_spared_9 this_towns_f this_weight this_rounding q1 n x2 x3 u_this_thrown u_this_state_f = some R0 → W p l e (Rm 5 112) s m args below meth c H locs 0 0 (MQ below (QW D (some (.int R0.1)) (wd_X12_spared k this this_thrown this_tape this_taped this_size this_sort this_place this_value this_at this_fault this_words this_towns this_towns_f this_op this_arg this_codes this_names this_readNames this_namesMany this_readMany this_once this_lines this_facts this_pile this_state this_state_f this_undos this_isMarked this_weight this_rounding this_lacks this_alikes this_g) (wd_X12_spared k this R0.2.1 this_tape this_taped this_size this_sort this_place this_value this_at this_fault this_words this_towns this_towns_f this_op this_arg this_codes this_names this_readNames this_namesMany this_readMany this_once this_lines this_facts this_pile this_state R0.2.2 this_undos this_isMarked this_weight this_rounding this_lacks this_alikes this_g) s.heap.size) args s 0 0 A) (F0 m 9 ls []) := by
    intro n
    induction n with
    | zero => intro x2 x3 u_this_thrown u_this_state_f H locs ls hP hD hS hl hm; cases hm
    | succ n ih =>
      intro x2 x3 u_this_thrown u_this_state_f H locs ls hP hD hS hl hm
      unfold m_X12_spared_9 at hm
      refine lv_iload_n (pc := 9) hx hb dX12_spared_9 rfl (lv_at hl 3 rfl) ?_
      refine lv_iconst (v := 1) (pc := 10) hx hb dX12_spared_10 (by decide) ?_
      refine lv_aload_n (pc := 11) hx hb dX12_spared_11 rfl (lv_at hl 0 rfl) ?_
      obtain ⟨r7, hcl, hm⟩ := bd hm
      refine cr_back (run_V (pc := 12) (n := 0) (As := []) (rest := [.int 1, .int x3]) ⟨hx, hb, hml, hown, hts⟩ (c_X12_persons l D k this u_this_thrown this_tape this_taped this_size this_sort this_place this_value this_at this_fault this_words this_towns this_towns_f this_op this_arg this_codes this_names this_readNames this_namesMany this_readMany this_once this_lines this_facts this_pile this_state this_undos this_isMarked this_weight this_rounding this_lacks this_alikes this_g r7 hcl) ⟨kw_1252, kw_16, by decide +kernel⟩ kw_1249 kw_1251 ks_97 ⟨Nat.le_of_ble_eq_true rfl, Nat.le_of_ble_eq_true rfl⟩ pr_blind (prR (hP.sub [0, 1] rfl) hG) (va_recv hG.1 hP (ci := 10) (q0 := 0) rfl rfl) rfl hl.1 rfl (Nat.le_of_ble_eq_true rfl) dX12_spared_12 ⟨Nat.zero_le _, Nat.zero_le _⟩) ?_
      refine lv_ishl (pc := 15) hx hb dX12_spared_15 ?_
      refine lv_icmp_ge (tgt := 65) (pc := 16) hx hb dX12_spared_16 (by decide) (fun hc => ?_) (fun hc => ?_)
      · rw [if_pos hc] at hm
        refine lv_iload_n (pc := 65) hx hb dX12_spared_65 rfl (lv_at hl 2 rfl) ?_
        rw [← Option.some.inj hm]
        exact W.iret hx hb hr (fun t ht _ => hq _ _ H t ht hP hD locs hS) hS.2.2 dX12_spared_66 hlocks
      · rw [if_neg hc] at hm
        refine lv_iload_n (pc := 19) hx hb dX12_spared_19 rfl (lv_at hl 1 rfl) ?_
        refine lv_iconst (v := 1) (pc := 20) hx hb dX12_spared_20 (by decide) ?_
        refine lv_bipush (v := 99) (pc := 21) hx hb dX12_spared_21 (by decide) ?_
        obtain ⟨r8, hcl, hm⟩ := bd hm
        refine cr_back (run_S (pc := 23) (n := 3) (As := [.int q1, .int 1, .int 99]) (rest := []) ⟨hx, hb, hml, hown, hts⟩ (c_X12_within l D k q1 1 99 r8 hcl) ⟨kw_1501, kw_16, by decide +kernel⟩ kw_1499 kw_1500 ⟨Nat.le_of_ble_eq_true rfl, Nat.le_of_ble_eq_true rfl⟩ pr_blind (prR (hP.sub [] rfl) hG) rfl hl.1 rfl (Nat.le_of_ble_eq_true rfl) dX12_spared_23 ⟨Nat.zero_le _, Nat.zero_le _⟩) ?_
        refine lv_if_eq (tgt := 65) (pc := 26) hx hb dX12_spared_26 (by decide) (fun hc => ?_) (fun hc => ?_)
        · rw [if_pos hc] at hm
          refine lv_iload_n (pc := 65) hx hb dX12_spared_65 rfl (lv_at hl 2 rfl) ?_
          rw [← Option.some.inj hm]
          exact W.iret hx hb hr (fun t ht _ => hq _ _ H t ht hP hD locs hS) hS.2.2 dX12_spared_66 hlocks
        · rw [if_neg hc] at hm
          refine lv_iload_n (pc := 29) hx hb dX12_spared_29 rfl (lv_at hl 2 rfl) ?_
          refine lv_if_lt (tgt := 44) (pc := 30) hx hb dX12_spared_30 (by decide) (fun hc => ?_) (fun hc => ?_)
          · rw [if_pos hc] at hm
            exact h_44 (m_X12_spared_9 this_towns_f this_weight this_rounding q1 n) ih x2 x3 u_this_thrown u_this_state_f H locs ls hP hD hS (lv_sub hl [0, 1, 2, 3] rfl) hm
          · rw [if_neg hc] at hm
            refine lv_iload_n (pc := 33) hx hb dX12_spared_33 rfl (lv_at hl 3 rfl) ?_
            obtain ⟨r9, hcl, hm⟩ := bd hm
            refine cr_back (run_S (pc := 34) (n := 1) (As := [.int x3]) (rest := []) ⟨hx, hb, hml, hown, hts⟩ (c_X12_bits l D k x3 r9 hcl) ⟨kw_1611, kw_16, by decide +kernel⟩ kw_1609 kw_1610 ⟨Nat.le_of_ble_eq_true rfl, Nat.le_of_ble_eq_true rfl⟩ pr_blind (prR (hP.sub [] rfl) hG) rfl hl.1 rfl (Nat.le_of_ble_eq_true rfl) dX12_spared_34 ⟨Nat.zero_le _, Nat.zero_le _⟩) ?_
            refine lv_iload_n (pc := 37) hx hb dX12_spared_37 rfl (lv_at hl 2 rfl) ?_
            obtain ⟨r10, hcl, hm⟩ := bd hm
            refine cr_back (run_S (pc := 38) (n := 1) (As := [.int x2]) (rest := [.int r9]) ⟨hx, hb, hml, hown, hts⟩ (c_X12_bits l D k x2 r10 hcl) ⟨kw_1611, kw_16, by decide +kernel⟩ kw_1609 kw_1610 ⟨Nat.le_of_ble_eq_true rfl, Nat.le_of_ble_eq_true rfl⟩ pr_blind (prR (hP.sub [] rfl) hG) rfl hl.1 rfl (Nat.le_of_ble_eq_true rfl) dX12_spared_38 ⟨Nat.zero_le _, Nat.zero_le _⟩) ?_
            refine lv_icmp_ge (tgt := 57) (pc := 41) hx hb dX12_spared_41 (by decide) (fun hc => ?_) (fun hc => ?_)
            · rw [if_pos hc] at hm
              refine lv_iload_n (pc := 57) hx hb dX12_spared_57 rfl (lv_at hl 2 rfl) ?_
              refine lv_istore_n (lv' := [(2, .int x2), (0, .ref this), (1, .int q1), (3, .int x3)]) (pc := 58) hx hb dX12_spared_58 rfl hl (Nat.le_of_ble_eq_true rfl) rfl (fun ls hl => ?_)
              refine lv_iinc (k := 3) (v := x3 + 1) (lv' := [(3, .int (x3 + 1)), (2, .int x2), (0, .ref this), (1, .int q1)]) (pc := 59) hx hb dX12_spared_59 hl rfl rfl (Nat.le_of_ble_eq_true rfl) rfl (fun ls hl => ?_)
              refine lv_goto (tgt := 9) (pc := 62) hx hb dX12_spared_62 (by decide) ?_
              exact ih x2 (x3 + 1) u_this_thrown u_this_state_f H locs ls hP hD hS (lv_sub hl [2, 3, 1, 0] rfl) hm
            · rw [if_neg hc] at hm
              exact h_44 (m_X12_spared_9 this_towns_f this_weight this_rounding q1 n) ih x2 x3 u_this_thrown u_this_state_f H locs ls hP hD hS (lv_sub hl [0, 1, 2, 3] rfl) hm
  unfold m_X12_spared at hm
  suffices hgo : ∀ (H : Heap) (locs : List Loc), va_P D vwCl (wd_X12_spared k this this_thrown this_tape this_taped this_size this_sort this_place this_value this_at this_fault this_words this_towns this_towns_f this_op this_arg this_codes this_names this_readNames this_namesMany this_readMany this_once this_lines this_facts this_pile this_state this_state_f this_undos this_isMarked this_weight this_rounding this_lacks this_alikes this_g) H → va_D A (wd_X12_spared k this this_thrown this_tape this_taped this_size this_sort this_place this_value this_at this_fault this_words this_towns this_towns_f this_op this_arg this_codes this_names this_readNames this_namesMany this_readMany this_once this_lines this_facts this_pile this_state this_state_f this_undos this_isMarked this_weight this_rounding this_lacks this_alikes this_g) → va_S A s.heap H locs → W p l e (Rm 5 112) s m args below meth c H locs 0 0 (MQ below (QW D (some (.int R0.1)) (wd_X12_spared k this this_thrown this_tape this_taped this_size this_sort this_place this_value this_at this_fault this_words this_towns this_towns_f this_op this_arg this_codes this_names this_readNames this_namesMany this_readMany this_once this_lines this_facts this_pile this_state this_state_f this_undos this_isMarked this_weight this_rounding this_lacks this_alikes this_g) (wd_X12_spared k this R0.2.1 this_tape this_taped this_size this_sort this_place this_value this_at this_fault this_words this_towns this_towns_f this_op this_arg this_codes this_names this_readNames this_namesMany this_readMany this_once this_lines this_facts this_pile this_state R0.2.2 this_undos this_isMarked this_weight this_rounding this_lacks this_alikes this_g) s.heap.size) args s 0 0 A) (F0 m 0 ls []) from hgo _ _ hP hD hS
  clear hP hD hS
  intro H locs hP hD hS
  refine lv_aload_n (pc := 0) hx hb dX12_spared_0 rfl (lv_at hl 0 rfl) ?_
  refine lv_iconst (v := 0) (pc := 1) hx hb dX12_spared_1 (by decide) ?_
  refine va_put (pc := 2) (D := D) (ci := 10) (v := .int 0) (ty := .int) (C := RX12) (T := TX12) (N := 30) hx hb hts hiX12 tyX12 tyX12_ok nmX12 hown hG.1 hP hD hS 0 rfl rfl 0 (Nat.le_of_ble_eq_true rfl) (hts _ kw_1257) (fun _ h9 => h9) rfl (by decide +kernel) rfl rfl (Nat.le_of_ble_eq_true rfl) dX12_spared_2 (fun H locs hP hD hS => ?_)
  have hP : va_P D vwCl (wd_X12_spared k this 0 this_tape this_taped this_size this_sort this_place this_value this_at this_fault this_words this_towns this_towns_f this_op this_arg this_codes this_names this_readNames this_namesMany this_readMany this_once this_lines this_facts this_pile this_state this_state_f this_undos this_isMarked this_weight this_rounding this_lacks this_alikes this_g) H := hP
  have hD : va_D A (wd_X12_spared k this 0 this_tape this_taped this_size this_sort this_place this_value this_at this_fault this_words this_towns this_towns_f this_op this_arg this_codes this_names this_readNames this_namesMany this_readMany this_once this_lines this_facts this_pile this_state this_state_f this_undos this_isMarked this_weight this_rounding this_lacks this_alikes this_g) := hD
  refine lv_iconst (v := (-1)) (pc := 5) hx hb dX12_spared_5 (by decide) ?_
  refine lv_istore_n (lv' := [(2, .int (-1)), (0, .ref this), (1, .int q1)]) (pc := 6) hx hb dX12_spared_6 rfl hl (Nat.le_of_ble_eq_true rfl) rfl (fun ls hl => ?_)
  refine lv_iconst (v := 0) (pc := 7) hx hb dX12_spared_7 (by decide) ?_
  refine lv_istore_n (lv' := [(3, .int 0), (2, .int (-1)), (0, .ref this), (1, .int q1)]) (pc := 8) hx hb dX12_spared_8 rfl hl (Nat.le_of_ble_eq_true rfl) rfl (fun ls hl => ?_)
  exact h_9 FU (-1) 0 0 this_state_f H locs ls hP hD hS (lv_sub hl [2, 3, 1, 0] rfl) hm
theorem dX12_pair_0 : decode cX12_pair 0 = .ok (.aload_n 0, 1) := by decide +kernel
theorem dX12_pair_1 : decode cX12_pair 1 = .ok (.iconst 0, 1) := by decide +kernel
theorem dX12_pair_2 : decode cX12_pair 2 = .ok (.putfield 1, 3) := by decide +kernel
theorem dX12_pair_5 : decode cX12_pair 5 = .ok (.iconst (-1), 1) := by decide +kernel
theorem dX12_pair_6 : decode cX12_pair 6 = .ok (.istore_n 1, 1) := by decide +kernel
theorem dX12_pair_7 : decode cX12_pair 7 = .ok (.iconst (-1), 1) := by decide +kernel
theorem dX12_pair_8 : decode cX12_pair 8 = .ok (.istore_n 2, 1) := by decide +kernel
theorem dX12_pair_9 : decode cX12_pair 9 = .ok (.iconst 0, 1) := by decide +kernel
theorem dX12_pair_10 : decode cX12_pair 10 = .ok (.istore_n 3, 1) := by decide +kernel
theorem dX12_pair_11 : decode cX12_pair 11 = .ok (.iload_n 3, 1) := by decide +kernel
theorem dX12_pair_12 : decode cX12_pair 12 = .ok (.aload_n 0, 1) := by decide +kernel
theorem dX12_pair_13 : decode cX12_pair 13 = .ok (.invokevirtual 255, 3) := by decide +kernel
theorem dX12_pair_16 : decode cX12_pair 16 = .ok (.if_icmp .ge 74, 3) := by decide +kernel
theorem dX12_pair_19 : decode cX12_pair 19 = .ok (.iload_n 3, 1) := by decide +kernel
theorem dX12_pair_20 : decode cX12_pair 20 = .ok (.iconst 1, 1) := by decide +kernel
theorem dX12_pair_21 : decode cX12_pair 21 = .ok (.iadd, 1) := by decide +kernel
theorem dX12_pair_22 : decode cX12_pair 22 = .ok (.istore 4, 2) := by decide +kernel
theorem dX12_pair_24 : decode cX12_pair 24 = .ok (.iload 4, 2) := by decide +kernel
theorem dX12_pair_26 : decode cX12_pair 26 = .ok (.aload_n 0, 1) := by decide +kernel
theorem dX12_pair_27 : decode cX12_pair 27 = .ok (.invokevirtual 255, 3) := by decide +kernel
theorem dX12_pair_30 : decode cX12_pair 30 = .ok (.if_icmp .ge 54, 3) := by decide +kernel
theorem dX12_pair_33 : decode cX12_pair 33 = .ok (.aload_n 0, 1) := by decide +kernel
theorem dX12_pair_34 : decode cX12_pair 34 = .ok (.iconst 1, 1) := by decide +kernel
theorem dX12_pair_35 : decode cX12_pair 35 = .ok (.iload_n 3, 1) := by decide +kernel
theorem dX12_pair_36 : decode cX12_pair 36 = .ok (.ishl, 1) := by decide +kernel
theorem dX12_pair_37 : decode cX12_pair 37 = .ok (.iconst 1, 1) := by decide +kernel
theorem dX12_pair_38 : decode cX12_pair 38 = .ok (.iload 4, 2) := by decide +kernel
theorem dX12_pair_40 : decode cX12_pair 40 = .ok (.ishl, 1) := by decide +kernel
theorem dX12_pair_41 : decode cX12_pair 41 = .ok (.ior, 1) := by decide +kernel
theorem dX12_pair_42 : decode cX12_pair 42 = .ok (.invokevirtual 331, 3) := by decide +kernel
theorem dX12_pair_45 : decode cX12_pair 45 = .ok (.istore 5, 2) := by decide +kernel
theorem dX12_pair_47 : decode cX12_pair 47 = .ok (.iload 5, 2) := by decide +kernel
theorem dX12_pair_49 : decode cX12_pair 49 = .ok (.iload_n 2, 1) := by decide +kernel
theorem dX12_pair_50 : decode cX12_pair 50 = .ok (.if_icmp .le 13, 3) := by decide +kernel
theorem dX12_pair_53 : decode cX12_pair 53 = .ok (.bipush 8, 2) := by decide +kernel
theorem dX12_pair_55 : decode cX12_pair 55 = .ok (.iload_n 3, 1) := by decide +kernel
theorem dX12_pair_56 : decode cX12_pair 56 = .ok (.imul, 1) := by decide +kernel
theorem dX12_pair_57 : decode cX12_pair 57 = .ok (.iload 4, 2) := by decide +kernel
theorem dX12_pair_59 : decode cX12_pair 59 = .ok (.iadd, 1) := by decide +kernel
theorem dX12_pair_60 : decode cX12_pair 60 = .ok (.goto 4, 3) := by decide +kernel
theorem dX12_pair_63 : decode cX12_pair 63 = .ok (.iload_n 1, 1) := by decide +kernel
theorem dX12_pair_64 : decode cX12_pair 64 = .ok (.istore_n 1, 1) := by decide +kernel
theorem dX12_pair_65 : decode cX12_pair 65 = .ok (.iload 5, 2) := by decide +kernel
theorem dX12_pair_67 : decode cX12_pair 67 = .ok (.iload_n 2, 1) := by decide +kernel
theorem dX12_pair_68 : decode cX12_pair 68 = .ok (.if_icmp .le 8, 3) := by decide +kernel
theorem dX12_pair_71 : decode cX12_pair 71 = .ok (.iload 5, 2) := by decide +kernel
theorem dX12_pair_73 : decode cX12_pair 73 = .ok (.goto 4, 3) := by decide +kernel
theorem dX12_pair_76 : decode cX12_pair 76 = .ok (.iload_n 2, 1) := by decide +kernel
theorem dX12_pair_77 : decode cX12_pair 77 = .ok (.istore_n 2, 1) := by decide +kernel
theorem dX12_pair_78 : decode cX12_pair 78 = .ok (.iinc 4 1, 3) := by decide +kernel
theorem dX12_pair_81 : decode cX12_pair 81 = .ok (.goto (-57), 3) := by decide +kernel
theorem dX12_pair_84 : decode cX12_pair 84 = .ok (.iinc 3 1, 3) := by decide +kernel
theorem dX12_pair_87 : decode cX12_pair 87 = .ok (.goto (-76), 3) := by decide +kernel
theorem dX12_pair_90 : decode cX12_pair 90 = .ok (.iload_n 1, 1) := by decide +kernel
theorem dX12_pair_91 : decode cX12_pair 91 = .ok (.ireturn, 1) := by decide +kernel
abbrev wd_X12_pair (k : Nat → ClassId) (this : Nat) (this_thrown : Int32) (this_tape : Nat) (this_taped : Int32) (this_size : Int32) (this_sort : Nat) (this_place : Nat) (this_value : Nat) (this_at : Int32) (this_fault : Int32) (this_words : Nat) (this_towns : Nat) (this_towns_f : Nat → Int32) (this_op : Nat) (this_arg : Nat) (this_codes : Int32) (this_names : Nat) (this_readNames : Nat) (this_namesMany : Int32) (this_readMany : Int32) (this_once : Int32) (this_lines : Nat) (this_facts : Nat) (this_pile : Nat) (this_state : Nat) (this_state_f : Nat → Int32) (this_undos : Int32) (this_isMarked : Nat) (this_weight : Int32) (this_rounding : Int32) (this_lacks : Nat) (this_alikes : Nat) (this_g : Int64) : va_W := [(this, .inr (10, [.int this_thrown, .ref this_tape, .int this_taped, .int this_size, .ref this_sort, .ref this_place, .ref this_value, .int this_at, .int this_fault, .ref this_words, .ref this_towns, .ref this_op, .ref this_arg, .int this_codes, .ref this_names, .ref this_readNames, .int this_namesMany, .int this_readMany, .int this_once, .ref this_lines, .ref this_facts, .ref this_pile, .ref this_state, .int this_undos, .ref this_isMarked, .int this_weight, .int this_rounding, .ref this_lacks, .ref this_alikes, .long this_g])), (this_towns, .inl (k 0, 60, .inl this_towns_f)), (this_state, .inl (k 0, 1104, .inl this_state_f))]
set_option maxHeartbeats 4000000 in
set_option maxRecDepth 100000 in
theorem c_X12_pair (l : Launch) (D : va_G) (k : Nat → ClassId) (this : Nat) (this_thrown : Int32) (this_tape : Nat) (this_taped : Int32) (this_size : Int32) (this_sort : Nat) (this_place : Nat) (this_value : Nat) (this_at : Int32) (this_fault : Int32) (this_words : Nat) (this_towns : Nat) (this_towns_f : Nat → Int32) (this_op : Nat) (this_arg : Nat) (this_codes : Int32) (this_names : Nat) (this_readNames : Nat) (this_namesMany : Int32) (this_readMany : Int32) (this_once : Int32) (this_lines : Nat) (this_facts : Nat) (this_pile : Nat) (this_state : Nat) (this_state_f : Nat → Int32) (this_undos : Int32) (this_isMarked : Nat) (this_weight : Int32) (this_rounding : Int32) (this_lacks : Nat) (this_alikes : Nat) (this_g : Int64) (R0 : Int32 × Int32 × (Nat → Int32)) (hm : m_X12_pair this_towns_f this_state_f this_weight this_rounding = some R0) : CW l D (TY k) yX12_pair cX12_pair 6 (some .int) 5 112 [.ref this] (wd_X12_pair k this this_thrown this_tape this_taped this_size this_sort this_place this_value this_at this_fault this_words this_towns this_towns_f this_op this_arg this_codes this_names this_readNames this_namesMany this_readMany this_once this_lines this_facts this_pile this_state this_state_f this_undos this_isMarked this_weight this_rounding this_lacks this_alikes this_g) (some (.int R0.1)) (wd_X12_pair k this R0.2.1 this_tape this_taped this_size this_sort this_place this_value this_at this_fault this_words this_towns this_towns_f this_op this_arg this_codes this_names this_readNames this_namesMany this_readMany this_once this_lines this_facts this_pile this_state R0.2.2 this_undos this_isMarked this_weight this_rounding this_lacks this_alikes this_g) := by
  refine CW.mk (by decide) (Nat.le_of_ble_eq_true rfl) ?_
  intro p e s m args below meth c ls A ⟨hx, hb, hr, hts, hown, hlocks, hml⟩ hP hG hD hA hl hS hq
  have hl : lv_has ls 6 [(0, .ref this)] := hl
  have h_64 : ∀ (K11 : Int32 → Int32 → Int32 → Int32 → (Nat → Int32) → Option (Int32 × Int32 × (Nat → Int32))) (hK11 : ∀ (x1 : Int32) (x2 : Int32) (x3 : Int32) (u_this_thrown : Int32) (u_this_state_f : Nat → Int32) (H : Heap) (locs : List Loc) (ls : Array Slot), va_P D vwCl (wd_X12_pair k this u_this_thrown this_tape this_taped this_size this_sort this_place this_value this_at this_fault this_words this_towns this_towns_f this_op this_arg this_codes this_names this_readNames this_namesMany this_readMany this_once this_lines this_facts this_pile this_state u_this_state_f this_undos this_isMarked this_weight this_rounding this_lacks this_alikes this_g) H → va_D A (wd_X12_pair k this u_this_thrown this_tape this_taped this_size this_sort this_place this_value this_at this_fault this_words this_towns this_towns_f this_op this_arg this_codes this_names this_readNames this_namesMany this_readMany this_once this_lines this_facts this_pile this_state u_this_state_f this_undos this_isMarked this_weight this_rounding this_lacks this_alikes this_g) → va_S A s.heap H locs → lv_has ls 6 [(0, .ref this), (1, .int x1), (2, .int x2), (3, .int x3)] → K11 x1 x2 x3 u_this_thrown u_this_state_f = some R0 → W p l e (Rm 5 112) s m args below meth c H locs 0 0 (MQ below (QW D (some (.int R0.1)) (wd_X12_pair k this this_thrown this_tape this_taped this_size this_sort this_place this_value this_at this_fault this_words this_towns this_towns_f this_op this_arg this_codes this_names this_readNames this_namesMany this_readMany this_once this_lines this_facts this_pile this_state this_state_f this_undos this_isMarked this_weight this_rounding this_lacks this_alikes this_g) (wd_X12_pair k this R0.2.1 this_tape this_taped this_size this_sort this_place this_value this_at this_fault this_words this_towns this_towns_f this_op this_arg this_codes this_names this_readNames this_namesMany this_readMany this_once this_lines this_facts this_pile this_state R0.2.2 this_undos this_isMarked this_weight this_rounding this_lacks this_alikes this_g) s.heap.size) args s 0 0 A) (F0 m 11 ls [])) (K24 : Int32 → Int32 → Int32 → Int32 → Int32 → (Nat → Int32) → Option (Int32 × Int32 × (Nat → Int32))) (hK24 : ∀ (x1 : Int32) (x2 : Int32) (x3 : Int32) (x4 : Int32) (u_this_thrown : Int32) (u_this_state_f : Nat → Int32) (H : Heap) (locs : List Loc) (ls : Array Slot), va_P D vwCl (wd_X12_pair k this u_this_thrown this_tape this_taped this_size this_sort this_place this_value this_at this_fault this_words this_towns this_towns_f this_op this_arg this_codes this_names this_readNames this_namesMany this_readMany this_once this_lines this_facts this_pile this_state u_this_state_f this_undos this_isMarked this_weight this_rounding this_lacks this_alikes this_g) H → va_D A (wd_X12_pair k this u_this_thrown this_tape this_taped this_size this_sort this_place this_value this_at this_fault this_words this_towns this_towns_f this_op this_arg this_codes this_names this_readNames this_namesMany this_readMany this_once this_lines this_facts this_pile this_state u_this_state_f this_undos this_isMarked this_weight this_rounding this_lacks this_alikes this_g) → va_S A s.heap H locs → lv_has ls 6 [(0, .ref this), (1, .int x1), (2, .int x2), (3, .int x3), (4, .int x4)] → K24 x1 x2 x3 x4 u_this_thrown u_this_state_f = some R0 → W p l e (Rm 5 112) s m args below meth c H locs 0 0 (MQ below (QW D (some (.int R0.1)) (wd_X12_pair k this this_thrown this_tape this_taped this_size this_sort this_place this_value this_at this_fault this_words this_towns this_towns_f this_op this_arg this_codes this_names this_readNames this_namesMany this_readMany this_once this_lines this_facts this_pile this_state this_state_f this_undos this_isMarked this_weight this_rounding this_lacks this_alikes this_g) (wd_X12_pair k this R0.2.1 this_tape this_taped this_size this_sort this_place this_value this_at this_fault this_words this_towns this_towns_f this_op this_arg this_codes this_names this_readNames this_namesMany this_readMany this_once this_lines this_facts this_pile this_state R0.2.2 this_undos this_isMarked this_weight this_rounding this_lacks this_alikes this_g) s.heap.size) args s 0 0 A) (F0 m 24 ls [])), ∀ (x2 : Int32) (x3 : Int32) (x4 : Int32) (x5 : Int32) (t0 : Int32) (u_this_thrown : Int32) (u_this_state_f : Nat → Int32) (H : Heap) (locs : List Loc) (ls : Array Slot), va_P D vwCl (wd_X12_pair k this u_this_thrown this_tape this_taped this_size this_sort this_place this_value this_at this_fault this_words this_towns this_towns_f this_op this_arg this_codes this_names this_readNames this_namesMany this_readMany this_once this_lines this_facts this_pile this_state u_this_state_f this_undos this_isMarked this_weight this_rounding this_lacks this_alikes this_g) H → va_D A (wd_X12_pair k this u_this_thrown this_tape this_taped this_size this_sort this_place this_value this_at this_fault this_words this_towns this_towns_f this_op this_arg this_codes this_names this_readNames this_namesMany this_readMany this_once this_lines this_facts this_pile this_state u_this_state_f this_undos this_isMarked this_weight this_rounding this_lacks this_alikes this_g) → va_S A s.heap H locs → lv_has ls 6 [(0, .ref this), (2, .int x2), (3, .int x3), (4, .int x4), (5, .int x5)] → m_X12_pair_64 this_towns_f this_weight this_rounding K11 K24 x2 x3 x4 x5 t0 u_this_thrown u_this_state_f = some R0 → W p l e (Rm 5 112) s m args below meth c H locs 0 0 (MQ below (QW D (some (.int R0.1)) (wd_X12_pair k this this_thrown this_tape this_taped this_size this_sort this_place this_value this_at this_fault this_words this_towns this_towns_f this_op this_arg this_codes this_names this_readNames this_namesMany this_readMany this_once this_lines this_facts this_pile this_state this_state_f this_undos this_isMarked this_weight this_rounding this_lacks this_alikes this_g) (wd_X12_pair k this R0.2.1 this_tape this_taped this_size this_sort this_place this_value this_at this_fault this_words this_towns this_towns_f this_op this_arg this_codes this_names this_readNames this_namesMany this_readMany this_once this_lines this_facts this_pile this_state R0.2.2 this_undos this_isMarked this_weight this_rounding this_lacks this_alikes this_g) s.heap.size) args s 0 0 A) (F0 m 64 ls [.int t0]) := by
    intro K11 hK11 K24 hK24 x2 x3 x4 x5 t0 u_this_thrown u_this_state_f H locs ls hP hD hS hl hm
    unfold m_X12_pair_64 at hm
    refine lv_istore_n (lv' := [(1, .int t0), (0, .ref this), (2, .int x2), (3, .int x3), (4, .int x4), (5, .int x5)]) (pc := 64) hx hb dX12_pair_64 rfl hl (Nat.le_of_ble_eq_true rfl) rfl (fun ls hl => ?_)
    refine lv_iload (pc := 65) hx hb dX12_pair_65 (lv_at hl 5 rfl) ?_
    refine lv_iload_n (pc := 67) hx hb dX12_pair_67 rfl (lv_at hl 2 rfl) ?_
    refine lv_icmp_le (tgt := 76) (pc := 68) hx hb dX12_pair_68 (by decide) (fun hc => ?_) (fun hc => ?_)
    · rw [if_pos hc] at hm
      refine lv_iload_n (pc := 76) hx hb dX12_pair_76 rfl (lv_at hl 2 rfl) ?_
      refine lv_istore_n (lv' := [(2, .int x2), (1, .int t0), (0, .ref this), (3, .int x3), (4, .int x4), (5, .int x5)]) (pc := 77) hx hb dX12_pair_77 rfl hl (Nat.le_of_ble_eq_true rfl) rfl (fun ls hl => ?_)
      refine lv_iinc (k := 4) (v := x4 + 1) (lv' := [(4, .int (x4 + 1)), (2, .int x2), (1, .int t0), (0, .ref this), (3, .int x3), (5, .int x5)]) (pc := 78) hx hb dX12_pair_78 hl rfl rfl (Nat.le_of_ble_eq_true rfl) rfl (fun ls hl => ?_)
      refine lv_goto (tgt := 24) (pc := 81) hx hb dX12_pair_81 (by decide) ?_
      exact hK24 t0 x2 x3 (x4 + 1) u_this_thrown u_this_state_f H locs ls hP hD hS (lv_sub hl [3, 2, 1, 4, 0] rfl) hm
    · rw [if_neg hc] at hm
      refine lv_iload (pc := 71) hx hb dX12_pair_71 (lv_at hl 5 rfl) ?_
      refine lv_goto (tgt := 77) (pc := 73) hx hb dX12_pair_73 (by decide) ?_
      refine lv_istore_n (lv' := [(2, .int x5), (1, .int t0), (0, .ref this), (3, .int x3), (4, .int x4), (5, .int x5)]) (pc := 77) hx hb dX12_pair_77 rfl hl (Nat.le_of_ble_eq_true rfl) rfl (fun ls hl => ?_)
      refine lv_iinc (k := 4) (v := x4 + 1) (lv' := [(4, .int (x4 + 1)), (2, .int x5), (1, .int t0), (0, .ref this), (3, .int x3), (5, .int x5)]) (pc := 78) hx hb dX12_pair_78 hl rfl rfl (Nat.le_of_ble_eq_true rfl) rfl (fun ls hl => ?_)
      refine lv_goto (tgt := 24) (pc := 81) hx hb dX12_pair_81 (by decide) ?_
      exact hK24 t0 x5 x3 (x4 + 1) u_this_thrown u_this_state_f H locs ls hP hD hS (lv_sub hl [3, 2, 1, 4, 0] rfl) hm
  have h_24 : ∀ (K11 : Int32 → Int32 → Int32 → Int32 → (Nat → Int32) → Option (Int32 × Int32 × (Nat → Int32))) (hK11 : ∀ (x1 : Int32) (x2 : Int32) (x3 : Int32) (u_this_thrown : Int32) (u_this_state_f : Nat → Int32) (H : Heap) (locs : List Loc) (ls : Array Slot), va_P D vwCl (wd_X12_pair k this u_this_thrown this_tape this_taped this_size this_sort this_place this_value this_at this_fault this_words this_towns this_towns_f this_op this_arg this_codes this_names this_readNames this_namesMany this_readMany this_once this_lines this_facts this_pile this_state u_this_state_f this_undos this_isMarked this_weight this_rounding this_lacks this_alikes this_g) H → va_D A (wd_X12_pair k this u_this_thrown this_tape this_taped this_size this_sort this_place this_value this_at this_fault this_words this_towns this_towns_f this_op this_arg this_codes this_names this_readNames this_namesMany this_readMany this_once this_lines this_facts this_pile this_state u_this_state_f this_undos this_isMarked this_weight this_rounding this_lacks this_alikes this_g) → va_S A s.heap H locs → lv_has ls 6 [(0, .ref this), (1, .int x1), (2, .int x2), (3, .int x3)] → K11 x1 x2 x3 u_this_thrown u_this_state_f = some R0 → W p l e (Rm 5 112) s m args below meth c H locs 0 0 (MQ below (QW D (some (.int R0.1)) (wd_X12_pair k this this_thrown this_tape this_taped this_size this_sort this_place this_value this_at this_fault this_words this_towns this_towns_f this_op this_arg this_codes this_names this_readNames this_namesMany this_readMany this_once this_lines this_facts this_pile this_state this_state_f this_undos this_isMarked this_weight this_rounding this_lacks this_alikes this_g) (wd_X12_pair k this R0.2.1 this_tape this_taped this_size this_sort this_place this_value this_at this_fault this_words this_towns this_towns_f this_op this_arg this_codes this_names this_readNames this_namesMany this_readMany this_once this_lines this_facts this_pile this_state R0.2.2 this_undos this_isMarked this_weight this_rounding this_lacks this_alikes this_g) s.heap.size) args s 0 0 A) (F0 m 11 ls [])), ∀ (n : Nat), ∀ (x1 : Int32) (x2 : Int32) (x3 : Int32) (x4 : Int32) (u_this_thrown : Int32) (u_this_state_f : Nat → Int32) (H : Heap) (locs : List Loc) (ls : Array Slot), va_P D vwCl (wd_X12_pair k this u_this_thrown this_tape this_taped this_size this_sort this_place this_value this_at this_fault this_words this_towns this_towns_f this_op this_arg this_codes this_names this_readNames this_namesMany this_readMany this_once this_lines this_facts this_pile this_state u_this_state_f this_undos this_isMarked this_weight this_rounding this_lacks this_alikes this_g) H → va_D A (wd_X12_pair k this u_this_thrown this_tape this_taped this_size this_sort this_place this_value this_at this_fault this_words this_towns this_towns_f this_op this_arg this_codes this_names this_readNames this_namesMany this_readMany this_once this_lines this_facts this_pile this_state u_this_state_f this_undos this_isMarked this_weight this_rounding this_lacks this_alikes this_g) → va_S A s.heap H locs → lv_has ls 6 [(0, .ref this), (1, .int x1), (2, .int x2), (3, .int x3), (4, .int x4)] → m_X12_pair_24 this_towns_f this_weight this_rounding K11 n x1 x2 x3 x4 u_this_thrown u_this_state_f = some R0 → W p l e (Rm 5 112) s m args below meth c H locs 0 0 (MQ below (QW D (some (.int R0.1)) (wd_X12_pair k this this_thrown this_tape this_taped this_size this_sort this_place this_value this_at this_fault this_words this_towns this_towns_f this_op this_arg this_codes this_names this_readNames this_namesMany this_readMany this_once this_lines this_facts this_pile this_state this_state_f this_undos this_isMarked this_weight this_rounding this_lacks this_alikes this_g) (wd_X12_pair k this R0.2.1 this_tape this_taped this_size this_sort this_place this_value this_at this_fault this_words this_towns this_towns_f this_op this_arg this_codes this_names this_readNames this_namesMany this_readMany this_once this_lines this_facts this_pile this_state R0.2.2 this_undos this_isMarked this_weight this_rounding this_lacks this_alikes this_g) s.heap.size) args s 0 0 A) (F0 m 24 ls []) := by
    intro K11 hK11
    intro n
    induction n with
    | zero => intro x1 x2 x3 x4 u_this_thrown u_this_state_f H locs ls hP hD hS hl hm; cases hm
    | succ n ih =>
      intro x1 x2 x3 x4 u_this_thrown u_this_state_f H locs ls hP hD hS hl hm
      unfold m_X12_pair_24 at hm
      refine lv_iload (pc := 24) hx hb dX12_pair_24 (lv_at hl 4 rfl) ?_
      refine lv_aload_n (pc := 26) hx hb dX12_pair_26 rfl (lv_at hl 0 rfl) ?_
      obtain ⟨r4, hcl, hm⟩ := bd hm
      refine cr_back (run_V (pc := 27) (n := 0) (As := []) (rest := [.int x4]) ⟨hx, hb, hml, hown, hts⟩ (c_X12_persons l D k this u_this_thrown this_tape this_taped this_size this_sort this_place this_value this_at this_fault this_words this_towns this_towns_f this_op this_arg this_codes this_names this_readNames this_namesMany this_readMany this_once this_lines this_facts this_pile this_state this_undos this_isMarked this_weight this_rounding this_lacks this_alikes this_g r4 hcl) ⟨kw_1252, kw_16, by decide +kernel⟩ kw_1249 kw_1251 ks_97 ⟨Nat.le_of_ble_eq_true rfl, Nat.le_of_ble_eq_true rfl⟩ pr_blind (prR (hP.sub [0, 1] rfl) hG) (va_recv hG.1 hP (ci := 10) (q0 := 0) rfl rfl) rfl hl.1 rfl (Nat.le_of_ble_eq_true rfl) dX12_pair_27 ⟨Nat.zero_le _, Nat.zero_le _⟩) ?_
      refine lv_icmp_ge (tgt := 84) (pc := 30) hx hb dX12_pair_30 (by decide) (fun hc => ?_) (fun hc => ?_)
      · rw [if_pos hc] at hm
        refine lv_iinc (k := 3) (v := x3 + 1) (lv' := [(3, .int (x3 + 1)), (0, .ref this), (1, .int x1), (2, .int x2), (4, .int x4)]) (pc := 84) hx hb dX12_pair_84 hl rfl rfl (Nat.le_of_ble_eq_true rfl) rfl (fun ls hl => ?_)
        refine lv_goto (tgt := 11) (pc := 87) hx hb dX12_pair_87 (by decide) ?_
        exact hK11 x1 x2 (x3 + 1) u_this_thrown u_this_state_f H locs ls hP hD hS (lv_sub hl [1, 2, 3, 0] rfl) hm
      · rw [if_neg hc] at hm
        refine lv_aload_n (pc := 33) hx hb dX12_pair_33 rfl (lv_at hl 0 rfl) ?_
        refine lv_iconst (v := 1) (pc := 34) hx hb dX12_pair_34 (by decide) ?_
        refine lv_iload_n (pc := 35) hx hb dX12_pair_35 rfl (lv_at hl 3 rfl) ?_
        refine lv_ishl (pc := 36) hx hb dX12_pair_36 ?_
        refine lv_iconst (v := 1) (pc := 37) hx hb dX12_pair_37 (by decide) ?_
        refine lv_iload (pc := 38) hx hb dX12_pair_38 (lv_at hl 4 rfl) ?_
        refine lv_ishl (pc := 40) hx hb dX12_pair_40 ?_
        refine lv_ior (pc := 41) hx hb dX12_pair_41 ?_
        obtain ⟨r5, hcl, hm⟩ := bd hm
        refine cw_mask (ws' := (wd_X12_pair k this u_this_thrown this_tape this_taped this_size this_sort this_place this_value this_at this_fault this_words this_towns this_towns_f this_op this_arg this_codes this_names this_readNames this_namesMany this_readMany this_once this_lines this_facts this_pile this_state r5.2 this_undos this_isMarked this_weight this_rounding this_lacks this_alikes this_g)) (run_V (pc := 42) (n := 1) (As := [.int ((1 <<< (x3 &&& 31)) ||| (1 <<< (x4 &&& 31)))]) (rest := []) ⟨hx, hb, hml, hown, hts⟩ ((c_X12_highWithout l D k this u_this_thrown this_tape this_taped this_size this_sort this_place this_value this_at this_fault this_words this_towns this_towns_f this_op this_arg this_codes this_names this_readNames this_namesMany this_readMany this_once this_lines this_facts this_pile this_state u_this_state_f this_undos this_isMarked this_weight this_rounding this_lacks this_alikes this_g ((1 <<< (x3 &&& 31)) ||| (1 <<< (x4 &&& 31))) r5 hcl) H.size) ⟨kw_1615, kw_16, by decide +kernel⟩ kw_1612 kw_1614 ks_137 ⟨Nat.le_of_ble_eq_true rfl, Nat.le_of_ble_eq_true rfl⟩ pw_blind (prW (P_pick [true, true, true] rfl hP) hG (D_pick [true, true, true] rfl hD)) (va_recv hG.1 hP (ci := 10) (q0 := 0) rfl rfl) rfl hl.1 rfl (Nat.le_of_ble_eq_true rfl) dX12_pair_42 ⟨Nat.zero_le _, Nat.zero_le _⟩) hP hD hS hA [true, true, true] rfl rfl rfl (fun H locs hP hD hS => ?_)
        refine lv_istore (lv' := [(5, .int r5.1), (0, .ref this), (1, .int x1), (2, .int x2), (3, .int x3), (4, .int x4)]) (pc := 45) hx hb dX12_pair_45 hl (Nat.le_of_ble_eq_true rfl) rfl (fun ls hl => ?_)
        refine lv_iload (pc := 47) hx hb dX12_pair_47 (lv_at hl 0 rfl) ?_
        refine lv_iload_n (pc := 49) hx hb dX12_pair_49 rfl (lv_at hl 3 rfl) ?_
        refine lv_icmp_le (tgt := 63) (pc := 50) hx hb dX12_pair_50 (by decide) (fun hc => ?_) (fun hc => ?_)
        · rw [if_pos hc] at hm
          refine lv_iload_n (pc := 63) hx hb dX12_pair_63 rfl (lv_at hl 2 rfl) ?_
          exact h_64 K11 hK11 (m_X12_pair_24 this_towns_f this_weight this_rounding K11 n) ih x2 x3 x4 r5.1 x1 u_this_thrown r5.2 H locs ls hP hD hS (lv_sub hl [1, 3, 4, 5, 0] rfl) hm
        · rw [if_neg hc] at hm
          refine lv_bipush (v := 8) (pc := 53) hx hb dX12_pair_53 (by decide) ?_
          refine lv_iload_n (pc := 55) hx hb dX12_pair_55 rfl (lv_at hl 4 rfl) ?_
          refine lv_imul (pc := 56) hx hb dX12_pair_56 ?_
          refine lv_iload (pc := 57) hx hb dX12_pair_57 (lv_at hl 5 rfl) ?_
          refine lv_iadd (pc := 59) hx hb dX12_pair_59 ?_
          refine lv_goto (tgt := 64) (pc := 60) hx hb dX12_pair_60 (by decide) ?_
          exact h_64 K11 hK11 (m_X12_pair_24 this_towns_f this_weight this_rounding K11 n) ih x2 x3 x4 r5.1 ((8 * x3) + x4) u_this_thrown r5.2 H locs ls hP hD hS (lv_sub hl [1, 3, 4, 5, 0] rfl) hm
  have h_11 : ∀ (n : Nat), ∀ (x1 : Int32) (x2 : Int32) (x3 : Int32) (u_this_thrown : Int32) (u_this_state_f : Nat → Int32) (H : Heap) (locs : List Loc) (ls : Array Slot), va_P D vwCl (wd_X12_pair k this u_this_thrown this_tape this_taped this_size this_sort this_place this_value this_at this_fault this_words this_towns this_towns_f this_op this_arg this_codes this_names this_readNames this_namesMany this_readMany this_once this_lines this_facts this_pile this_state u_this_state_f this_undos this_isMarked this_weight this_rounding this_lacks this_alikes this_g) H → va_D A (wd_X12_pair k this u_this_thrown this_tape this_taped this_size this_sort this_place this_value this_at this_fault this_words this_towns this_towns_f this_op this_arg this_codes this_names this_readNames this_namesMany this_readMany this_once this_lines this_facts this_pile this_state u_this_state_f this_undos this_isMarked this_weight this_rounding this_lacks this_alikes this_g) → va_S A s.heap H locs → lv_has ls 6 [(0, .ref this), (1, .int x1), (2, .int x2), (3, .int x3)] → m_X12_pair_11 this_towns_f this_weight this_rounding n x1 x2 x3 u_this_thrown u_this_state_f = some R0 → W p l e (Rm 5 112) s m args below meth c H locs 0 0 (MQ below (QW D (some (.int R0.1)) (wd_X12_pair k this this_thrown this_tape this_taped this_size this_sort this_place this_value this_at this_fault this_words this_towns this_towns_f this_op this_arg this_codes this_names this_readNames this_namesMany this_readMany this_once this_lines this_facts this_pile this_state this_state_f this_undos this_isMarked this_weight this_rounding this_lacks this_alikes this_g) (wd_X12_pair k this R0.2.1 this_tape this_taped this_size this_sort this_place this_value this_at this_fault this_words this_towns this_towns_f this_op this_arg this_codes this_names this_readNames this_namesMany this_readMany this_once this_lines this_facts this_pile this_state R0.2.2 this_undos this_isMarked this_weight this_rounding this_lacks this_alikes this_g) s.heap.size) args s 0 0 A) (F0 m 11 ls []) := by
    intro n
    induction n with
    | zero => intro x1 x2 x3 u_this_thrown u_this_state_f H locs ls hP hD hS hl hm; cases hm
    | succ n ih =>
      intro x1 x2 x3 u_this_thrown u_this_state_f H locs ls hP hD hS hl hm
      unfold m_X12_pair_11 at hm
      refine lv_iload_n (pc := 11) hx hb dX12_pair_11 rfl (lv_at hl 3 rfl) ?_
      refine lv_aload_n (pc := 12) hx hb dX12_pair_12 rfl (lv_at hl 0 rfl) ?_
      obtain ⟨r6, hcl, hm⟩ := bd hm
      refine cr_back (run_V (pc := 13) (n := 0) (As := []) (rest := [.int x3]) ⟨hx, hb, hml, hown, hts⟩ (c_X12_persons l D k this u_this_thrown this_tape this_taped this_size this_sort this_place this_value this_at this_fault this_words this_towns this_towns_f this_op this_arg this_codes this_names this_readNames this_namesMany this_readMany this_once this_lines this_facts this_pile this_state this_undos this_isMarked this_weight this_rounding this_lacks this_alikes this_g r6 hcl) ⟨kw_1252, kw_16, by decide +kernel⟩ kw_1249 kw_1251 ks_97 ⟨Nat.le_of_ble_eq_true rfl, Nat.le_of_ble_eq_true rfl⟩ pr_blind (prR (hP.sub [0, 1] rfl) hG) (va_recv hG.1 hP (ci := 10) (q0 := 0) rfl rfl) rfl hl.1 rfl (Nat.le_of_ble_eq_true rfl) dX12_pair_13 ⟨Nat.zero_le _, Nat.zero_le _⟩) ?_
      refine lv_icmp_ge (tgt := 90) (pc := 16) hx hb dX12_pair_16 (by decide) (fun hc => ?_) (fun hc => ?_)
      · rw [if_pos hc] at hm
        refine lv_iload_n (pc := 90) hx hb dX12_pair_90 rfl (lv_at hl 1 rfl) ?_
        rw [← Option.some.inj hm]
        exact W.iret hx hb hr (fun t ht _ => hq _ _ H t ht hP hD locs hS) hS.2.2 dX12_pair_91 hlocks
      · rw [if_neg hc] at hm
        refine lv_iload_n (pc := 19) hx hb dX12_pair_19 rfl (lv_at hl 3 rfl) ?_
        refine lv_iconst (v := 1) (pc := 20) hx hb dX12_pair_20 (by decide) ?_
        refine lv_iadd (pc := 21) hx hb dX12_pair_21 ?_
        refine lv_istore (lv' := [(4, .int (x3 + 1)), (0, .ref this), (1, .int x1), (2, .int x2), (3, .int x3)]) (pc := 22) hx hb dX12_pair_22 hl (Nat.le_of_ble_eq_true rfl) rfl (fun ls hl => ?_)
        exact h_24 (m_X12_pair_11 this_towns_f this_weight this_rounding n) ih FU x1 x2 x3 (x3 + 1) u_this_thrown u_this_state_f H locs ls hP hD hS (lv_sub hl [1, 2, 3, 4, 0] rfl) hm
  unfold m_X12_pair at hm
  suffices hgo : ∀ (H : Heap) (locs : List Loc), va_P D vwCl (wd_X12_pair k this this_thrown this_tape this_taped this_size this_sort this_place this_value this_at this_fault this_words this_towns this_towns_f this_op this_arg this_codes this_names this_readNames this_namesMany this_readMany this_once this_lines this_facts this_pile this_state this_state_f this_undos this_isMarked this_weight this_rounding this_lacks this_alikes this_g) H → va_D A (wd_X12_pair k this this_thrown this_tape this_taped this_size this_sort this_place this_value this_at this_fault this_words this_towns this_towns_f this_op this_arg this_codes this_names this_readNames this_namesMany this_readMany this_once this_lines this_facts this_pile this_state this_state_f this_undos this_isMarked this_weight this_rounding this_lacks this_alikes this_g) → va_S A s.heap H locs → W p l e (Rm 5 112) s m args below meth c H locs 0 0 (MQ below (QW D (some (.int R0.1)) (wd_X12_pair k this this_thrown this_tape this_taped this_size this_sort this_place this_value this_at this_fault this_words this_towns this_towns_f this_op this_arg this_codes this_names this_readNames this_namesMany this_readMany this_once this_lines this_facts this_pile this_state this_state_f this_undos this_isMarked this_weight this_rounding this_lacks this_alikes this_g) (wd_X12_pair k this R0.2.1 this_tape this_taped this_size this_sort this_place this_value this_at this_fault this_words this_towns this_towns_f this_op this_arg this_codes this_names this_readNames this_namesMany this_readMany this_once this_lines this_facts this_pile this_state R0.2.2 this_undos this_isMarked this_weight this_rounding this_lacks this_alikes this_g) s.heap.size) args s 0 0 A) (F0 m 0 ls []) from hgo _ _ hP hD hS
  clear hP hD hS
  intro H locs hP hD hS
  refine lv_aload_n (pc := 0) hx hb dX12_pair_0 rfl (lv_at hl 0 rfl) ?_
  refine lv_iconst (v := 0) (pc := 1) hx hb dX12_pair_1 (by decide) ?_
  refine va_put (pc := 2) (D := D) (ci := 10) (v := .int 0) (ty := .int) (C := RX12) (T := TX12) (N := 30) hx hb hts hiX12 tyX12 tyX12_ok nmX12 hown hG.1 hP hD hS 0 rfl rfl 0 (Nat.le_of_ble_eq_true rfl) (hts _ kw_1257) (fun _ h9 => h9) rfl (by decide +kernel) rfl rfl (Nat.le_of_ble_eq_true rfl) dX12_pair_2 (fun H locs hP hD hS => ?_)
  have hP : va_P D vwCl (wd_X12_pair k this 0 this_tape this_taped this_size this_sort this_place this_value this_at this_fault this_words this_towns this_towns_f this_op this_arg this_codes this_names this_readNames this_namesMany this_readMany this_once this_lines this_facts this_pile this_state this_state_f this_undos this_isMarked this_weight this_rounding this_lacks this_alikes this_g) H := hP
  have hD : va_D A (wd_X12_pair k this 0 this_tape this_taped this_size this_sort this_place this_value this_at this_fault this_words this_towns this_towns_f this_op this_arg this_codes this_names this_readNames this_namesMany this_readMany this_once this_lines this_facts this_pile this_state this_state_f this_undos this_isMarked this_weight this_rounding this_lacks this_alikes this_g) := hD
  refine lv_iconst (v := (-1)) (pc := 5) hx hb dX12_pair_5 (by decide) ?_
  refine lv_istore_n (lv' := [(1, .int (-1)), (0, .ref this)]) (pc := 6) hx hb dX12_pair_6 rfl hl (Nat.le_of_ble_eq_true rfl) rfl (fun ls hl => ?_)
  refine lv_iconst (v := (-1)) (pc := 7) hx hb dX12_pair_7 (by decide) ?_
  refine lv_istore_n (lv' := [(2, .int (-1)), (1, .int (-1)), (0, .ref this)]) (pc := 8) hx hb dX12_pair_8 rfl hl (Nat.le_of_ble_eq_true rfl) rfl (fun ls hl => ?_)
  refine lv_iconst (v := 0) (pc := 9) hx hb dX12_pair_9 (by decide) ?_
  refine lv_istore_n (lv' := [(3, .int 0), (2, .int (-1)), (1, .int (-1)), (0, .ref this)]) (pc := 10) hx hb dX12_pair_10 rfl hl (Nat.le_of_ble_eq_true rfl) rfl (fun ls hl => ?_)
  exact h_11 FU (-1) (-1) 0 0 this_state_f H locs ls hP hD hS (lv_sub hl [3, 2, 1, 0] rfl) hm
theorem dX12_blame_0 : decode cX12_blame 0 = .ok (.aload_n 0, 1) := by decide +kernel
theorem dX12_blame_1 : decode cX12_blame 1 = .ok (.iconst 0, 1) := by decide +kernel
theorem dX12_blame_2 : decode cX12_blame 2 = .ok (.putfield 1, 3) := by decide +kernel
theorem dX12_blame_5 : decode cX12_blame 5 = .ok (.iconst (-1), 1) := by decide +kernel
theorem dX12_blame_6 : decode cX12_blame 6 = .ok (.istore_n 2, 1) := by decide +kernel
theorem dX12_blame_7 : decode cX12_blame 7 = .ok (.iconst (-1), 1) := by decide +kernel
theorem dX12_blame_8 : decode cX12_blame 8 = .ok (.istore_n 3, 1) := by decide +kernel
theorem dX12_blame_9 : decode cX12_blame 9 = .ok (.iconst 0, 1) := by decide +kernel
theorem dX12_blame_10 : decode cX12_blame 10 = .ok (.istore 4, 2) := by decide +kernel
theorem dX12_blame_12 : decode cX12_blame 12 = .ok (.iload 4, 2) := by decide +kernel
theorem dX12_blame_14 : decode cX12_blame 14 = .ok (.aload_n 0, 1) := by decide +kernel
theorem dX12_blame_15 : decode cX12_blame 15 = .ok (.invokevirtual 255, 3) := by decide +kernel
theorem dX12_blame_18 : decode cX12_blame 18 = .ok (.if_icmp .ge 61, 3) := by decide +kernel
theorem dX12_blame_21 : decode cX12_blame 21 = .ok (.iload_n 1, 1) := by decide +kernel
theorem dX12_blame_22 : decode cX12_blame 22 = .ok (.iconst 0, 1) := by decide +kernel
theorem dX12_blame_23 : decode cX12_blame 23 = .ok (.bipush 20, 2) := by decide +kernel
theorem dX12_blame_25 : decode cX12_blame 25 = .ok (.invokestatic 306, 3) := by decide +kernel
theorem dX12_blame_28 : decode cX12_blame 28 = .ok (.ifCond .eq 51, 3) := by decide +kernel
theorem dX12_blame_31 : decode cX12_blame 31 = .ok (.aload_n 0, 1) := by decide +kernel
theorem dX12_blame_32 : decode cX12_blame 32 = .ok (.iconst 1, 1) := by decide +kernel
theorem dX12_blame_33 : decode cX12_blame 33 = .ok (.iload 4, 2) := by decide +kernel
theorem dX12_blame_35 : decode cX12_blame 35 = .ok (.ishl, 1) := by decide +kernel
theorem dX12_blame_36 : decode cX12_blame 36 = .ok (.invokevirtual 331, 3) := by decide +kernel
theorem dX12_blame_39 : decode cX12_blame 39 = .ok (.pop, 1) := by decide +kernel
theorem dX12_blame_40 : decode cX12_blame 40 = .ok (.aload_n 0, 1) := by decide +kernel
theorem dX12_blame_41 : decode cX12_blame 41 = .ok (.iload_n 1, 1) := by decide +kernel
theorem dX12_blame_42 : decode cX12_blame 42 = .ok (.invokevirtual 321, 3) := by decide +kernel
theorem dX12_blame_45 : decode cX12_blame 45 = .ok (.istore 5, 2) := by decide +kernel
theorem dX12_blame_47 : decode cX12_blame 47 = .ok (.iload 5, 2) := by decide +kernel
theorem dX12_blame_49 : decode cX12_blame 49 = .ok (.iload_n 3, 1) := by decide +kernel
theorem dX12_blame_50 : decode cX12_blame 50 = .ok (.if_icmp .le 8, 3) := by decide +kernel
theorem dX12_blame_53 : decode cX12_blame 53 = .ok (.iload 4, 2) := by decide +kernel
theorem dX12_blame_55 : decode cX12_blame 55 = .ok (.goto 4, 3) := by decide +kernel
theorem dX12_blame_58 : decode cX12_blame 58 = .ok (.iload_n 2, 1) := by decide +kernel
theorem dX12_blame_59 : decode cX12_blame 59 = .ok (.istore_n 2, 1) := by decide +kernel
theorem dX12_blame_60 : decode cX12_blame 60 = .ok (.iload 5, 2) := by decide +kernel
theorem dX12_blame_62 : decode cX12_blame 62 = .ok (.iload_n 3, 1) := by decide +kernel
theorem dX12_blame_63 : decode cX12_blame 63 = .ok (.if_icmp .le 8, 3) := by decide +kernel
theorem dX12_blame_66 : decode cX12_blame 66 = .ok (.iload 5, 2) := by decide +kernel
theorem dX12_blame_68 : decode cX12_blame 68 = .ok (.goto 4, 3) := by decide +kernel
theorem dX12_blame_71 : decode cX12_blame 71 = .ok (.iload_n 3, 1) := by decide +kernel
theorem dX12_blame_72 : decode cX12_blame 72 = .ok (.istore_n 3, 1) := by decide +kernel
theorem dX12_blame_73 : decode cX12_blame 73 = .ok (.iinc 4 1, 3) := by decide +kernel
theorem dX12_blame_76 : decode cX12_blame 76 = .ok (.goto (-64), 3) := by decide +kernel
theorem dX12_blame_79 : decode cX12_blame 79 = .ok (.iload_n 2, 1) := by decide +kernel
theorem dX12_blame_80 : decode cX12_blame 80 = .ok (.ireturn, 1) := by decide +kernel
abbrev wd_X12_blame (k : Nat → ClassId) (this : Nat) (this_thrown : Int32) (this_tape : Nat) (this_taped : Int32) (this_size : Int32) (this_sort : Nat) (this_place : Nat) (this_value : Nat) (this_at : Int32) (this_fault : Int32) (this_words : Nat) (this_towns : Nat) (this_towns_f : Nat → Int32) (this_op : Nat) (this_op_f : Nat → Int32) (this_arg : Nat) (this_arg_f : Nat → Int32) (this_codes : Int32) (this_names : Nat) (this_readNames : Nat) (this_namesMany : Int32) (this_readMany : Int32) (this_once : Int32) (this_lines : Nat) (this_facts : Nat) (this_facts_f : Nat → Int32) (this_pile : Nat) (this_pile_f : Nat → Int32) (this_state : Nat) (this_state_f : Nat → Int32) (this_undos : Int32) (this_isMarked : Nat) (this_weight : Int32) (this_rounding : Int32) (this_lacks : Nat) (this_lacks_f : Nat → Int32) (this_alikes : Nat) (this_g : Int64) : va_W := [(this, .inr (10, [.int this_thrown, .ref this_tape, .int this_taped, .int this_size, .ref this_sort, .ref this_place, .ref this_value, .int this_at, .int this_fault, .ref this_words, .ref this_towns, .ref this_op, .ref this_arg, .int this_codes, .ref this_names, .ref this_readNames, .int this_namesMany, .int this_readMany, .int this_once, .ref this_lines, .ref this_facts, .ref this_pile, .ref this_state, .int this_undos, .ref this_isMarked, .int this_weight, .int this_rounding, .ref this_lacks, .ref this_alikes, .long this_g])), (this_towns, .inl (k 0, 60, .inl this_towns_f)), (this_op, .inl (k 0, 2200, .inl this_op_f)), (this_arg, .inl (k 0, 2200, .inl this_arg_f)), (this_facts, .inl (k 0, 4, .inl this_facts_f)), (this_pile, .inl (k 0, 1100, .inl this_pile_f)), (this_state, .inl (k 0, 1104, .inl this_state_f)), (this_lacks, .inl (k 0, 6, .inl this_lacks_f))]
set_option maxHeartbeats 4000000 in
set_option maxRecDepth 100000 in
theorem c_X12_blame (l : Launch) (D : va_G) (k : Nat → ClassId) (this : Nat) (this_thrown : Int32) (this_tape : Nat) (this_taped : Int32) (this_size : Int32) (this_sort : Nat) (this_place : Nat) (this_value : Nat) (this_at : Int32) (this_fault : Int32) (this_words : Nat) (this_towns : Nat) (this_towns_f : Nat → Int32) (this_op : Nat) (this_op_f : Nat → Int32) (this_arg : Nat) (this_arg_f : Nat → Int32) (this_codes : Int32) (this_names : Nat) (this_readNames : Nat) (this_namesMany : Int32) (this_readMany : Int32) (this_once : Int32) (this_lines : Nat) (this_facts : Nat) (this_facts_f : Nat → Int32) (this_pile : Nat) (this_pile_f : Nat → Int32) (this_state : Nat) (this_state_f : Nat → Int32) (this_undos : Int32) (this_isMarked : Nat) (this_weight : Int32) (this_rounding : Int32) (this_lacks : Nat) (this_lacks_f : Nat → Int32) (this_alikes : Nat) (this_g : Int64) (q1 : Int32) (R0 : Int32 × Int32 × (Nat → Int32) × (Nat → Int32) × (Nat → Int32) × (Nat → Int32)) (hm : m_X12_blame this_towns_f this_op_f this_arg_f this_facts_f this_pile_f this_state_f this_weight this_rounding this_lacks_f q1 = some R0) : CW l D (TY k) yX12_blame cX12_blame 6 (some .int) 6 139 [.ref this, .int q1] (wd_X12_blame k this this_thrown this_tape this_taped this_size this_sort this_place this_value this_at this_fault this_words this_towns this_towns_f this_op this_op_f this_arg this_arg_f this_codes this_names this_readNames this_namesMany this_readMany this_once this_lines this_facts this_facts_f this_pile this_pile_f this_state this_state_f this_undos this_isMarked this_weight this_rounding this_lacks this_lacks_f this_alikes this_g) (some (.int R0.1)) (wd_X12_blame k this R0.2.1 this_tape this_taped this_size this_sort this_place this_value this_at this_fault this_words this_towns this_towns_f this_op this_op_f this_arg this_arg_f this_codes this_names this_readNames this_namesMany this_readMany this_once this_lines this_facts R0.2.2.1 this_pile R0.2.2.2.1 this_state R0.2.2.2.2.1 this_undos this_isMarked this_weight this_rounding this_lacks R0.2.2.2.2.2 this_alikes this_g) := by
  refine CW.mk (by decide) (Nat.le_of_ble_eq_true rfl) ?_
  intro p e s m args below meth c ls A ⟨hx, hb, hr, hts, hown, hlocks, hml⟩ hP hG hD hA hl hS hq
  have hl : lv_has ls 6 [(0, .ref this), (1, .int q1)] := hl
  have h_59 : ∀ (K12 : Int32 → Int32 → Int32 → Int32 → (Nat → Int32) → (Nat → Int32) → (Nat → Int32) → (Nat → Int32) → Option (Int32 × Int32 × (Nat → Int32) × (Nat → Int32) × (Nat → Int32) × (Nat → Int32))) (hK12 : ∀ (x2 : Int32) (x3 : Int32) (x4 : Int32) (u_this_thrown : Int32) (u_this_facts_f : Nat → Int32) (u_this_pile_f : Nat → Int32) (u_this_state_f : Nat → Int32) (u_this_lacks_f : Nat → Int32) (H : Heap) (locs : List Loc) (ls : Array Slot), va_P D vwCl (wd_X12_blame k this u_this_thrown this_tape this_taped this_size this_sort this_place this_value this_at this_fault this_words this_towns this_towns_f this_op this_op_f this_arg this_arg_f this_codes this_names this_readNames this_namesMany this_readMany this_once this_lines this_facts u_this_facts_f this_pile u_this_pile_f this_state u_this_state_f this_undos this_isMarked this_weight this_rounding this_lacks u_this_lacks_f this_alikes this_g) H → va_D A (wd_X12_blame k this u_this_thrown this_tape this_taped this_size this_sort this_place this_value this_at this_fault this_words this_towns this_towns_f this_op this_op_f this_arg this_arg_f this_codes this_names this_readNames this_namesMany this_readMany this_once this_lines this_facts u_this_facts_f this_pile u_this_pile_f this_state u_this_state_f this_undos this_isMarked this_weight this_rounding this_lacks u_this_lacks_f this_alikes this_g) → va_S A s.heap H locs → lv_has ls 6 [(0, .ref this), (1, .int q1), (2, .int x2), (3, .int x3), (4, .int x4)] → K12 x2 x3 x4 u_this_thrown u_this_facts_f u_this_pile_f u_this_state_f u_this_lacks_f = some R0 → W p l e (Rm 6 139) s m args below meth c H locs 0 0 (MQ below (QW D (some (.int R0.1)) (wd_X12_blame k this this_thrown this_tape this_taped this_size this_sort this_place this_value this_at this_fault this_words this_towns this_towns_f this_op this_op_f this_arg this_arg_f this_codes this_names this_readNames this_namesMany this_readMany this_once this_lines this_facts this_facts_f this_pile this_pile_f this_state this_state_f this_undos this_isMarked this_weight this_rounding this_lacks this_lacks_f this_alikes this_g) (wd_X12_blame k this R0.2.1 this_tape this_taped this_size this_sort this_place this_value this_at this_fault this_words this_towns this_towns_f this_op this_op_f this_arg this_arg_f this_codes this_names this_readNames this_namesMany this_readMany this_once this_lines this_facts R0.2.2.1 this_pile R0.2.2.2.1 this_state R0.2.2.2.2.1 this_undos this_isMarked this_weight this_rounding this_lacks R0.2.2.2.2.2 this_alikes this_g) s.heap.size) args s 0 0 A) (F0 m 12 ls [])), ∀ (x3 : Int32) (x4 : Int32) (x5 : Int32) (t0 : Int32) (u_this_thrown : Int32) (u_this_facts_f : Nat → Int32) (u_this_pile_f : Nat → Int32) (u_this_state_f : Nat → Int32) (u_this_lacks_f : Nat → Int32) (H : Heap) (locs : List Loc) (ls : Array Slot), va_P D vwCl (wd_X12_blame k this u_this_thrown this_tape this_taped this_size this_sort this_place this_value this_at this_fault this_words this_towns this_towns_f this_op this_op_f this_arg this_arg_f this_codes this_names this_readNames this_namesMany this_readMany this_once this_lines this_facts u_this_facts_f this_pile u_this_pile_f this_state u_this_state_f this_undos this_isMarked this_weight this_rounding this_lacks u_this_lacks_f this_alikes this_g) H → va_D A (wd_X12_blame k this u_this_thrown this_tape this_taped this_size this_sort this_place this_value this_at this_fault this_words this_towns this_towns_f this_op this_op_f this_arg this_arg_f this_codes this_names this_readNames this_namesMany this_readMany this_once this_lines this_facts u_this_facts_f this_pile u_this_pile_f this_state u_this_state_f this_undos this_isMarked this_weight this_rounding this_lacks u_this_lacks_f this_alikes this_g) → va_S A s.heap H locs → lv_has ls 6 [(0, .ref this), (1, .int q1), (3, .int x3), (4, .int x4), (5, .int x5)] → m_X12_blame_59 this_towns_f this_op_f this_arg_f this_weight this_rounding q1 K12 x3 x4 x5 t0 u_this_thrown u_this_facts_f u_this_pile_f u_this_state_f u_this_lacks_f = some R0 → W p l e (Rm 6 139) s m args below meth c H locs 0 0 (MQ below (QW D (some (.int R0.1)) (wd_X12_blame k this this_thrown this_tape this_taped this_size this_sort this_place this_value this_at this_fault this_words this_towns this_towns_f this_op this_op_f this_arg this_arg_f this_codes this_names this_readNames this_namesMany this_readMany this_once this_lines this_facts this_facts_f this_pile this_pile_f this_state this_state_f this_undos this_isMarked this_weight this_rounding this_lacks this_lacks_f this_alikes this_g) (wd_X12_blame k this R0.2.1 this_tape this_taped this_size this_sort this_place this_value this_at this_fault this_words this_towns this_towns_f this_op this_op_f this_arg this_arg_f this_codes this_names this_readNames this_namesMany this_readMany this_once this_lines this_facts R0.2.2.1 this_pile R0.2.2.2.1 this_state R0.2.2.2.2.1 this_undos this_isMarked this_weight this_rounding this_lacks R0.2.2.2.2.2 this_alikes this_g) s.heap.size) args s 0 0 A) (F0 m 59 ls [.int t0]) := by
    intro K12 hK12 x3 x4 x5 t0 u_this_thrown u_this_facts_f u_this_pile_f u_this_state_f u_this_lacks_f H locs ls hP hD hS hl hm
    unfold m_X12_blame_59 at hm
    refine lv_istore_n (lv' := [(2, .int t0), (0, .ref this), (1, .int q1), (3, .int x3), (4, .int x4), (5, .int x5)]) (pc := 59) hx hb dX12_blame_59 rfl hl (Nat.le_of_ble_eq_true rfl) rfl (fun ls hl => ?_)
    refine lv_iload (pc := 60) hx hb dX12_blame_60 (lv_at hl 5 rfl) ?_
    refine lv_iload_n (pc := 62) hx hb dX12_blame_62 rfl (lv_at hl 3 rfl) ?_
    refine lv_icmp_le (tgt := 71) (pc := 63) hx hb dX12_blame_63 (by decide) (fun hc => ?_) (fun hc => ?_)
    · rw [if_pos hc] at hm
      refine lv_iload_n (pc := 71) hx hb dX12_blame_71 rfl (lv_at hl 3 rfl) ?_
      refine lv_istore_n (lv' := [(3, .int x3), (2, .int t0), (0, .ref this), (1, .int q1), (4, .int x4), (5, .int x5)]) (pc := 72) hx hb dX12_blame_72 rfl hl (Nat.le_of_ble_eq_true rfl) rfl (fun ls hl => ?_)
      refine lv_iinc (k := 4) (v := x4 + 1) (lv' := [(4, .int (x4 + 1)), (3, .int x3), (2, .int t0), (0, .ref this), (1, .int q1), (5, .int x5)]) (pc := 73) hx hb dX12_blame_73 hl rfl rfl (Nat.le_of_ble_eq_true rfl) rfl (fun ls hl => ?_)
      refine lv_goto (tgt := 12) (pc := 76) hx hb dX12_blame_76 (by decide) ?_
      exact hK12 t0 x3 (x4 + 1) u_this_thrown u_this_facts_f u_this_pile_f u_this_state_f u_this_lacks_f H locs ls hP hD hS (lv_sub hl [3, 4, 2, 1, 0] rfl) hm
    · rw [if_neg hc] at hm
      refine lv_iload (pc := 66) hx hb dX12_blame_66 (lv_at hl 5 rfl) ?_
      refine lv_goto (tgt := 72) (pc := 68) hx hb dX12_blame_68 (by decide) ?_
      refine lv_istore_n (lv' := [(3, .int x5), (2, .int t0), (0, .ref this), (1, .int q1), (4, .int x4), (5, .int x5)]) (pc := 72) hx hb dX12_blame_72 rfl hl (Nat.le_of_ble_eq_true rfl) rfl (fun ls hl => ?_)
      refine lv_iinc (k := 4) (v := x4 + 1) (lv' := [(4, .int (x4 + 1)), (3, .int x5), (2, .int t0), (0, .ref this), (1, .int q1), (5, .int x5)]) (pc := 73) hx hb dX12_blame_73 hl rfl rfl (Nat.le_of_ble_eq_true rfl) rfl (fun ls hl => ?_)
      refine lv_goto (tgt := 12) (pc := 76) hx hb dX12_blame_76 (by decide) ?_
      exact hK12 t0 x5 (x4 + 1) u_this_thrown u_this_facts_f u_this_pile_f u_this_state_f u_this_lacks_f H locs ls hP hD hS (lv_sub hl [3, 4, 2, 1, 0] rfl) hm
  have h_12 : ∀ (n : Nat), ∀ (x2 : Int32) (x3 : Int32) (x4 : Int32) (u_this_thrown : Int32) (u_this_facts_f : Nat → Int32) (u_this_pile_f : Nat → Int32) (u_this_state_f : Nat → Int32) (u_this_lacks_f : Nat → Int32) (H : Heap) (locs : List Loc) (ls : Array Slot), va_P D vwCl (wd_X12_blame k this u_this_thrown this_tape this_taped this_size this_sort this_place this_value this_at this_fault this_words this_towns this_towns_f this_op this_op_f this_arg this_arg_f this_codes this_names this_readNames this_namesMany this_readMany this_once this_lines this_facts u_this_facts_f this_pile u_this_pile_f this_state u_this_state_f this_undos this_isMarked this_weight this_rounding this_lacks u_this_lacks_f this_alikes this_g) H → va_D A (wd_X12_blame k this u_this_thrown this_tape this_taped this_size this_sort this_place this_value this_at this_fault this_words this_towns this_towns_f this_op this_op_f this_arg this_arg_f this_codes this_names this_readNames this_namesMany this_readMany this_once this_lines this_facts u_this_facts_f this_pile u_this_pile_f this_state u_this_state_f this_undos this_isMarked this_weight this_rounding this_lacks u_this_lacks_f this_alikes this_g) → va_S A s.heap H locs → lv_has ls 6 [(0, .ref this), (1, .int q1), (2, .int x2), (3, .int x3), (4, .int x4)] → m_X12_blame_12 this_towns_f this_op_f this_arg_f this_weight this_rounding q1 n x2 x3 x4 u_this_thrown u_this_facts_f u_this_pile_f u_this_state_f u_this_lacks_f = some R0 → W p l e (Rm 6 139) s m args below meth c H locs 0 0 (MQ below (QW D (some (.int R0.1)) (wd_X12_blame k this this_thrown this_tape this_taped this_size this_sort this_place this_value this_at this_fault this_words this_towns this_towns_f this_op this_op_f this_arg this_arg_f this_codes this_names this_readNames this_namesMany this_readMany this_once this_lines this_facts this_facts_f this_pile this_pile_f this_state this_state_f this_undos this_isMarked this_weight this_rounding this_lacks this_lacks_f this_alikes this_g) (wd_X12_blame k this R0.2.1 this_tape this_taped this_size this_sort this_place this_value this_at this_fault this_words this_towns this_towns_f this_op this_op_f this_arg this_arg_f this_codes this_names this_readNames this_namesMany this_readMany this_once this_lines this_facts R0.2.2.1 this_pile R0.2.2.2.1 this_state R0.2.2.2.2.1 this_undos this_isMarked this_weight this_rounding this_lacks R0.2.2.2.2.2 this_alikes this_g) s.heap.size) args s 0 0 A) (F0 m 12 ls []) := by
    intro n
    induction n with
    | zero => intro x2 x3 x4 u_this_thrown u_this_facts_f u_this_pile_f u_this_state_f u_this_lacks_f H locs ls hP hD hS hl hm; cases hm
    | succ n ih =>
      intro x2 x3 x4 u_this_thrown u_this_facts_f u_this_pile_f u_this_state_f u_this_lacks_f H locs ls hP hD hS hl hm
      unfold m_X12_blame_12 at hm
      refine lv_iload (pc := 12) hx hb dX12_blame_12 (lv_at hl 4 rfl) ?_
      refine lv_aload_n (pc := 14) hx hb dX12_blame_14 rfl (lv_at hl 0 rfl) ?_
      obtain ⟨r5, hcl, hm⟩ := bd hm
      refine cr_back (run_V (pc := 15) (n := 0) (As := []) (rest := [.int x4]) ⟨hx, hb, hml, hown, hts⟩ (c_X12_persons l D k this u_this_thrown this_tape this_taped this_size this_sort this_place this_value this_at this_fault this_words this_towns this_towns_f this_op this_arg this_codes this_names this_readNames this_namesMany this_readMany this_once this_lines this_facts this_pile this_state this_undos this_isMarked this_weight this_rounding this_lacks this_alikes this_g r5 hcl) ⟨kw_1252, kw_16, by decide +kernel⟩ kw_1249 kw_1251 ks_97 ⟨Nat.le_of_ble_eq_true rfl, Nat.le_of_ble_eq_true rfl⟩ pr_blind (prR (hP.sub [0, 1] rfl) hG) (va_recv hG.1 hP (ci := 10) (q0 := 0) rfl rfl) rfl hl.1 rfl (Nat.le_of_ble_eq_true rfl) dX12_blame_15 ⟨Nat.zero_le _, Nat.zero_le _⟩) ?_
      refine lv_icmp_ge (tgt := 79) (pc := 18) hx hb dX12_blame_18 (by decide) (fun hc => ?_) (fun hc => ?_)
      · rw [if_pos hc] at hm
        refine lv_iload_n (pc := 79) hx hb dX12_blame_79 rfl (lv_at hl 2 rfl) ?_
        rw [← Option.some.inj hm]
        exact W.iret hx hb hr (fun t ht _ => hq _ _ H t ht hP hD locs hS) hS.2.2 dX12_blame_80 hlocks
      · rw [if_neg hc] at hm
        refine lv_iload_n (pc := 21) hx hb dX12_blame_21 rfl (lv_at hl 1 rfl) ?_
        refine lv_iconst (v := 0) (pc := 22) hx hb dX12_blame_22 (by decide) ?_
        refine lv_bipush (v := 20) (pc := 23) hx hb dX12_blame_23 (by decide) ?_
        obtain ⟨r6, hcl, hm⟩ := bd hm
        refine cr_back (run_S (pc := 25) (n := 3) (As := [.int q1, .int 0, .int 20]) (rest := []) ⟨hx, hb, hml, hown, hts⟩ (c_X12_within l D k q1 0 20 r6 hcl) ⟨kw_1501, kw_16, by decide +kernel⟩ kw_1499 kw_1500 ⟨Nat.le_of_ble_eq_true rfl, Nat.le_of_ble_eq_true rfl⟩ pr_blind (prR (hP.sub [] rfl) hG) rfl hl.1 rfl (Nat.le_of_ble_eq_true rfl) dX12_blame_25 ⟨Nat.zero_le _, Nat.zero_le _⟩) ?_
        refine lv_if_eq (tgt := 79) (pc := 28) hx hb dX12_blame_28 (by decide) (fun hc => ?_) (fun hc => ?_)
        · rw [if_pos hc] at hm
          refine lv_iload_n (pc := 79) hx hb dX12_blame_79 rfl (lv_at hl 2 rfl) ?_
          rw [← Option.some.inj hm]
          exact W.iret hx hb hr (fun t ht _ => hq _ _ H t ht hP hD locs hS) hS.2.2 dX12_blame_80 hlocks
        · rw [if_neg hc] at hm
          refine lv_aload_n (pc := 31) hx hb dX12_blame_31 rfl (lv_at hl 0 rfl) ?_
          refine lv_iconst (v := 1) (pc := 32) hx hb dX12_blame_32 (by decide) ?_
          refine lv_iload (pc := 33) hx hb dX12_blame_33 (lv_at hl 4 rfl) ?_
          refine lv_ishl (pc := 35) hx hb dX12_blame_35 ?_
          obtain ⟨r7, hcl, hm⟩ := bd hm
          refine cw_mask (ws' := (wd_X12_blame k this u_this_thrown this_tape this_taped this_size this_sort this_place this_value this_at this_fault this_words this_towns this_towns_f this_op this_op_f this_arg this_arg_f this_codes this_names this_readNames this_namesMany this_readMany this_once this_lines this_facts u_this_facts_f this_pile u_this_pile_f this_state r7.2 this_undos this_isMarked this_weight this_rounding this_lacks u_this_lacks_f this_alikes this_g)) (run_V (pc := 36) (n := 1) (As := [.int (1 <<< (x4 &&& 31))]) (rest := []) ⟨hx, hb, hml, hown, hts⟩ ((c_X12_highWithout l D k this u_this_thrown this_tape this_taped this_size this_sort this_place this_value this_at this_fault this_words this_towns this_towns_f this_op this_arg this_codes this_names this_readNames this_namesMany this_readMany this_once this_lines this_facts this_pile this_state u_this_state_f this_undos this_isMarked this_weight this_rounding this_lacks this_alikes this_g (1 <<< (x4 &&& 31)) r7 hcl) H.size) ⟨kw_1615, kw_16, by decide +kernel⟩ kw_1612 kw_1614 ks_137 ⟨Nat.le_of_ble_eq_true rfl, Nat.le_of_ble_eq_true rfl⟩ pw_blind (prW (P_pick [true, true, false, false, false, false, true] rfl hP) hG (D_pick [true, true, false, false, false, false, true] rfl hD)) (va_recv hG.1 hP (ci := 10) (q0 := 0) rfl rfl) rfl hl.1 rfl (Nat.le_of_ble_eq_true rfl) dX12_blame_36 ⟨Nat.zero_le _, Nat.zero_le _⟩) hP hD hS hA [true, true, false, false, false, false, true] rfl rfl rfl (fun H locs hP hD hS => ?_)
          refine lv_pop (pc := 39) hx hb dX12_blame_39 rfl ?_
          refine lv_aload_n (pc := 40) hx hb dX12_blame_40 rfl (lv_at hl 0 rfl) ?_
          refine lv_iload_n (pc := 41) hx hb dX12_blame_41 rfl (lv_at hl 1 rfl) ?_
          obtain ⟨r8, hcl, hm⟩ := bd hm
          refine cw_mask (ws' := (wd_X12_blame k this u_this_thrown this_tape this_taped this_size this_sort this_place this_value this_at this_fault this_words this_towns this_towns_f this_op this_op_f this_arg this_arg_f this_codes this_names this_readNames this_namesMany this_readMany this_once this_lines this_facts r8.2.1 this_pile r8.2.2.1 this_state r8.2.2.2.1 this_undos this_isMarked this_weight this_rounding this_lacks r8.2.2.2.2 this_alikes this_g)) (run_V (pc := 42) (n := 1) (As := [.int q1]) (rest := []) ⟨hx, hb, hml, hown, hts⟩ ((c_X12_highBehind l D k this u_this_thrown this_tape this_taped this_size this_sort this_place this_value this_at this_fault this_words this_towns this_towns_f this_op this_op_f this_arg this_arg_f this_codes this_names this_readNames this_namesMany this_readMany this_once this_lines this_facts u_this_facts_f this_pile u_this_pile_f this_state r7.2 this_undos this_isMarked this_weight this_rounding this_lacks u_this_lacks_f this_alikes this_g q1 r8 hcl) H.size) ⟨kw_1568, kw_16, by decide +kernel⟩ kw_1565 kw_1567 ks_135 ⟨Nat.le_of_ble_eq_true rfl, Nat.le_of_ble_eq_true rfl⟩ pw_blind (prW (P_pick [true, true, true, true, true, true, true, true] rfl hP) hG (D_pick [true, true, true, true, true, true, true, true] rfl hD)) (va_recv hG.1 hP (ci := 10) (q0 := 0) rfl rfl) rfl hl.1 rfl (Nat.le_of_ble_eq_true rfl) dX12_blame_42 ⟨Nat.zero_le _, Nat.zero_le _⟩) hP hD hS hA [true, true, true, true, true, true, true, true] rfl rfl rfl (fun H locs hP hD hS => ?_)
          refine lv_istore (lv' := [(5, .int r8.1), (0, .ref this), (1, .int q1), (2, .int x2), (3, .int x3), (4, .int x4)]) (pc := 45) hx hb dX12_blame_45 hl (Nat.le_of_ble_eq_true rfl) rfl (fun ls hl => ?_)
          refine lv_iload (pc := 47) hx hb dX12_blame_47 (lv_at hl 0 rfl) ?_
          refine lv_iload_n (pc := 49) hx hb dX12_blame_49 rfl (lv_at hl 4 rfl) ?_
          refine lv_icmp_le (tgt := 58) (pc := 50) hx hb dX12_blame_50 (by decide) (fun hc => ?_) (fun hc => ?_)
          · rw [if_pos hc] at hm
            refine lv_iload_n (pc := 58) hx hb dX12_blame_58 rfl (lv_at hl 3 rfl) ?_
            exact h_59 (m_X12_blame_12 this_towns_f this_op_f this_arg_f this_weight this_rounding q1 n) ih x3 x4 r8.1 x2 u_this_thrown r8.2.1 r8.2.2.1 r8.2.2.2.1 r8.2.2.2.2 H locs ls hP hD hS (lv_sub hl [1, 2, 4, 5, 0] rfl) hm
          · rw [if_neg hc] at hm
            refine lv_iload (pc := 53) hx hb dX12_blame_53 (lv_at hl 5 rfl) ?_
            refine lv_goto (tgt := 59) (pc := 55) hx hb dX12_blame_55 (by decide) ?_
            exact h_59 (m_X12_blame_12 this_towns_f this_op_f this_arg_f this_weight this_rounding q1 n) ih x3 x4 r8.1 x4 u_this_thrown r8.2.1 r8.2.2.1 r8.2.2.2.1 r8.2.2.2.2 H locs ls hP hD hS (lv_sub hl [1, 2, 4, 5, 0] rfl) hm
  unfold m_X12_blame at hm
  suffices hgo : ∀ (H : Heap) (locs : List Loc), va_P D vwCl (wd_X12_blame k this this_thrown this_tape this_taped this_size this_sort this_place this_value this_at this_fault this_words this_towns this_towns_f this_op this_op_f this_arg this_arg_f this_codes this_names this_readNames this_namesMany this_readMany this_once this_lines this_facts this_facts_f this_pile this_pile_f this_state this_state_f this_undos this_isMarked this_weight this_rounding this_lacks this_lacks_f this_alikes this_g) H → va_D A (wd_X12_blame k this this_thrown this_tape this_taped this_size this_sort this_place this_value this_at this_fault this_words this_towns this_towns_f this_op this_op_f this_arg this_arg_f this_codes this_names this_readNames this_namesMany this_readMany this_once this_lines this_facts this_facts_f this_pile this_pile_f this_state this_state_f this_undos this_isMarked this_weight this_rounding this_lacks this_lacks_f this_alikes this_g) → va_S A s.heap H locs → W p l e (Rm 6 139) s m args below meth c H locs 0 0 (MQ below (QW D (some (.int R0.1)) (wd_X12_blame k this this_thrown this_tape this_taped this_size this_sort this_place this_value this_at this_fault this_words this_towns this_towns_f this_op this_op_f this_arg this_arg_f this_codes this_names this_readNames this_namesMany this_readMany this_once this_lines this_facts this_facts_f this_pile this_pile_f this_state this_state_f this_undos this_isMarked this_weight this_rounding this_lacks this_lacks_f this_alikes this_g) (wd_X12_blame k this R0.2.1 this_tape this_taped this_size this_sort this_place this_value this_at this_fault this_words this_towns this_towns_f this_op this_op_f this_arg this_arg_f this_codes this_names this_readNames this_namesMany this_readMany this_once this_lines this_facts R0.2.2.1 this_pile R0.2.2.2.1 this_state R0.2.2.2.2.1 this_undos this_isMarked this_weight this_rounding this_lacks R0.2.2.2.2.2 this_alikes this_g) s.heap.size) args s 0 0 A) (F0 m 0 ls []) from hgo _ _ hP hD hS
  clear hP hD hS
  intro H locs hP hD hS
  refine lv_aload_n (pc := 0) hx hb dX12_blame_0 rfl (lv_at hl 0 rfl) ?_
  refine lv_iconst (v := 0) (pc := 1) hx hb dX12_blame_1 (by decide) ?_
  refine va_put (pc := 2) (D := D) (ci := 10) (v := .int 0) (ty := .int) (C := RX12) (T := TX12) (N := 30) hx hb hts hiX12 tyX12 tyX12_ok nmX12 hown hG.1 hP hD hS 0 rfl rfl 0 (Nat.le_of_ble_eq_true rfl) (hts _ kw_1257) (fun _ h9 => h9) rfl (by decide +kernel) rfl rfl (Nat.le_of_ble_eq_true rfl) dX12_blame_2 (fun H locs hP hD hS => ?_)
  have hP : va_P D vwCl (wd_X12_blame k this 0 this_tape this_taped this_size this_sort this_place this_value this_at this_fault this_words this_towns this_towns_f this_op this_op_f this_arg this_arg_f this_codes this_names this_readNames this_namesMany this_readMany this_once this_lines this_facts this_facts_f this_pile this_pile_f this_state this_state_f this_undos this_isMarked this_weight this_rounding this_lacks this_lacks_f this_alikes this_g) H := hP
  have hD : va_D A (wd_X12_blame k this 0 this_tape this_taped this_size this_sort this_place this_value this_at this_fault this_words this_towns this_towns_f this_op this_op_f this_arg this_arg_f this_codes this_names this_readNames this_namesMany this_readMany this_once this_lines this_facts this_facts_f this_pile this_pile_f this_state this_state_f this_undos this_isMarked this_weight this_rounding this_lacks this_lacks_f this_alikes this_g) := hD
  refine lv_iconst (v := (-1)) (pc := 5) hx hb dX12_blame_5 (by decide) ?_
  refine lv_istore_n (lv' := [(2, .int (-1)), (0, .ref this), (1, .int q1)]) (pc := 6) hx hb dX12_blame_6 rfl hl (Nat.le_of_ble_eq_true rfl) rfl (fun ls hl => ?_)
  refine lv_iconst (v := (-1)) (pc := 7) hx hb dX12_blame_7 (by decide) ?_
  refine lv_istore_n (lv' := [(3, .int (-1)), (2, .int (-1)), (0, .ref this), (1, .int q1)]) (pc := 8) hx hb dX12_blame_8 rfl hl (Nat.le_of_ble_eq_true rfl) rfl (fun ls hl => ?_)
  refine lv_iconst (v := 0) (pc := 9) hx hb dX12_blame_9 (by decide) ?_
  refine lv_istore (lv' := [(4, .int 0), (3, .int (-1)), (2, .int (-1)), (0, .ref this), (1, .int q1)]) (pc := 10) hx hb dX12_blame_10 hl (Nat.le_of_ble_eq_true rfl) rfl (fun ls hl => ?_)
  exact h_12 FU (-1) (-1) 0 0 this_facts_f this_pile_f this_state_f this_lacks_f H locs ls hP hD hS (lv_sub hl [3, 4, 2, 1, 0] rfl) hm
theorem dX12_highIf_0 : decode cX12_highIf 0 = .ok (.aload_n 0, 1) := by decide +kernel
theorem dX12_highIf_1 : decode cX12_highIf 1 = .ok (.invokevirtual 318, 3) := by decide +kernel
theorem dX12_highIf_4 : decode cX12_highIf 4 = .ok (.aload_n 0, 1) := by decide +kernel
theorem dX12_highIf_5 : decode cX12_highIf 5 = .ok (.getfield 113, 3) := by decide +kernel
theorem dX12_highIf_8 : decode cX12_highIf 8 = .ok (.sipush 1009, 3) := by decide +kernel
theorem dX12_highIf_11 : decode cX12_highIf 11 = .ok (.iload_n 1, 1) := by decide +kernel
theorem dX12_highIf_12 : decode cX12_highIf 12 = .ok (.iadd, 1) := by decide +kernel
theorem dX12_highIf_13 : decode cX12_highIf 13 = .ok (.iload_n 2, 1) := by decide +kernel
theorem dX12_highIf_14 : decode cX12_highIf 14 = .ok (.iastore, 1) := by decide +kernel
theorem dX12_highIf_15 : decode cX12_highIf 15 = .ok (.aload_n 0, 1) := by decide +kernel
theorem dX12_highIf_16 : decode cX12_highIf 16 = .ok (.sipush 1008, 3) := by decide +kernel
theorem dX12_highIf_19 : decode cX12_highIf 19 = .ok (.invokevirtual 293, 3) := by decide +kernel
theorem dX12_highIf_22 : decode cX12_highIf 22 = .ok (.ireturn, 1) := by decide +kernel
abbrev wd_X12_highIf (k : Nat → ClassId) (this : Nat) (this_thrown : Int32) (this_tape : Nat) (this_taped : Int32) (this_size : Int32) (this_sort : Nat) (this_place : Nat) (this_value : Nat) (this_at : Int32) (this_fault : Int32) (this_words : Nat) (this_towns : Nat) (this_towns_f : Nat → Int32) (this_op : Nat) (this_arg : Nat) (this_codes : Int32) (this_names : Nat) (this_readNames : Nat) (this_namesMany : Int32) (this_readMany : Int32) (this_once : Int32) (this_lines : Nat) (this_facts : Nat) (this_pile : Nat) (this_state : Nat) (this_state_f : Nat → Int32) (this_undos : Int32) (this_isMarked : Nat) (this_weight : Int32) (this_rounding : Int32) (this_lacks : Nat) (this_alikes : Nat) (this_g : Int64) : va_W := [(this, .inr (10, [.int this_thrown, .ref this_tape, .int this_taped, .int this_size, .ref this_sort, .ref this_place, .ref this_value, .int this_at, .int this_fault, .ref this_words, .ref this_towns, .ref this_op, .ref this_arg, .int this_codes, .ref this_names, .ref this_readNames, .int this_namesMany, .int this_readMany, .int this_once, .ref this_lines, .ref this_facts, .ref this_pile, .ref this_state, .int this_undos, .ref this_isMarked, .int this_weight, .int this_rounding, .ref this_lacks, .ref this_alikes, .long this_g])), (this_towns, .inl (k 0, 60, .inl this_towns_f)), (this_state, .inl (k 0, 1104, .inl this_state_f))]
set_option maxHeartbeats 4000000 in
set_option maxRecDepth 100000 in
theorem c_X12_highIf (l : Launch) (D : va_G) (k : Nat → ClassId) (this : Nat) (this_thrown : Int32) (this_tape : Nat) (this_taped : Int32) (this_size : Int32) (this_sort : Nat) (this_place : Nat) (this_value : Nat) (this_at : Int32) (this_fault : Int32) (this_words : Nat) (this_towns : Nat) (this_towns_f : Nat → Int32) (this_op : Nat) (this_arg : Nat) (this_codes : Int32) (this_names : Nat) (this_readNames : Nat) (this_namesMany : Int32) (this_readMany : Int32) (this_once : Int32) (this_lines : Nat) (this_facts : Nat) (this_pile : Nat) (this_state : Nat) (this_state_f : Nat → Int32) (this_undos : Int32) (this_isMarked : Nat) (this_weight : Int32) (this_rounding : Int32) (this_lacks : Nat) (this_alikes : Nat) (this_g : Int64) (q1 : Int32) (q2 : Int32) (R0 : Int32 × (Nat → Int32)) (hm : m_X12_highIf this_towns_f this_state_f this_weight this_rounding q1 q2 = some R0) : CW l D (TY k) yX12_highIf cX12_highIf 3 (some .int) 4 90 [.ref this, .int q1, .int q2] (wd_X12_highIf k this this_thrown this_tape this_taped this_size this_sort this_place this_value this_at this_fault this_words this_towns this_towns_f this_op this_arg this_codes this_names this_readNames this_namesMany this_readMany this_once this_lines this_facts this_pile this_state this_state_f this_undos this_isMarked this_weight this_rounding this_lacks this_alikes this_g) (some (.int R0.1)) (wd_X12_highIf k this this_thrown this_tape this_taped this_size this_sort this_place this_value this_at this_fault this_words this_towns this_towns_f this_op this_arg this_codes this_names this_readNames this_namesMany this_readMany this_once this_lines this_facts this_pile this_state R0.2 this_undos this_isMarked this_weight this_rounding this_lacks this_alikes this_g) := by
  refine CW.mk (by decide) (Nat.le_of_ble_eq_true rfl) ?_
  intro p e s m args below meth c ls A ⟨hx, hb, hr, hts, hown, hlocks, hml⟩ hP hG hD hA hl hS hq
  have hl : lv_has ls 3 [(0, .ref this), (1, .int q1), (2, .int q2)] := hl
  unfold m_X12_highIf at hm
  suffices hgo : ∀ (H : Heap) (locs : List Loc), va_P D vwCl (wd_X12_highIf k this this_thrown this_tape this_taped this_size this_sort this_place this_value this_at this_fault this_words this_towns this_towns_f this_op this_arg this_codes this_names this_readNames this_namesMany this_readMany this_once this_lines this_facts this_pile this_state this_state_f this_undos this_isMarked this_weight this_rounding this_lacks this_alikes this_g) H → va_D A (wd_X12_highIf k this this_thrown this_tape this_taped this_size this_sort this_place this_value this_at this_fault this_words this_towns this_towns_f this_op this_arg this_codes this_names this_readNames this_namesMany this_readMany this_once this_lines this_facts this_pile this_state this_state_f this_undos this_isMarked this_weight this_rounding this_lacks this_alikes this_g) → va_S A s.heap H locs → W p l e (Rm 4 90) s m args below meth c H locs 0 0 (MQ below (QW D (some (.int R0.1)) (wd_X12_highIf k this this_thrown this_tape this_taped this_size this_sort this_place this_value this_at this_fault this_words this_towns this_towns_f this_op this_arg this_codes this_names this_readNames this_namesMany this_readMany this_once this_lines this_facts this_pile this_state this_state_f this_undos this_isMarked this_weight this_rounding this_lacks this_alikes this_g) (wd_X12_highIf k this this_thrown this_tape this_taped this_size this_sort this_place this_value this_at this_fault this_words this_towns this_towns_f this_op this_arg this_codes this_names this_readNames this_namesMany this_readMany this_once this_lines this_facts this_pile this_state R0.2 this_undos this_isMarked this_weight this_rounding this_lacks this_alikes this_g) s.heap.size) args s 0 0 A) (F0 m 0 ls []) from hgo _ _ hP hD hS
  clear hP hD hS
  intro H locs hP hD hS
  refine lv_aload_n (pc := 0) hx hb dX12_highIf_0 rfl (lv_at hl 0 rfl) ?_
  obtain ⟨r3, hcl, hm⟩ := bd hm
  refine cw_mask (ws' := (wd_X12_highIf k this this_thrown this_tape this_taped this_size this_sort this_place this_value this_at this_fault this_words this_towns this_towns_f this_op this_arg this_codes this_names this_readNames this_namesMany this_readMany this_once this_lines this_facts this_pile this_state r3 this_undos this_isMarked this_weight this_rounding this_lacks this_alikes this_g)) (run_V (pc := 1) (n := 0) (As := []) (rest := []) ⟨hx, hb, hml, hown, hts⟩ ((c_X12_triesNow l D k this this_thrown this_tape this_taped this_size this_sort this_place this_value this_at this_fault this_words this_towns this_op this_arg this_codes this_names this_readNames this_namesMany this_readMany this_once this_lines this_facts this_pile this_state this_state_f this_undos this_isMarked this_weight this_rounding this_lacks this_alikes this_g r3 hcl) H.size) ⟨kw_1564, kw_16, by decide +kernel⟩ kw_1561 kw_1563 ks_134 ⟨Nat.le_of_ble_eq_true rfl, Nat.le_of_ble_eq_true rfl⟩ pw_blind (prW (P_pick [true, false, true] rfl hP) hG (D_pick [true, false, true] rfl hD)) (va_recv hG.1 hP (ci := 10) (q0 := 0) rfl rfl) rfl hl.1 rfl (Nat.le_of_ble_eq_true rfl) dX12_highIf_1 ⟨Nat.zero_le _, Nat.zero_le _⟩) hP hD hS hA [true, false, true] rfl rfl rfl (fun H locs hP hD hS => ?_)
  refine lv_aload_n (pc := 4) hx hb dX12_highIf_4 rfl (lv_at hl 0 rfl) ?_
  refine va_get (pc := 5) (D := D) (ci := 10) (C := RX12) (T := TX12) (N := 30) hx hb hts hiX12 hown hG.1 hP 0 rfl rfl 22 (Nat.le_of_ble_eq_true rfl) (hts _ kw_1279) (fun _ h9 => h9) rfl dX12_highIf_5 ?_
  refine lv_sipush (v := 1009) (pc := 8) hx hb dX12_highIf_8 (by decide) ?_
  refine lv_iload_n (pc := 11) hx hb dX12_highIf_11 rfl (lv_at hl 1 rfl) ?_
  refine lv_iadd (pc := 12) hx hb dX12_highIf_12 ?_
  refine lv_iload_n (pc := 13) hx hb dX12_highIf_13 rfl (lv_at hl 2 rfl) ?_
  obtain ⟨hin, hm⟩ := gd hm
  refine va_iast (pc := 14) (D := D) hx hb hG.1 hP hD hS 2 0 rfl rfl hin dX12_highIf_14 (fun H locs hP hD hS => ?_)
  have hP : va_P D vwCl (wd_X12_highIf k this this_thrown this_tape this_taped this_size this_sort this_place this_value this_at this_fault this_words this_towns this_towns_f this_op this_arg this_codes this_names this_readNames this_namesMany this_readMany this_once this_lines this_facts this_pile this_state (upd r3 (1009 + q1).toNatClampNeg q2) this_undos this_isMarked this_weight this_rounding this_lacks this_alikes this_g) H := hP
  have hD : va_D A (wd_X12_highIf k this this_thrown this_tape this_taped this_size this_sort this_place this_value this_at this_fault this_words this_towns this_towns_f this_op this_arg this_codes this_names this_readNames this_namesMany this_readMany this_once this_lines this_facts this_pile this_state (upd r3 (1009 + q1).toNatClampNeg q2) this_undos this_isMarked this_weight this_rounding this_lacks this_alikes this_g) := hD
  refine lv_aload_n (pc := 15) hx hb dX12_highIf_15 rfl (lv_at hl 0 rfl) ?_
  refine lv_sipush (v := 1008) (pc := 16) hx hb dX12_highIf_16 (by decide) ?_
  obtain ⟨r4, hcl, hm⟩ := bd hm
  refine cr_back (run_V (pc := 19) (n := 1) (As := [.int 1008]) (rest := []) ⟨hx, hb, hml, hown, hts⟩ (c_X12_highOf l D k this this_thrown this_tape this_taped this_size this_sort this_place this_value this_at this_fault this_words this_towns this_towns_f this_op this_arg this_codes this_names this_readNames this_namesMany this_readMany this_once this_lines this_facts this_pile this_state (upd r3 (1009 + q1).toNatClampNeg q2) this_undos this_isMarked this_weight this_rounding this_lacks this_alikes this_g 1008 r4 hcl) ⟨kw_1475, kw_16, by decide +kernel⟩ kw_1472 kw_1474 ks_123 ⟨Nat.le_of_ble_eq_true rfl, Nat.le_of_ble_eq_true rfl⟩ pr_blind (prR (hP.sub [0, 1, 2] rfl) hG) (va_recv hG.1 hP (ci := 10) (q0 := 0) rfl rfl) rfl hl.1 rfl (Nat.le_of_ble_eq_true rfl) dX12_highIf_19 ⟨Nat.zero_le _, Nat.zero_le _⟩) ?_
  rw [← Option.some.inj hm]
  exact W.iret hx hb hr (fun t ht _ => hq _ _ H t ht hP hD locs hS) hS.2.2 dX12_highIf_22 hlocks
theorem dX12_least_0 : decode cX12_least 0 = .ok (.aload_n 0, 1) := by decide +kernel
theorem dX12_least_1 : decode cX12_least 1 = .ok (.iconst 0, 1) := by decide +kernel
theorem dX12_least_2 : decode cX12_least 2 = .ok (.putfield 1, 3) := by decide +kernel
theorem dX12_least_5 : decode cX12_least 5 = .ok (.iload_n 1, 1) := by decide +kernel
theorem dX12_least_6 : decode cX12_least 6 = .ok (.iconst 0, 1) := by decide +kernel
theorem dX12_least_7 : decode cX12_least 7 = .ok (.bipush 99, 2) := by decide +kernel
theorem dX12_least_9 : decode cX12_least 9 = .ok (.invokestatic 306, 3) := by decide +kernel
theorem dX12_least_12 : decode cX12_least 12 = .ok (.ifCond .eq 12, 3) := by decide +kernel
theorem dX12_least_15 : decode cX12_least 15 = .ok (.iload_n 2, 1) := by decide +kernel
theorem dX12_least_16 : decode cX12_least 16 = .ok (.iconst 0, 1) := by decide +kernel
theorem dX12_least_17 : decode cX12_least 17 = .ok (.iconst 1, 1) := by decide +kernel
theorem dX12_least_18 : decode cX12_least 18 = .ok (.invokestatic 306, 3) := by decide +kernel
theorem dX12_least_21 : decode cX12_least 21 = .ok (.ifCond .ne 7, 3) := by decide +kernel
theorem dX12_least_24 : decode cX12_least 24 = .ok (.sipush (-1000), 3) := by decide +kernel
theorem dX12_least_27 : decode cX12_least 27 = .ok (.ireturn, 1) := by decide +kernel
theorem dX12_least_28 : decode cX12_least 28 = .ok (.aload_n 0, 1) := by decide +kernel
theorem dX12_least_29 : decode cX12_least 29 = .ok (.iconst 0, 1) := by decide +kernel
theorem dX12_least_30 : decode cX12_least 30 = .ok (.invokevirtual 293, 3) := by decide +kernel
theorem dX12_least_33 : decode cX12_least 33 = .ok (.iload_n 1, 1) := by decide +kernel
theorem dX12_least_34 : decode cX12_least 34 = .ok (.if_icmp .ne 13, 3) := by decide +kernel
theorem dX12_least_37 : decode cX12_least 37 = .ok (.iload_n 2, 1) := by decide +kernel
theorem dX12_least_38 : decode cX12_least 38 = .ok (.ifCond .ne 7, 3) := by decide +kernel
theorem dX12_least_41 : decode cX12_least 41 = .ok (.iconst 0, 1) := by decide +kernel
theorem dX12_least_42 : decode cX12_least 42 = .ok (.goto 4, 3) := by decide +kernel
theorem dX12_least_45 : decode cX12_least 45 = .ok (.iconst (-1), 1) := by decide +kernel
theorem dX12_least_46 : decode cX12_least 46 = .ok (.ireturn, 1) := by decide +kernel
theorem dX12_least_47 : decode cX12_least 47 = .ok (.iconst 2, 1) := by decide +kernel
theorem dX12_least_48 : decode cX12_least 48 = .ok (.istore_n 3, 1) := by decide +kernel
theorem dX12_least_49 : decode cX12_least 49 = .ok (.iload_n 3, 1) := by decide +kernel
theorem dX12_least_50 : decode cX12_least 50 = .ok (.bipush 121, 2) := by decide +kernel
theorem dX12_least_52 : decode cX12_least 52 = .ok (.if_icmp .gt 94, 3) := by decide +kernel
theorem dX12_least_55 : decode cX12_least 55 = .ok (.iload_n 3, 1) := by decide +kernel
theorem dX12_least_56 : decode cX12_least 56 = .ok (.iconst 2, 1) := by decide +kernel
theorem dX12_least_57 : decode cX12_least 57 = .ok (.irem, 1) := by decide +kernel
theorem dX12_least_58 : decode cX12_least 58 = .ok (.ifCond .ne 9, 3) := by decide +kernel
theorem dX12_least_61 : decode cX12_least 61 = .ok (.iload_n 3, 1) := by decide +kernel
theorem dX12_least_62 : decode cX12_least 62 = .ok (.iconst 2, 1) := by decide +kernel
theorem dX12_least_63 : decode cX12_least 63 = .ok (.idiv, 1) := by decide +kernel
theorem dX12_least_64 : decode cX12_least 64 = .ok (.goto 7, 3) := by decide +kernel
theorem dX12_least_67 : decode cX12_least 67 = .ok (.iload_n 3, 1) := by decide +kernel
theorem dX12_least_68 : decode cX12_least 68 = .ok (.iconst 2, 1) := by decide +kernel
theorem dX12_least_69 : decode cX12_least 69 = .ok (.idiv, 1) := by decide +kernel
theorem dX12_least_70 : decode cX12_least 70 = .ok (.ineg, 1) := by decide +kernel
theorem dX12_least_71 : decode cX12_least 71 = .ok (.istore 4, 2) := by decide +kernel
theorem dX12_least_73 : decode cX12_least 73 = .ok (.iconst 0, 1) := by decide +kernel
theorem dX12_least_74 : decode cX12_least 74 = .ok (.istore 5, 2) := by decide +kernel
theorem dX12_least_76 : decode cX12_least 76 = .ok (.iload 5, 2) := by decide +kernel
theorem dX12_least_78 : decode cX12_least 78 = .ok (.aload_n 0, 1) := by decide +kernel
theorem dX12_least_79 : decode cX12_least 79 = .ok (.invokevirtual 255, 3) := by decide +kernel
theorem dX12_least_82 : decode cX12_least 82 = .ok (.if_icmp .ge 58, 3) := by decide +kernel
theorem dX12_least_85 : decode cX12_least 85 = .ok (.aload_n 0, 1) := by decide +kernel
theorem dX12_least_86 : decode cX12_least 86 = .ok (.getfield 113, 3) := by decide +kernel
theorem dX12_least_89 : decode cX12_least 89 = .ok (.iconst 1, 1) := by decide +kernel
theorem dX12_least_90 : decode cX12_least 90 = .ok (.iload 5, 2) := by decide +kernel
theorem dX12_least_92 : decode cX12_least 92 = .ok (.iadd, 1) := by decide +kernel
theorem dX12_least_93 : decode cX12_least 93 = .ok (.iaload, 1) := by decide +kernel
theorem dX12_least_94 : decode cX12_least 94 = .ok (.iload 4, 2) := by decide +kernel
theorem dX12_least_96 : decode cX12_least 96 = .ok (.iadd, 1) := by decide +kernel
theorem dX12_least_97 : decode cX12_least 97 = .ok (.istore 6, 2) := by decide +kernel
theorem dX12_least_99 : decode cX12_least 99 = .ok (.iload 6, 2) := by decide +kernel
theorem dX12_least_101 : decode cX12_least 101 = .ok (.iconst 0, 1) := by decide +kernel
theorem dX12_least_102 : decode cX12_least 102 = .ok (.bipush 60, 2) := by decide +kernel
theorem dX12_least_104 : decode cX12_least 104 = .ok (.invokestatic 306, 3) := by decide +kernel
theorem dX12_least_107 : decode cX12_least 107 = .ok (.ifCond .eq 27, 3) := by decide +kernel
theorem dX12_least_110 : decode cX12_least 110 = .ok (.aload_n 0, 1) := by decide +kernel
theorem dX12_least_111 : decode cX12_least 111 = .ok (.iload 5, 2) := by decide +kernel
theorem dX12_least_113 : decode cX12_least 113 = .ok (.iload 6, 2) := by decide +kernel
theorem dX12_least_115 : decode cX12_least 115 = .ok (.invokevirtual 334, 3) := by decide +kernel
theorem dX12_least_118 : decode cX12_least 118 = .ok (.iload_n 1, 1) := by decide +kernel
theorem dX12_least_119 : decode cX12_least 119 = .ok (.if_icmp .ne 15, 3) := by decide +kernel
theorem dX12_least_122 : decode cX12_least 122 = .ok (.iload_n 2, 1) := by decide +kernel
theorem dX12_least_123 : decode cX12_least 123 = .ok (.ifCond .ne 8, 3) := by decide +kernel
theorem dX12_least_126 : decode cX12_least 126 = .ok (.iload 4, 2) := by decide +kernel
theorem dX12_least_128 : decode cX12_least 128 = .ok (.goto 5, 3) := by decide +kernel
theorem dX12_least_131 : decode cX12_least 131 = .ok (.iload 5, 2) := by decide +kernel
theorem dX12_least_133 : decode cX12_least 133 = .ok (.ireturn, 1) := by decide +kernel
theorem dX12_least_134 : decode cX12_least 134 = .ok (.iinc 5 1, 3) := by decide +kernel
theorem dX12_least_137 : decode cX12_least 137 = .ok (.goto (-61), 3) := by decide +kernel
theorem dX12_least_140 : decode cX12_least 140 = .ok (.iinc 3 1, 3) := by decide +kernel
theorem dX12_least_143 : decode cX12_least 143 = .ok (.goto (-94), 3) := by decide +kernel
theorem dX12_least_146 : decode cX12_least 146 = .ok (.sipush (-1000), 3) := by decide +kernel
theorem dX12_least_149 : decode cX12_least 149 = .ok (.ireturn, 1) := by decide +kernel
abbrev wd_X12_least (k : Nat → ClassId) (this : Nat) (this_thrown : Int32) (this_tape : Nat) (this_taped : Int32) (this_size : Int32) (this_sort : Nat) (this_place : Nat) (this_value : Nat) (this_at : Int32) (this_fault : Int32) (this_words : Nat) (this_towns : Nat) (this_towns_f : Nat → Int32) (this_op : Nat) (this_arg : Nat) (this_codes : Int32) (this_names : Nat) (this_readNames : Nat) (this_namesMany : Int32) (this_readMany : Int32) (this_once : Int32) (this_lines : Nat) (this_facts : Nat) (this_pile : Nat) (this_state : Nat) (this_state_f : Nat → Int32) (this_undos : Int32) (this_isMarked : Nat) (this_weight : Int32) (this_rounding : Int32) (this_lacks : Nat) (this_alikes : Nat) (this_g : Int64) : va_W := [(this, .inr (10, [.int this_thrown, .ref this_tape, .int this_taped, .int this_size, .ref this_sort, .ref this_place, .ref this_value, .int this_at, .int this_fault, .ref this_words, .ref this_towns, .ref this_op, .ref this_arg, .int this_codes, .ref this_names, .ref this_readNames, .int this_namesMany, .int this_readMany, .int this_once, .ref this_lines, .ref this_facts, .ref this_pile, .ref this_state, .int this_undos, .ref this_isMarked, .int this_weight, .int this_rounding, .ref this_lacks, .ref this_alikes, .long this_g])), (this_towns, .inl (k 0, 60, .inl this_towns_f)), (this_state, .inl (k 0, 1104, .inl this_state_f))]
set_option maxHeartbeats 4000000 in
set_option maxRecDepth 100000 in
theorem c_X12_least (l : Launch) (D : va_G) (k : Nat → ClassId) (this : Nat) (this_thrown : Int32) (this_tape : Nat) (this_taped : Int32) (this_size : Int32) (this_sort : Nat) (this_place : Nat) (this_value : Nat) (this_at : Int32) (this_fault : Int32) (this_words : Nat) (this_towns : Nat) (this_towns_f : Nat → Int32) (this_op : Nat) (this_arg : Nat) (this_codes : Int32) (this_names : Nat) (this_readNames : Nat) (this_namesMany : Int32) (this_readMany : Int32) (this_once : Int32) (this_lines : Nat) (this_facts : Nat) (this_pile : Nat) (this_state : Nat) (this_state_f : Nat → Int32) (this_undos : Int32) (this_isMarked : Nat) (this_weight : Int32) (this_rounding : Int32) (this_lacks : Nat) (this_alikes : Nat) (this_g : Int64) (q1 : Int32) (q2 : Int32) (R0 : Int32 × Int32 × (Nat → Int32)) (hm : m_X12_least this_towns_f this_state_f this_weight this_rounding q1 q2 = some R0) : CW l D (TY k) yX12_least cX12_least 7 (some .int) 5 112 [.ref this, .int q1, .int q2] (wd_X12_least k this this_thrown this_tape this_taped this_size this_sort this_place this_value this_at this_fault this_words this_towns this_towns_f this_op this_arg this_codes this_names this_readNames this_namesMany this_readMany this_once this_lines this_facts this_pile this_state this_state_f this_undos this_isMarked this_weight this_rounding this_lacks this_alikes this_g) (some (.int R0.1)) (wd_X12_least k this R0.2.1 this_tape this_taped this_size this_sort this_place this_value this_at this_fault this_words this_towns this_towns_f this_op this_arg this_codes this_names this_readNames this_namesMany this_readMany this_once this_lines this_facts this_pile this_state R0.2.2 this_undos this_isMarked this_weight this_rounding this_lacks this_alikes this_g) := by
  refine CW.mk (by decide) (Nat.le_of_ble_eq_true rfl) ?_
  intro p e s m args below meth c ls A ⟨hx, hb, hr, hts, hown, hlocks, hml⟩ hP hG hD hA hl hS hq
  have hl : lv_has ls 7 [(0, .ref this), (1, .int q1), (2, .int q2)] := hl
  have h_76 : ∀ (K49 : Int32 → Int32 → (Nat → Int32) → Option (Int32 × Int32 × (Nat → Int32))) (hK49 : ∀ (x3 : Int32) (u_this_thrown : Int32) (u_this_state_f : Nat → Int32) (H : Heap) (locs : List Loc) (ls : Array Slot), va_P D vwCl (wd_X12_least k this u_this_thrown this_tape this_taped this_size this_sort this_place this_value this_at this_fault this_words this_towns this_towns_f this_op this_arg this_codes this_names this_readNames this_namesMany this_readMany this_once this_lines this_facts this_pile this_state u_this_state_f this_undos this_isMarked this_weight this_rounding this_lacks this_alikes this_g) H → va_D A (wd_X12_least k this u_this_thrown this_tape this_taped this_size this_sort this_place this_value this_at this_fault this_words this_towns this_towns_f this_op this_arg this_codes this_names this_readNames this_namesMany this_readMany this_once this_lines this_facts this_pile this_state u_this_state_f this_undos this_isMarked this_weight this_rounding this_lacks this_alikes this_g) → va_S A s.heap H locs → lv_has ls 7 [(0, .ref this), (1, .int q1), (2, .int q2), (3, .int x3)] → K49 x3 u_this_thrown u_this_state_f = some R0 → W p l e (Rm 5 112) s m args below meth c H locs 0 0 (MQ below (QW D (some (.int R0.1)) (wd_X12_least k this this_thrown this_tape this_taped this_size this_sort this_place this_value this_at this_fault this_words this_towns this_towns_f this_op this_arg this_codes this_names this_readNames this_namesMany this_readMany this_once this_lines this_facts this_pile this_state this_state_f this_undos this_isMarked this_weight this_rounding this_lacks this_alikes this_g) (wd_X12_least k this R0.2.1 this_tape this_taped this_size this_sort this_place this_value this_at this_fault this_words this_towns this_towns_f this_op this_arg this_codes this_names this_readNames this_namesMany this_readMany this_once this_lines this_facts this_pile this_state R0.2.2 this_undos this_isMarked this_weight this_rounding this_lacks this_alikes this_g) s.heap.size) args s 0 0 A) (F0 m 49 ls [])), ∀ (n : Nat), ∀ (x3 : Int32) (x4 : Int32) (x5 : Int32) (u_this_thrown : Int32) (u_this_state_f : Nat → Int32) (H : Heap) (locs : List Loc) (ls : Array Slot), va_P D vwCl (wd_X12_least k this u_this_thrown this_tape this_taped this_size this_sort this_place this_value this_at this_fault this_words this_towns this_towns_f this_op this_arg this_codes this_names this_readNames this_namesMany this_readMany this_once this_lines this_facts this_pile this_state u_this_state_f this_undos this_isMarked this_weight this_rounding this_lacks this_alikes this_g) H → va_D A (wd_X12_least k this u_this_thrown this_tape this_taped this_size this_sort this_place this_value this_at this_fault this_words this_towns this_towns_f this_op this_arg this_codes this_names this_readNames this_namesMany this_readMany this_once this_lines this_facts this_pile this_state u_this_state_f this_undos this_isMarked this_weight this_rounding this_lacks this_alikes this_g) → va_S A s.heap H locs → lv_has ls 7 [(0, .ref this), (1, .int q1), (2, .int q2), (3, .int x3), (4, .int x4), (5, .int x5)] → m_X12_least_76 this_towns_f this_weight this_rounding q1 q2 K49 n x3 x4 x5 u_this_thrown u_this_state_f = some R0 → W p l e (Rm 5 112) s m args below meth c H locs 0 0 (MQ below (QW D (some (.int R0.1)) (wd_X12_least k this this_thrown this_tape this_taped this_size this_sort this_place this_value this_at this_fault this_words this_towns this_towns_f this_op this_arg this_codes this_names this_readNames this_namesMany this_readMany this_once this_lines this_facts this_pile this_state this_state_f this_undos this_isMarked this_weight this_rounding this_lacks this_alikes this_g) (wd_X12_least k this R0.2.1 this_tape this_taped this_size this_sort this_place this_value this_at this_fault this_words this_towns this_towns_f this_op this_arg this_codes this_names this_readNames this_namesMany this_readMany this_once this_lines this_facts this_pile this_state R0.2.2 this_undos this_isMarked this_weight this_rounding this_lacks this_alikes this_g) s.heap.size) args s 0 0 A) (F0 m 76 ls []) := by
    intro K49 hK49
    intro n
    induction n with
    | zero => intro x3 x4 x5 u_this_thrown u_this_state_f H locs ls hP hD hS hl hm; cases hm
    | succ n ih =>
      intro x3 x4 x5 u_this_thrown u_this_state_f H locs ls hP hD hS hl hm
      unfold m_X12_least_76 at hm
      refine lv_iload (pc := 76) hx hb dX12_least_76 (lv_at hl 5 rfl) ?_
      refine lv_aload_n (pc := 78) hx hb dX12_least_78 rfl (lv_at hl 0 rfl) ?_
      obtain ⟨r8, hcl, hm⟩ := bd hm
      refine cr_back (run_V (pc := 79) (n := 0) (As := []) (rest := [.int x5]) ⟨hx, hb, hml, hown, hts⟩ (c_X12_persons l D k this u_this_thrown this_tape this_taped this_size this_sort this_place this_value this_at this_fault this_words this_towns this_towns_f this_op this_arg this_codes this_names this_readNames this_namesMany this_readMany this_once this_lines this_facts this_pile this_state this_undos this_isMarked this_weight this_rounding this_lacks this_alikes this_g r8 hcl) ⟨kw_1252, kw_16, by decide +kernel⟩ kw_1249 kw_1251 ks_97 ⟨Nat.le_of_ble_eq_true rfl, Nat.le_of_ble_eq_true rfl⟩ pr_blind (prR (hP.sub [0, 1] rfl) hG) (va_recv hG.1 hP (ci := 10) (q0 := 0) rfl rfl) rfl hl.1 rfl (Nat.le_of_ble_eq_true rfl) dX12_least_79 ⟨Nat.zero_le _, Nat.zero_le _⟩) ?_
      refine lv_icmp_ge (tgt := 140) (pc := 82) hx hb dX12_least_82 (by decide) (fun hc => ?_) (fun hc => ?_)
      · rw [if_pos hc] at hm
        refine lv_iinc (k := 3) (v := x3 + 1) (lv' := [(3, .int (x3 + 1)), (0, .ref this), (1, .int q1), (2, .int q2), (4, .int x4), (5, .int x5)]) (pc := 140) hx hb dX12_least_140 hl rfl rfl (Nat.le_of_ble_eq_true rfl) rfl (fun ls hl => ?_)
        refine lv_goto (tgt := 49) (pc := 143) hx hb dX12_least_143 (by decide) ?_
        exact hK49 (x3 + 1) u_this_thrown u_this_state_f H locs ls hP hD hS (lv_sub hl [1, 2, 3, 0] rfl) hm
      · rw [if_neg hc] at hm
        refine lv_aload_n (pc := 85) hx hb dX12_least_85 rfl (lv_at hl 0 rfl) ?_
        refine va_get (pc := 86) (D := D) (ci := 10) (C := RX12) (T := TX12) (N := 30) hx hb hts hiX12 hown hG.1 hP 0 rfl rfl 22 (Nat.le_of_ble_eq_true rfl) (hts _ kw_1279) (fun _ h9 => h9) rfl dX12_least_86 ?_
        refine lv_iconst (v := 1) (pc := 89) hx hb dX12_least_89 (by decide) ?_
        refine lv_iload (pc := 90) hx hb dX12_least_90 (lv_at hl 5 rfl) ?_
        refine lv_iadd (pc := 92) hx hb dX12_least_92 ?_
        obtain ⟨hin, hm⟩ := gd hm
        refine va_iald (pc := 93) (D := D) hx hb hG.1 hP 2 0 rfl rfl hin dX12_least_93 ?_
        refine lv_iload (pc := 94) hx hb dX12_least_94 (lv_at hl 4 rfl) ?_
        refine lv_iadd (pc := 96) hx hb dX12_least_96 ?_
        obtain ⟨z9, hv, hm⟩ := bd hm
        refine lv_topi (fun w ew => ?_)
        obtain rfl : z9 = w := (Option.some.inj hv).symm.trans ew.symm
        refine lv_istore (lv' := [(6, .int z9), (0, .ref this), (1, .int q1), (2, .int q2), (3, .int x3), (4, .int x4), (5, .int x5)]) (pc := 97) hx hb dX12_least_97 hl (Nat.le_of_ble_eq_true rfl) rfl (fun ls hl => ?_)
        refine lv_iload (pc := 99) hx hb dX12_least_99 (lv_at hl 0 rfl) ?_
        refine lv_iconst (v := 0) (pc := 101) hx hb dX12_least_101 (by decide) ?_
        refine lv_bipush (v := 60) (pc := 102) hx hb dX12_least_102 (by decide) ?_
        obtain ⟨r10, hcl, hm⟩ := bd hm
        refine cr_back (run_S (pc := 104) (n := 3) (As := [.int z9, .int 0, .int 60]) (rest := []) ⟨hx, hb, hml, hown, hts⟩ (c_X12_within l D k z9 0 60 r10 hcl) ⟨kw_1501, kw_16, by decide +kernel⟩ kw_1499 kw_1500 ⟨Nat.le_of_ble_eq_true rfl, Nat.le_of_ble_eq_true rfl⟩ pr_blind (prR (hP.sub [] rfl) hG) rfl hl.1 rfl (Nat.le_of_ble_eq_true rfl) dX12_least_104 ⟨Nat.zero_le _, Nat.zero_le _⟩) ?_
        refine lv_if_eq (tgt := 134) (pc := 107) hx hb dX12_least_107 (by decide) (fun hc => ?_) (fun hc => ?_)
        · rw [if_pos hc] at hm
          refine lv_iinc (k := 6) (v := x5 + 1) (lv' := [(5, .int (x5 + 1)), (6, .int z9), (0, .ref this), (1, .int q1), (2, .int q2), (3, .int x3), (4, .int x4)]) (pc := 134) hx hb dX12_least_134 hl rfl rfl (Nat.le_of_ble_eq_true rfl) rfl (fun ls hl => ?_)
          refine lv_goto (tgt := 76) (pc := 137) hx hb dX12_least_137 (by decide) ?_
          exact ih x3 x4 (x5 + 1) u_this_thrown u_this_state_f H locs ls hP hD hS (lv_sub hl [2, 3, 4, 5, 6, 0] rfl) hm
        · rw [if_neg hc] at hm
          refine lv_aload_n (pc := 110) hx hb dX12_least_110 rfl (lv_at hl 1 rfl) ?_
          refine lv_iload (pc := 111) hx hb dX12_least_111 (lv_at hl 6 rfl) ?_
          refine lv_iload (pc := 113) hx hb dX12_least_113 (lv_at hl 0 rfl) ?_
          obtain ⟨r11, hcl, hm⟩ := bd hm
          refine cw_mask (ws' := (wd_X12_least k this u_this_thrown this_tape this_taped this_size this_sort this_place this_value this_at this_fault this_words this_towns this_towns_f this_op this_arg this_codes this_names this_readNames this_namesMany this_readMany this_once this_lines this_facts this_pile this_state r11.2 this_undos this_isMarked this_weight this_rounding this_lacks this_alikes this_g)) (run_V (pc := 115) (n := 2) (As := [.int x5, .int z9]) (rest := []) ⟨hx, hb, hml, hown, hts⟩ ((c_X12_highIf l D k this u_this_thrown this_tape this_taped this_size this_sort this_place this_value this_at this_fault this_words this_towns this_towns_f this_op this_arg this_codes this_names this_readNames this_namesMany this_readMany this_once this_lines this_facts this_pile this_state u_this_state_f this_undos this_isMarked this_weight this_rounding this_lacks this_alikes this_g x5 z9 r11 hcl) H.size) ⟨kw_1631, kw_16, by decide +kernel⟩ kw_1628 kw_1630 ks_138 ⟨Nat.le_of_ble_eq_true rfl, Nat.le_of_ble_eq_true rfl⟩ pw_blind (prW (P_pick [true, true, true] rfl hP) hG (D_pick [true, true, true] rfl hD)) (va_recv hG.1 hP (ci := 10) (q0 := 0) rfl rfl) rfl hl.1 rfl (Nat.le_of_ble_eq_true rfl) dX12_least_115 ⟨Nat.zero_le _, Nat.zero_le _⟩) hP hD hS hA [true, true, true] rfl rfl rfl (fun H locs hP hD hS => ?_)
          refine lv_iload_n (pc := 118) hx hb dX12_least_118 rfl (lv_at hl 2 rfl) ?_
          refine lv_icmp_ne (tgt := 134) (pc := 119) hx hb dX12_least_119 (by decide) (fun hc => ?_) (fun hc => ?_)
          · rw [if_neg hc] at hm
            refine lv_iinc (k := 6) (v := x5 + 1) (lv' := [(5, .int (x5 + 1)), (6, .int z9), (0, .ref this), (1, .int q1), (2, .int q2), (3, .int x3), (4, .int x4)]) (pc := 134) hx hb dX12_least_134 hl rfl rfl (Nat.le_of_ble_eq_true rfl) rfl (fun ls hl => ?_)
            refine lv_goto (tgt := 76) (pc := 137) hx hb dX12_least_137 (by decide) ?_
            exact ih x3 x4 (x5 + 1) u_this_thrown r11.2 H locs ls hP hD hS (lv_sub hl [2, 3, 4, 5, 6, 0] rfl) hm
          · rw [if_pos hc] at hm
            refine lv_iload_n (pc := 122) hx hb dX12_least_122 rfl (lv_at hl 3 rfl) ?_
            refine lv_if_ne (tgt := 131) (pc := 123) hx hb dX12_least_123 (by decide) (fun hc => ?_) (fun hc => ?_)
            · rw [if_neg hc] at hm
              refine lv_iload (pc := 131) hx hb dX12_least_131 (lv_at hl 6 rfl) ?_
              rw [← Option.some.inj hm]
              exact W.iret hx hb hr (fun t ht _ => hq _ _ H t ht hP hD locs hS) hS.2.2 dX12_least_133 hlocks
            · rw [if_pos hc] at hm
              refine lv_iload (pc := 126) hx hb dX12_least_126 (lv_at hl 5 rfl) ?_
              refine lv_goto (tgt := 133) (pc := 128) hx hb dX12_least_128 (by decide) ?_
              rw [← Option.some.inj hm]
              exact W.iret hx hb hr (fun t ht _ => hq _ _ H t ht hP hD locs hS) hS.2.2 dX12_least_133 hlocks
  have h_49 : ∀ (n : Nat), ∀ (x3 : Int32) (u_this_thrown : Int32) (u_this_state_f : Nat → Int32) (H : Heap) (locs : List Loc) (ls : Array Slot), va_P D vwCl (wd_X12_least k this u_this_thrown this_tape this_taped this_size this_sort this_place this_value this_at this_fault this_words this_towns this_towns_f this_op this_arg this_codes this_names this_readNames this_namesMany this_readMany this_once this_lines this_facts this_pile this_state u_this_state_f this_undos this_isMarked this_weight this_rounding this_lacks this_alikes this_g) H → va_D A (wd_X12_least k this u_this_thrown this_tape this_taped this_size this_sort this_place this_value this_at this_fault this_words this_towns this_towns_f this_op this_arg this_codes this_names this_readNames this_namesMany this_readMany this_once this_lines this_facts this_pile this_state u_this_state_f this_undos this_isMarked this_weight this_rounding this_lacks this_alikes this_g) → va_S A s.heap H locs → lv_has ls 7 [(0, .ref this), (1, .int q1), (2, .int q2), (3, .int x3)] → m_X12_least_49 this_towns_f this_weight this_rounding q1 q2 n x3 u_this_thrown u_this_state_f = some R0 → W p l e (Rm 5 112) s m args below meth c H locs 0 0 (MQ below (QW D (some (.int R0.1)) (wd_X12_least k this this_thrown this_tape this_taped this_size this_sort this_place this_value this_at this_fault this_words this_towns this_towns_f this_op this_arg this_codes this_names this_readNames this_namesMany this_readMany this_once this_lines this_facts this_pile this_state this_state_f this_undos this_isMarked this_weight this_rounding this_lacks this_alikes this_g) (wd_X12_least k this R0.2.1 this_tape this_taped this_size this_sort this_place this_value this_at this_fault this_words this_towns this_towns_f this_op this_arg this_codes this_names this_readNames this_namesMany this_readMany this_once this_lines this_facts this_pile this_state R0.2.2 this_undos this_isMarked this_weight this_rounding this_lacks this_alikes this_g) s.heap.size) args s 0 0 A) (F0 m 49 ls []) := by
    intro n
    induction n with
    | zero => intro x3 u_this_thrown u_this_state_f H locs ls hP hD hS hl hm; cases hm
    | succ n ih =>
      intro x3 u_this_thrown u_this_state_f H locs ls hP hD hS hl hm
      unfold m_X12_least_49 at hm
      refine lv_iload_n (pc := 49) hx hb dX12_least_49 rfl (lv_at hl 3 rfl) ?_
      refine lv_bipush (v := 121) (pc := 50) hx hb dX12_least_50 (by decide) ?_
      refine lv_icmp_gt (tgt := 146) (pc := 52) hx hb dX12_least_52 (by decide) (fun hc => ?_) (fun hc => ?_)
      · rw [if_pos hc] at hm
        refine lv_sipush (v := (-1000)) (pc := 146) hx hb dX12_least_146 (by decide) ?_
        rw [← Option.some.inj hm]
        exact W.iret hx hb hr (fun t ht _ => hq _ _ H t ht hP hD locs hS) hS.2.2 dX12_least_149 hlocks
      · rw [if_neg hc] at hm
        refine lv_iload_n (pc := 55) hx hb dX12_least_55 rfl (lv_at hl 3 rfl) ?_
        refine lv_iconst (v := 2) (pc := 56) hx hb dX12_least_56 (by decide) ?_
        refine lv_irem (pc := 57) hx hb dX12_least_57 (by decide) ?_
        refine lv_if_ne (tgt := 67) (pc := 58) hx hb dX12_least_58 (by decide) (fun hc => ?_) (fun hc => ?_)
        · rw [if_neg hc] at hm
          refine lv_iload_n (pc := 67) hx hb dX12_least_67 rfl (lv_at hl 3 rfl) ?_
          refine lv_iconst (v := 2) (pc := 68) hx hb dX12_least_68 (by decide) ?_
          refine lv_idiv (pc := 69) hx hb dX12_least_69 (by decide) ?_
          refine lv_ineg (pc := 70) hx hb dX12_least_70 ?_
          refine lv_istore (lv' := [(4, .int (-(x3 / 2))), (0, .ref this), (1, .int q1), (2, .int q2), (3, .int x3)]) (pc := 71) hx hb dX12_least_71 hl (Nat.le_of_ble_eq_true rfl) rfl (fun ls hl => ?_)
          refine lv_iconst (v := 0) (pc := 73) hx hb dX12_least_73 (by decide) ?_
          refine lv_istore (lv' := [(5, .int 0), (4, .int (-(x3 / 2))), (0, .ref this), (1, .int q1), (2, .int q2), (3, .int x3)]) (pc := 74) hx hb dX12_least_74 hl (Nat.le_of_ble_eq_true rfl) rfl (fun ls hl => ?_)
          exact h_76 (m_X12_least_49 this_towns_f this_weight this_rounding q1 q2 n) ih FU x3 (-(x3 / 2)) 0 u_this_thrown u_this_state_f H locs ls hP hD hS (lv_sub hl [2, 3, 4, 5, 1, 0] rfl) hm
        · rw [if_pos hc] at hm
          refine lv_iload_n (pc := 61) hx hb dX12_least_61 rfl (lv_at hl 3 rfl) ?_
          refine lv_iconst (v := 2) (pc := 62) hx hb dX12_least_62 (by decide) ?_
          refine lv_idiv (pc := 63) hx hb dX12_least_63 (by decide) ?_
          refine lv_goto (tgt := 71) (pc := 64) hx hb dX12_least_64 (by decide) ?_
          refine lv_istore (lv' := [(4, .int (x3 / 2)), (0, .ref this), (1, .int q1), (2, .int q2), (3, .int x3)]) (pc := 71) hx hb dX12_least_71 hl (Nat.le_of_ble_eq_true rfl) rfl (fun ls hl => ?_)
          refine lv_iconst (v := 0) (pc := 73) hx hb dX12_least_73 (by decide) ?_
          refine lv_istore (lv' := [(5, .int 0), (4, .int (x3 / 2)), (0, .ref this), (1, .int q1), (2, .int q2), (3, .int x3)]) (pc := 74) hx hb dX12_least_74 hl (Nat.le_of_ble_eq_true rfl) rfl (fun ls hl => ?_)
          exact h_76 (m_X12_least_49 this_towns_f this_weight this_rounding q1 q2 n) ih FU x3 (x3 / 2) 0 u_this_thrown u_this_state_f H locs ls hP hD hS (lv_sub hl [2, 3, 4, 5, 1, 0] rfl) hm
  unfold m_X12_least at hm
  suffices hgo : ∀ (H : Heap) (locs : List Loc), va_P D vwCl (wd_X12_least k this this_thrown this_tape this_taped this_size this_sort this_place this_value this_at this_fault this_words this_towns this_towns_f this_op this_arg this_codes this_names this_readNames this_namesMany this_readMany this_once this_lines this_facts this_pile this_state this_state_f this_undos this_isMarked this_weight this_rounding this_lacks this_alikes this_g) H → va_D A (wd_X12_least k this this_thrown this_tape this_taped this_size this_sort this_place this_value this_at this_fault this_words this_towns this_towns_f this_op this_arg this_codes this_names this_readNames this_namesMany this_readMany this_once this_lines this_facts this_pile this_state this_state_f this_undos this_isMarked this_weight this_rounding this_lacks this_alikes this_g) → va_S A s.heap H locs → W p l e (Rm 5 112) s m args below meth c H locs 0 0 (MQ below (QW D (some (.int R0.1)) (wd_X12_least k this this_thrown this_tape this_taped this_size this_sort this_place this_value this_at this_fault this_words this_towns this_towns_f this_op this_arg this_codes this_names this_readNames this_namesMany this_readMany this_once this_lines this_facts this_pile this_state this_state_f this_undos this_isMarked this_weight this_rounding this_lacks this_alikes this_g) (wd_X12_least k this R0.2.1 this_tape this_taped this_size this_sort this_place this_value this_at this_fault this_words this_towns this_towns_f this_op this_arg this_codes this_names this_readNames this_namesMany this_readMany this_once this_lines this_facts this_pile this_state R0.2.2 this_undos this_isMarked this_weight this_rounding this_lacks this_alikes this_g) s.heap.size) args s 0 0 A) (F0 m 0 ls []) from hgo _ _ hP hD hS
  clear hP hD hS
  intro H locs hP hD hS
  refine lv_aload_n (pc := 0) hx hb dX12_least_0 rfl (lv_at hl 0 rfl) ?_
  refine lv_iconst (v := 0) (pc := 1) hx hb dX12_least_1 (by decide) ?_
  refine va_put (pc := 2) (D := D) (ci := 10) (v := .int 0) (ty := .int) (C := RX12) (T := TX12) (N := 30) hx hb hts hiX12 tyX12 tyX12_ok nmX12 hown hG.1 hP hD hS 0 rfl rfl 0 (Nat.le_of_ble_eq_true rfl) (hts _ kw_1257) (fun _ h9 => h9) rfl (by decide +kernel) rfl rfl (Nat.le_of_ble_eq_true rfl) dX12_least_2 (fun H locs hP hD hS => ?_)
  have hP : va_P D vwCl (wd_X12_least k this 0 this_tape this_taped this_size this_sort this_place this_value this_at this_fault this_words this_towns this_towns_f this_op this_arg this_codes this_names this_readNames this_namesMany this_readMany this_once this_lines this_facts this_pile this_state this_state_f this_undos this_isMarked this_weight this_rounding this_lacks this_alikes this_g) H := hP
  have hD : va_D A (wd_X12_least k this 0 this_tape this_taped this_size this_sort this_place this_value this_at this_fault this_words this_towns this_towns_f this_op this_arg this_codes this_names this_readNames this_namesMany this_readMany this_once this_lines this_facts this_pile this_state this_state_f this_undos this_isMarked this_weight this_rounding this_lacks this_alikes this_g) := hD
  refine lv_iload_n (pc := 5) hx hb dX12_least_5 rfl (lv_at hl 1 rfl) ?_
  refine lv_iconst (v := 0) (pc := 6) hx hb dX12_least_6 (by decide) ?_
  refine lv_bipush (v := 99) (pc := 7) hx hb dX12_least_7 (by decide) ?_
  obtain ⟨r12, hcl, hm⟩ := bd hm
  refine cr_back (run_S (pc := 9) (n := 3) (As := [.int q1, .int 0, .int 99]) (rest := []) ⟨hx, hb, hml, hown, hts⟩ (c_X12_within l D k q1 0 99 r12 hcl) ⟨kw_1501, kw_16, by decide +kernel⟩ kw_1499 kw_1500 ⟨Nat.le_of_ble_eq_true rfl, Nat.le_of_ble_eq_true rfl⟩ pr_blind (prR (hP.sub [] rfl) hG) rfl hl.1 rfl (Nat.le_of_ble_eq_true rfl) dX12_least_9 ⟨Nat.zero_le _, Nat.zero_le _⟩) ?_
  refine lv_if_eq (tgt := 24) (pc := 12) hx hb dX12_least_12 (by decide) (fun hc => ?_) (fun hc => ?_)
  · rw [if_pos hc] at hm
    refine lv_sipush (v := (-1000)) (pc := 24) hx hb dX12_least_24 (by decide) ?_
    rw [← Option.some.inj hm]
    exact W.iret hx hb hr (fun t ht _ => hq _ _ H t ht hP hD locs hS) hS.2.2 dX12_least_27 hlocks
  · rw [if_neg hc] at hm
    refine lv_iload_n (pc := 15) hx hb dX12_least_15 rfl (lv_at hl 2 rfl) ?_
    refine lv_iconst (v := 0) (pc := 16) hx hb dX12_least_16 (by decide) ?_
    refine lv_iconst (v := 1) (pc := 17) hx hb dX12_least_17 (by decide) ?_
    obtain ⟨r13, hcl, hm⟩ := bd hm
    refine cr_back (run_S (pc := 18) (n := 3) (As := [.int q2, .int 0, .int 1]) (rest := []) ⟨hx, hb, hml, hown, hts⟩ (c_X12_within l D k q2 0 1 r13 hcl) ⟨kw_1501, kw_16, by decide +kernel⟩ kw_1499 kw_1500 ⟨Nat.le_of_ble_eq_true rfl, Nat.le_of_ble_eq_true rfl⟩ pr_blind (prR (hP.sub [] rfl) hG) rfl hl.1 rfl (Nat.le_of_ble_eq_true rfl) dX12_least_18 ⟨Nat.zero_le _, Nat.zero_le _⟩) ?_
    refine lv_if_ne (tgt := 28) (pc := 21) hx hb dX12_least_21 (by decide) (fun hc => ?_) (fun hc => ?_)
    · rw [if_neg hc] at hm
      refine lv_aload_n (pc := 28) hx hb dX12_least_28 rfl (lv_at hl 0 rfl) ?_
      refine lv_iconst (v := 0) (pc := 29) hx hb dX12_least_29 (by decide) ?_
      obtain ⟨r14, hcl, hm⟩ := bd hm
      refine cr_back (run_V (pc := 30) (n := 1) (As := [.int 0]) (rest := []) ⟨hx, hb, hml, hown, hts⟩ (c_X12_highOf l D k this 0 this_tape this_taped this_size this_sort this_place this_value this_at this_fault this_words this_towns this_towns_f this_op this_arg this_codes this_names this_readNames this_namesMany this_readMany this_once this_lines this_facts this_pile this_state this_state_f this_undos this_isMarked this_weight this_rounding this_lacks this_alikes this_g 0 r14 hcl) ⟨kw_1475, kw_16, by decide +kernel⟩ kw_1472 kw_1474 ks_123 ⟨Nat.le_of_ble_eq_true rfl, Nat.le_of_ble_eq_true rfl⟩ pr_blind (prR (hP.sub [0, 1, 2] rfl) hG) (va_recv hG.1 hP (ci := 10) (q0 := 0) rfl rfl) rfl hl.1 rfl (Nat.le_of_ble_eq_true rfl) dX12_least_30 ⟨Nat.zero_le _, Nat.zero_le _⟩) ?_
      refine lv_iload_n (pc := 33) hx hb dX12_least_33 rfl (lv_at hl 1 rfl) ?_
      refine lv_icmp_ne (tgt := 47) (pc := 34) hx hb dX12_least_34 (by decide) (fun hc => ?_) (fun hc => ?_)
      · rw [if_neg hc] at hm
        refine lv_iconst (v := 2) (pc := 47) hx hb dX12_least_47 (by decide) ?_
        refine lv_istore_n (lv' := [(3, .int 2), (0, .ref this), (1, .int q1), (2, .int q2)]) (pc := 48) hx hb dX12_least_48 rfl hl (Nat.le_of_ble_eq_true rfl) rfl (fun ls hl => ?_)
        exact h_49 FU 2 0 this_state_f H locs ls hP hD hS (lv_sub hl [1, 2, 3, 0] rfl) hm
      · rw [if_pos hc] at hm
        refine lv_iload_n (pc := 37) hx hb dX12_least_37 rfl (lv_at hl 2 rfl) ?_
        refine lv_if_ne (tgt := 45) (pc := 38) hx hb dX12_least_38 (by decide) (fun hc => ?_) (fun hc => ?_)
        · rw [if_neg hc] at hm
          refine lv_iconst (v := (-1)) (pc := 45) hx hb dX12_least_45 (by decide) ?_
          rw [← Option.some.inj hm]
          exact W.iret hx hb hr (fun t ht _ => hq _ _ H t ht hP hD locs hS) hS.2.2 dX12_least_46 hlocks
        · rw [if_pos hc] at hm
          refine lv_iconst (v := 0) (pc := 41) hx hb dX12_least_41 (by decide) ?_
          refine lv_goto (tgt := 46) (pc := 42) hx hb dX12_least_42 (by decide) ?_
          rw [← Option.some.inj hm]
          exact W.iret hx hb hr (fun t ht _ => hq _ _ H t ht hP hD locs hS) hS.2.2 dX12_least_46 hlocks
    · rw [if_pos hc] at hm
      refine lv_sipush (v := (-1000)) (pc := 24) hx hb dX12_least_24 (by decide) ?_
      rw [← Option.some.inj hm]
      exact W.iret hx hb hr (fun t ht _ => hq _ _ H t ht hP hD locs hS) hS.2.2 dX12_least_27 hlocks
theorem dX12_cost_0 : decode cX12_cost 0 = .ok (.aload_n 0, 1) := by decide +kernel
theorem dX12_cost_1 : decode cX12_cost 1 = .ok (.iconst 0, 1) := by decide +kernel
theorem dX12_cost_2 : decode cX12_cost 2 = .ok (.putfield 1, 3) := by decide +kernel
theorem dX12_cost_5 : decode cX12_cost 5 = .ok (.aload_n 0, 1) := by decide +kernel
theorem dX12_cost_6 : decode cX12_cost 6 = .ok (.iload_n 1, 1) := by decide +kernel
theorem dX12_cost_7 : decode cX12_cost 7 = .ok (.invokevirtual 303, 3) := by decide +kernel
theorem dX12_cost_10 : decode cX12_cost 10 = .ok (.ifCond .eq 16, 3) := by decide +kernel
theorem dX12_cost_13 : decode cX12_cost 13 = .ok (.aload_n 0, 1) := by decide +kernel
theorem dX12_cost_14 : decode cX12_cost 14 = .ok (.getfield 113, 3) := by decide +kernel
theorem dX12_cost_17 : decode cX12_cost 17 = .ok (.iconst 1, 1) := by decide +kernel
theorem dX12_cost_18 : decode cX12_cost 18 = .ok (.iload_n 1, 1) := by decide +kernel
theorem dX12_cost_19 : decode cX12_cost 19 = .ok (.iadd, 1) := by decide +kernel
theorem dX12_cost_20 : decode cX12_cost 20 = .ok (.iaload, 1) := by decide +kernel
theorem dX12_cost_21 : decode cX12_cost 21 = .ok (.iconst 1, 1) := by decide +kernel
theorem dX12_cost_22 : decode cX12_cost 22 = .ok (.isub, 1) := by decide +kernel
theorem dX12_cost_23 : decode cX12_cost 23 = .ok (.goto 4, 3) := by decide +kernel
theorem dX12_cost_26 : decode cX12_cost 26 = .ok (.iconst (-1), 1) := by decide +kernel
theorem dX12_cost_27 : decode cX12_cost 27 = .ok (.istore_n 2, 1) := by decide +kernel
theorem dX12_cost_28 : decode cX12_cost 28 = .ok (.iload_n 2, 1) := by decide +kernel
theorem dX12_cost_29 : decode cX12_cost 29 = .ok (.ifCond .lt 34, 3) := by decide +kernel
theorem dX12_cost_32 : decode cX12_cost 32 = .ok (.aload_n 0, 1) := by decide +kernel
theorem dX12_cost_33 : decode cX12_cost 33 = .ok (.iload_n 1, 1) := by decide +kernel
theorem dX12_cost_34 : decode cX12_cost 34 = .ok (.iload_n 2, 1) := by decide +kernel
theorem dX12_cost_35 : decode cX12_cost 35 = .ok (.invokevirtual 334, 3) := by decide +kernel
theorem dX12_cost_38 : decode cX12_cost 38 = .ok (.aload_n 0, 1) := by decide +kernel
theorem dX12_cost_39 : decode cX12_cost 39 = .ok (.iconst 0, 1) := by decide +kernel
theorem dX12_cost_40 : decode cX12_cost 40 = .ok (.invokevirtual 293, 3) := by decide +kernel
theorem dX12_cost_43 : decode cX12_cost 43 = .ok (.if_icmp .le 14, 3) := by decide +kernel
theorem dX12_cost_46 : decode cX12_cost 46 = .ok (.aload_n 0, 1) := by decide +kernel
theorem dX12_cost_47 : decode cX12_cost 47 = .ok (.getfield 113, 3) := by decide +kernel
theorem dX12_cost_50 : decode cX12_cost 50 = .ok (.iconst 1, 1) := by decide +kernel
theorem dX12_cost_51 : decode cX12_cost 51 = .ok (.iload_n 1, 1) := by decide +kernel
theorem dX12_cost_52 : decode cX12_cost 52 = .ok (.iadd, 1) := by decide +kernel
theorem dX12_cost_53 : decode cX12_cost 53 = .ok (.iaload, 1) := by decide +kernel
theorem dX12_cost_54 : decode cX12_cost 54 = .ok (.iload_n 2, 1) := by decide +kernel
theorem dX12_cost_55 : decode cX12_cost 55 = .ok (.isub, 1) := by decide +kernel
theorem dX12_cost_56 : decode cX12_cost 56 = .ok (.ireturn, 1) := by decide +kernel
theorem dX12_cost_57 : decode cX12_cost 57 = .ok (.iinc 2 (-1), 3) := by decide +kernel
theorem dX12_cost_60 : decode cX12_cost 60 = .ok (.goto (-32), 3) := by decide +kernel
theorem dX12_cost_63 : decode cX12_cost 63 = .ok (.iconst (-1), 1) := by decide +kernel
theorem dX12_cost_64 : decode cX12_cost 64 = .ok (.ireturn, 1) := by decide +kernel
abbrev wd_X12_cost (k : Nat → ClassId) (this : Nat) (this_thrown : Int32) (this_tape : Nat) (this_taped : Int32) (this_size : Int32) (this_sort : Nat) (this_place : Nat) (this_value : Nat) (this_at : Int32) (this_fault : Int32) (this_words : Nat) (this_towns : Nat) (this_towns_f : Nat → Int32) (this_op : Nat) (this_arg : Nat) (this_codes : Int32) (this_names : Nat) (this_readNames : Nat) (this_namesMany : Int32) (this_readMany : Int32) (this_once : Int32) (this_lines : Nat) (this_facts : Nat) (this_pile : Nat) (this_state : Nat) (this_state_f : Nat → Int32) (this_undos : Int32) (this_isMarked : Nat) (this_weight : Int32) (this_rounding : Int32) (this_lacks : Nat) (this_alikes : Nat) (this_g : Int64) : va_W := [(this, .inr (10, [.int this_thrown, .ref this_tape, .int this_taped, .int this_size, .ref this_sort, .ref this_place, .ref this_value, .int this_at, .int this_fault, .ref this_words, .ref this_towns, .ref this_op, .ref this_arg, .int this_codes, .ref this_names, .ref this_readNames, .int this_namesMany, .int this_readMany, .int this_once, .ref this_lines, .ref this_facts, .ref this_pile, .ref this_state, .int this_undos, .ref this_isMarked, .int this_weight, .int this_rounding, .ref this_lacks, .ref this_alikes, .long this_g])), (this_towns, .inl (k 0, 60, .inl this_towns_f)), (this_state, .inl (k 0, 1104, .inl this_state_f))]
set_option maxHeartbeats 4000000 in
set_option maxRecDepth 100000 in
theorem c_X12_cost (l : Launch) (D : va_G) (k : Nat → ClassId) (this : Nat) (this_thrown : Int32) (this_tape : Nat) (this_taped : Int32) (this_size : Int32) (this_sort : Nat) (this_place : Nat) (this_value : Nat) (this_at : Int32) (this_fault : Int32) (this_words : Nat) (this_towns : Nat) (this_towns_f : Nat → Int32) (this_op : Nat) (this_arg : Nat) (this_codes : Int32) (this_names : Nat) (this_readNames : Nat) (this_namesMany : Int32) (this_readMany : Int32) (this_once : Int32) (this_lines : Nat) (this_facts : Nat) (this_pile : Nat) (this_state : Nat) (this_state_f : Nat → Int32) (this_undos : Int32) (this_isMarked : Nat) (this_weight : Int32) (this_rounding : Int32) (this_lacks : Nat) (this_alikes : Nat) (this_g : Int64) (q1 : Int32) (R0 : Int32 × Int32 × (Nat → Int32)) (hm : m_X12_cost this_towns_f this_state_f this_weight this_rounding q1 = some R0) : CW l D (TY k) yX12_cost cX12_cost 3 (some .int) 5 112 [.ref this, .int q1] (wd_X12_cost k this this_thrown this_tape this_taped this_size this_sort this_place this_value this_at this_fault this_words this_towns this_towns_f this_op this_arg this_codes this_names this_readNames this_namesMany this_readMany this_once this_lines this_facts this_pile this_state this_state_f this_undos this_isMarked this_weight this_rounding this_lacks this_alikes this_g) (some (.int R0.1)) (wd_X12_cost k this R0.2.1 this_tape this_taped this_size this_sort this_place this_value this_at this_fault this_words this_towns this_towns_f this_op this_arg this_codes this_names this_readNames this_namesMany this_readMany this_once this_lines this_facts this_pile this_state R0.2.2 this_undos this_isMarked this_weight this_rounding this_lacks this_alikes this_g) := by
  refine CW.mk (by decide) (Nat.le_of_ble_eq_true rfl) ?_
  intro p e s m args below meth c ls A ⟨hx, hb, hr, hts, hown, hlocks, hml⟩ hP hG hD hA hl hS hq
  have hl : lv_has ls 3 [(0, .ref this), (1, .int q1)] := hl
  have h_28 : ∀ (n : Nat), ∀ (x2 : Int32) (u_this_thrown : Int32) (u_this_state_f : Nat → Int32) (H : Heap) (locs : List Loc) (ls : Array Slot), va_P D vwCl (wd_X12_cost k this u_this_thrown this_tape this_taped this_size this_sort this_place this_value this_at this_fault this_words this_towns this_towns_f this_op this_arg this_codes this_names this_readNames this_namesMany this_readMany this_once this_lines this_facts this_pile this_state u_this_state_f this_undos this_isMarked this_weight this_rounding this_lacks this_alikes this_g) H → va_D A (wd_X12_cost k this u_this_thrown this_tape this_taped this_size this_sort this_place this_value this_at this_fault this_words this_towns this_towns_f this_op this_arg this_codes this_names this_readNames this_namesMany this_readMany this_once this_lines this_facts this_pile this_state u_this_state_f this_undos this_isMarked this_weight this_rounding this_lacks this_alikes this_g) → va_S A s.heap H locs → lv_has ls 3 [(0, .ref this), (1, .int q1), (2, .int x2)] → m_X12_cost_28 this_towns_f this_weight this_rounding q1 n x2 u_this_thrown u_this_state_f = some R0 → W p l e (Rm 5 112) s m args below meth c H locs 0 0 (MQ below (QW D (some (.int R0.1)) (wd_X12_cost k this this_thrown this_tape this_taped this_size this_sort this_place this_value this_at this_fault this_words this_towns this_towns_f this_op this_arg this_codes this_names this_readNames this_namesMany this_readMany this_once this_lines this_facts this_pile this_state this_state_f this_undos this_isMarked this_weight this_rounding this_lacks this_alikes this_g) (wd_X12_cost k this R0.2.1 this_tape this_taped this_size this_sort this_place this_value this_at this_fault this_words this_towns this_towns_f this_op this_arg this_codes this_names this_readNames this_namesMany this_readMany this_once this_lines this_facts this_pile this_state R0.2.2 this_undos this_isMarked this_weight this_rounding this_lacks this_alikes this_g) s.heap.size) args s 0 0 A) (F0 m 28 ls []) := by
    intro n
    induction n with
    | zero => intro x2 u_this_thrown u_this_state_f H locs ls hP hD hS hl hm; cases hm
    | succ n ih =>
      intro x2 u_this_thrown u_this_state_f H locs ls hP hD hS hl hm
      unfold m_X12_cost_28 at hm
      refine lv_iload_n (pc := 28) hx hb dX12_cost_28 rfl (lv_at hl 2 rfl) ?_
      refine lv_if_lt (tgt := 63) (pc := 29) hx hb dX12_cost_29 (by decide) (fun hc => ?_) (fun hc => ?_)
      · rw [if_pos hc] at hm
        refine lv_iconst (v := (-1)) (pc := 63) hx hb dX12_cost_63 (by decide) ?_
        rw [← Option.some.inj hm]
        exact W.iret hx hb hr (fun t ht _ => hq _ _ H t ht hP hD locs hS) hS.2.2 dX12_cost_64 hlocks
      · rw [if_neg hc] at hm
        refine lv_aload_n (pc := 32) hx hb dX12_cost_32 rfl (lv_at hl 0 rfl) ?_
        refine lv_iload_n (pc := 33) hx hb dX12_cost_33 rfl (lv_at hl 1 rfl) ?_
        refine lv_iload_n (pc := 34) hx hb dX12_cost_34 rfl (lv_at hl 2 rfl) ?_
        obtain ⟨r5, hcl, hm⟩ := bd hm
        refine cw_mask (ws' := (wd_X12_cost k this u_this_thrown this_tape this_taped this_size this_sort this_place this_value this_at this_fault this_words this_towns this_towns_f this_op this_arg this_codes this_names this_readNames this_namesMany this_readMany this_once this_lines this_facts this_pile this_state r5.2 this_undos this_isMarked this_weight this_rounding this_lacks this_alikes this_g)) (run_V (pc := 35) (n := 2) (As := [.int q1, .int x2]) (rest := []) ⟨hx, hb, hml, hown, hts⟩ ((c_X12_highIf l D k this u_this_thrown this_tape this_taped this_size this_sort this_place this_value this_at this_fault this_words this_towns this_towns_f this_op this_arg this_codes this_names this_readNames this_namesMany this_readMany this_once this_lines this_facts this_pile this_state u_this_state_f this_undos this_isMarked this_weight this_rounding this_lacks this_alikes this_g q1 x2 r5 hcl) H.size) ⟨kw_1631, kw_16, by decide +kernel⟩ kw_1628 kw_1630 ks_138 ⟨Nat.le_of_ble_eq_true rfl, Nat.le_of_ble_eq_true rfl⟩ pw_blind (prW (P_pick [true, true, true] rfl hP) hG (D_pick [true, true, true] rfl hD)) (va_recv hG.1 hP (ci := 10) (q0 := 0) rfl rfl) rfl hl.1 rfl (Nat.le_of_ble_eq_true rfl) dX12_cost_35 ⟨Nat.zero_le _, Nat.zero_le _⟩) hP hD hS hA [true, true, true] rfl rfl rfl (fun H locs hP hD hS => ?_)
        refine lv_aload_n (pc := 38) hx hb dX12_cost_38 rfl (lv_at hl 0 rfl) ?_
        refine lv_iconst (v := 0) (pc := 39) hx hb dX12_cost_39 (by decide) ?_
        obtain ⟨r6, hcl, hm⟩ := bd hm
        refine cr_back (run_V (pc := 40) (n := 1) (As := [.int 0]) (rest := [.int r5.1]) ⟨hx, hb, hml, hown, hts⟩ (c_X12_highOf l D k this u_this_thrown this_tape this_taped this_size this_sort this_place this_value this_at this_fault this_words this_towns this_towns_f this_op this_arg this_codes this_names this_readNames this_namesMany this_readMany this_once this_lines this_facts this_pile this_state r5.2 this_undos this_isMarked this_weight this_rounding this_lacks this_alikes this_g 0 r6 hcl) ⟨kw_1475, kw_16, by decide +kernel⟩ kw_1472 kw_1474 ks_123 ⟨Nat.le_of_ble_eq_true rfl, Nat.le_of_ble_eq_true rfl⟩ pr_blind (prR (hP.sub [0, 1, 2] rfl) hG) (va_recv hG.1 hP (ci := 10) (q0 := 0) rfl rfl) rfl hl.1 rfl (Nat.le_of_ble_eq_true rfl) dX12_cost_40 ⟨Nat.zero_le _, Nat.zero_le _⟩) ?_
        refine lv_icmp_le (tgt := 57) (pc := 43) hx hb dX12_cost_43 (by decide) (fun hc => ?_) (fun hc => ?_)
        · rw [if_pos hc] at hm
          refine lv_iinc (k := 2) (v := x2 + (-1)) (lv' := [(2, .int (x2 + (-1))), (0, .ref this), (1, .int q1)]) (pc := 57) hx hb dX12_cost_57 hl rfl rfl (Nat.le_of_ble_eq_true rfl) rfl (fun ls hl => ?_)
          refine lv_goto (tgt := 28) (pc := 60) hx hb dX12_cost_60 (by decide) ?_
          exact ih (x2 + (-1)) u_this_thrown r5.2 H locs ls hP hD hS (lv_sub hl [1, 2, 0] rfl) hm
        · rw [if_neg hc] at hm
          refine lv_aload_n (pc := 46) hx hb dX12_cost_46 rfl (lv_at hl 0 rfl) ?_
          refine va_get (pc := 47) (D := D) (ci := 10) (C := RX12) (T := TX12) (N := 30) hx hb hts hiX12 hown hG.1 hP 0 rfl rfl 22 (Nat.le_of_ble_eq_true rfl) (hts _ kw_1279) (fun _ h9 => h9) rfl dX12_cost_47 ?_
          refine lv_iconst (v := 1) (pc := 50) hx hb dX12_cost_50 (by decide) ?_
          refine lv_iload_n (pc := 51) hx hb dX12_cost_51 rfl (lv_at hl 1 rfl) ?_
          refine lv_iadd (pc := 52) hx hb dX12_cost_52 ?_
          obtain ⟨hin, hm⟩ := gd hm
          refine va_iald (pc := 53) (D := D) hx hb hG.1 hP 2 0 rfl rfl hin dX12_cost_53 ?_
          refine lv_iload_n (pc := 54) hx hb dX12_cost_54 rfl (lv_at hl 2 rfl) ?_
          refine lv_isub (pc := 55) hx hb dX12_cost_55 ?_
          rw [← Option.some.inj hm]
          exact W.iret hx hb hr (fun t ht _ => hq _ _ H t ht hP hD locs hS) hS.2.2 dX12_cost_56 hlocks
  unfold m_X12_cost at hm
  suffices hgo : ∀ (H : Heap) (locs : List Loc), va_P D vwCl (wd_X12_cost k this this_thrown this_tape this_taped this_size this_sort this_place this_value this_at this_fault this_words this_towns this_towns_f this_op this_arg this_codes this_names this_readNames this_namesMany this_readMany this_once this_lines this_facts this_pile this_state this_state_f this_undos this_isMarked this_weight this_rounding this_lacks this_alikes this_g) H → va_D A (wd_X12_cost k this this_thrown this_tape this_taped this_size this_sort this_place this_value this_at this_fault this_words this_towns this_towns_f this_op this_arg this_codes this_names this_readNames this_namesMany this_readMany this_once this_lines this_facts this_pile this_state this_state_f this_undos this_isMarked this_weight this_rounding this_lacks this_alikes this_g) → va_S A s.heap H locs → W p l e (Rm 5 112) s m args below meth c H locs 0 0 (MQ below (QW D (some (.int R0.1)) (wd_X12_cost k this this_thrown this_tape this_taped this_size this_sort this_place this_value this_at this_fault this_words this_towns this_towns_f this_op this_arg this_codes this_names this_readNames this_namesMany this_readMany this_once this_lines this_facts this_pile this_state this_state_f this_undos this_isMarked this_weight this_rounding this_lacks this_alikes this_g) (wd_X12_cost k this R0.2.1 this_tape this_taped this_size this_sort this_place this_value this_at this_fault this_words this_towns this_towns_f this_op this_arg this_codes this_names this_readNames this_namesMany this_readMany this_once this_lines this_facts this_pile this_state R0.2.2 this_undos this_isMarked this_weight this_rounding this_lacks this_alikes this_g) s.heap.size) args s 0 0 A) (F0 m 0 ls []) from hgo _ _ hP hD hS
  clear hP hD hS
  intro H locs hP hD hS
  refine lv_aload_n (pc := 0) hx hb dX12_cost_0 rfl (lv_at hl 0 rfl) ?_
  refine lv_iconst (v := 0) (pc := 1) hx hb dX12_cost_1 (by decide) ?_
  refine va_put (pc := 2) (D := D) (ci := 10) (v := .int 0) (ty := .int) (C := RX12) (T := TX12) (N := 30) hx hb hts hiX12 tyX12 tyX12_ok nmX12 hown hG.1 hP hD hS 0 rfl rfl 0 (Nat.le_of_ble_eq_true rfl) (hts _ kw_1257) (fun _ h9 => h9) rfl (by decide +kernel) rfl rfl (Nat.le_of_ble_eq_true rfl) dX12_cost_2 (fun H locs hP hD hS => ?_)
  have hP : va_P D vwCl (wd_X12_cost k this 0 this_tape this_taped this_size this_sort this_place this_value this_at this_fault this_words this_towns this_towns_f this_op this_arg this_codes this_names this_readNames this_namesMany this_readMany this_once this_lines this_facts this_pile this_state this_state_f this_undos this_isMarked this_weight this_rounding this_lacks this_alikes this_g) H := hP
  have hD : va_D A (wd_X12_cost k this 0 this_tape this_taped this_size this_sort this_place this_value this_at this_fault this_words this_towns this_towns_f this_op this_arg this_codes this_names this_readNames this_namesMany this_readMany this_once this_lines this_facts this_pile this_state this_state_f this_undos this_isMarked this_weight this_rounding this_lacks this_alikes this_g) := hD
  refine lv_aload_n (pc := 5) hx hb dX12_cost_5 rfl (lv_at hl 0 rfl) ?_
  refine lv_iload_n (pc := 6) hx hb dX12_cost_6 rfl (lv_at hl 1 rfl) ?_
  obtain ⟨r7, hcl, hm⟩ := bd hm
  refine cr_back (run_V (pc := 7) (n := 1) (As := [.int q1]) (rest := []) ⟨hx, hb, hml, hown, hts⟩ (c_X12_isPerson l D k this 0 this_tape this_taped this_size this_sort this_place this_value this_at this_fault this_words this_towns this_towns_f this_op this_arg this_codes this_names this_readNames this_namesMany this_readMany this_once this_lines this_facts this_pile this_state this_undos this_isMarked this_weight this_rounding this_lacks this_alikes this_g q1 r7 hcl) ⟨kw_1498, kw_16, by decide +kernel⟩ kw_1495 kw_1497 ks_127 ⟨Nat.le_of_ble_eq_true rfl, Nat.le_of_ble_eq_true rfl⟩ pr_blind (prR (hP.sub [0, 1] rfl) hG) (va_recv hG.1 hP (ci := 10) (q0 := 0) rfl rfl) rfl hl.1 rfl (Nat.le_of_ble_eq_true rfl) dX12_cost_7 ⟨Nat.zero_le _, Nat.zero_le _⟩) ?_
  refine lv_if_eq (tgt := 26) (pc := 10) hx hb dX12_cost_10 (by decide) (fun hc => ?_) (fun hc => ?_)
  · rw [if_pos hc] at hm
    refine lv_iconst (v := (-1)) (pc := 26) hx hb dX12_cost_26 (by decide) ?_
    refine lv_istore_n (lv' := [(2, .int (-1)), (0, .ref this), (1, .int q1)]) (pc := 27) hx hb dX12_cost_27 rfl hl (Nat.le_of_ble_eq_true rfl) rfl (fun ls hl => ?_)
    exact h_28 FU (-1) 0 this_state_f H locs ls hP hD hS (lv_sub hl [1, 2, 0] rfl) hm
  · rw [if_neg hc] at hm
    refine lv_aload_n (pc := 13) hx hb dX12_cost_13 rfl (lv_at hl 0 rfl) ?_
    refine va_get (pc := 14) (D := D) (ci := 10) (C := RX12) (T := TX12) (N := 30) hx hb hts hiX12 hown hG.1 hP 0 rfl rfl 22 (Nat.le_of_ble_eq_true rfl) (hts _ kw_1279) (fun _ h9 => h9) rfl dX12_cost_14 ?_
    refine lv_iconst (v := 1) (pc := 17) hx hb dX12_cost_17 (by decide) ?_
    refine lv_iload_n (pc := 18) hx hb dX12_cost_18 rfl (lv_at hl 1 rfl) ?_
    refine lv_iadd (pc := 19) hx hb dX12_cost_19 ?_
    obtain ⟨hin, hm⟩ := gd hm
    refine va_iald (pc := 20) (D := D) hx hb hG.1 hP 2 0 rfl rfl hin dX12_cost_20 ?_
    refine lv_iconst (v := 1) (pc := 21) hx hb dX12_cost_21 (by decide) ?_
    refine lv_isub (pc := 22) hx hb dX12_cost_22 ?_
    refine lv_goto (tgt := 27) (pc := 23) hx hb dX12_cost_23 (by decide) ?_
    obtain ⟨z8, hv, hm⟩ := bd hm
    refine lv_topi (fun w ew => ?_)
    obtain rfl : z8 = w := (Option.some.inj hv).symm.trans ew.symm
    refine lv_istore_n (lv' := [(2, .int z8), (0, .ref this), (1, .int q1)]) (pc := 27) hx hb dX12_cost_27 rfl hl (Nat.le_of_ble_eq_true rfl) rfl (fun ls hl => ?_)
    exact h_28 FU z8 0 this_state_f H locs ls hP hD hS (lv_sub hl [1, 2, 0] rfl) hm
