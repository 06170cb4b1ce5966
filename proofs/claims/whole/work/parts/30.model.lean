theorem dX12_thrown_0 : decode cX12_thrown 0 = .ok (.aload_n 0, 1) := by decide +kernel
theorem dX12_thrown_1 : decode cX12_thrown 1 = .ok (.getfield 1, 3) := by decide +kernel
theorem dX12_thrown_4 : decode cX12_thrown 4 = .ok (.ireturn, 1) := by decide +kernel
abbrev wd_X12_thrown (k : Nat → ClassId) (this : Nat) (this_thrown : Int32) (this_tape : Nat) (this_taped : Int32) (this_size : Int32) (this_sort : Nat) (this_place : Nat) (this_value : Nat) (this_at : Int32) (this_fault : Int32) (this_words : Nat) (this_towns : Nat) (this_op : Nat) (this_arg : Nat) (this_codes : Int32) (this_names : Nat) (this_readNames : Nat) (this_namesMany : Int32) (this_readMany : Int32) (this_once : Int32) (this_lines : Nat) (this_facts : Nat) (this_pile : Nat) (this_state : Nat) (this_undos : Int32) (this_isMarked : Nat) (this_weight : Int32) (this_rounding : Int32) (this_lacks : Nat) (this_alikes : Nat) (this_g : Int64) : va_W := [(this, .inr (10, [.int this_thrown, .ref this_tape, .int this_taped, .int this_size, .ref this_sort, .ref this_place, .ref this_value, .int this_at, .int this_fault, .ref this_words, .ref this_towns, .ref this_op, .ref this_arg, .int this_codes, .ref this_names, .ref this_readNames, .int this_namesMany, .int this_readMany, .int this_once, .ref this_lines, .ref this_facts, .ref this_pile, .ref this_state, .int this_undos, .ref this_isMarked, .int this_weight, .int this_rounding, .ref this_lacks, .ref this_alikes, .long this_g]))]
set_option maxHeartbeats 4000000 in
set_option maxRecDepth 100000 in
theorem c_X12_thrown (l : Launch) (D : va_G) (k : Nat → ClassId) (this : Nat) (this_thrown : Int32) (this_tape : Nat) (this_taped : Int32) (this_size : Int32) (this_sort : Nat) (this_place : Nat) (this_value : Nat) (this_at : Int32) (this_fault : Int32) (this_words : Nat) (this_towns : Nat) (this_op : Nat) (this_arg : Nat) (this_codes : Int32) (this_names : Nat) (this_readNames : Nat) (this_namesMany : Int32) (this_readMany : Int32) (this_once : Int32) (this_lines : Nat) (this_facts : Nat) (this_pile : Nat) (this_state : Nat) (this_undos : Int32) (this_isMarked : Nat) (this_weight : Int32) (this_rounding : Int32) (this_lacks : Nat) (this_alikes : Nat) (this_g : Int64) (R0 : Int32) (hm : m_X12_thrown this_thrown = some R0) : CR l D (TY k) yX12_thrown cX12_thrown 1 (some .int) 0 0 [.ref this] (wd_X12_thrown k this this_thrown this_tape this_taped this_size this_sort this_place this_value this_at this_fault this_words this_towns this_op this_arg this_codes this_names this_readNames this_namesMany this_readMany this_once this_lines this_facts this_pile this_state this_undos this_isMarked this_weight this_rounding this_lacks this_alikes this_g) (some (.int R0)) := by
  refine CR.mk (by decide) (Nat.le_of_ble_eq_true rfl) ?_
  intro p e s m args below meth c ls ⟨hx, hb, hr, hts, hown, hlocks, hml⟩ hP hG hl
  have hl : lv_has ls 1 [(0, .ref this)] := hl
  unfold m_X12_thrown at hm
  refine lv_aload_n (pc := 0) hx hb dX12_thrown_0 rfl (lv_at hl 0 rfl) ?_
  refine va_get (pc := 1) (D := D) (ci := 10) (C := RX12) (T := TX12) (N := 30) hx hb hts hiX12 hown hG.1 hP 0 rfl rfl 0 (Nat.le_of_ble_eq_true rfl) (hts _ kw_1257) (fun _ h9 => h9) rfl dX12_thrown_1 ?_
  rw [← Option.some.inj hm]
  exact W.iret hx hb hr (fun t ht _ => ⟨rfl, ht⟩) (fun _ h => by cases h) dX12_thrown_4 hlocks
theorem dX12_lay_0 : decode cX12_lay 0 = .ok (.bipush 56, 2) := by decide +kernel
theorem dX12_lay_2 : decode cX12_lay 2 = .ok (.istore_n 3, 1) := by decide +kernel
theorem dX12_lay_3 : decode cX12_lay 3 = .ok (.iload_n 3, 1) := by decide +kernel
theorem dX12_lay_4 : decode cX12_lay 4 = .ok (.ifCond .lt 71, 3) := by decide +kernel
theorem dX12_lay_7 : decode cX12_lay 7 = .ok (.lload_n 1, 1) := by decide +kernel
theorem dX12_lay_8 : decode cX12_lay 8 = .ok (.iload_n 3, 1) := by decide +kernel
theorem dX12_lay_9 : decode cX12_lay 9 = .ok (.lshr, 1) := by decide +kernel
theorem dX12_lay_10 : decode cX12_lay 10 = .ok (.l2i, 1) := by decide +kernel
theorem dX12_lay_11 : decode cX12_lay 11 = .ok (.sipush 255, 3) := by decide +kernel
theorem dX12_lay_14 : decode cX12_lay 14 = .ok (.iand, 1) := by decide +kernel
theorem dX12_lay_15 : decode cX12_lay 15 = .ok (.istore 4, 2) := by decide +kernel
theorem dX12_lay_17 : decode cX12_lay 17 = .ok (.iload 4, 2) := by decide +kernel
theorem dX12_lay_19 : decode cX12_lay 19 = .ok (.bipush 10, 2) := by decide +kernel
theorem dX12_lay_21 : decode cX12_lay 21 = .ok (.if_icmp .eq 17, 3) := by decide +kernel
theorem dX12_lay_24 : decode cX12_lay 24 = .ok (.iload 4, 2) := by decide +kernel
theorem dX12_lay_26 : decode cX12_lay 26 = .ok (.bipush 32, 2) := by decide +kernel
theorem dX12_lay_28 : decode cX12_lay 28 = .ok (.if_icmp .lt 41, 3) := by decide +kernel
theorem dX12_lay_31 : decode cX12_lay 31 = .ok (.iload 4, 2) := by decide +kernel
theorem dX12_lay_33 : decode cX12_lay 33 = .ok (.bipush 126, 2) := by decide +kernel
theorem dX12_lay_35 : decode cX12_lay 35 = .ok (.if_icmp .gt 34, 3) := by decide +kernel
theorem dX12_lay_38 : decode cX12_lay 38 = .ok (.aload_n 0, 1) := by decide +kernel
theorem dX12_lay_39 : decode cX12_lay 39 = .ok (.getfield 11, 3) := by decide +kernel
theorem dX12_lay_42 : decode cX12_lay 42 = .ok (.sipush 1000, 3) := by decide +kernel
theorem dX12_lay_45 : decode cX12_lay 45 = .ok (.if_icmp .ge 24, 3) := by decide +kernel
theorem dX12_lay_48 : decode cX12_lay 48 = .ok (.aload_n 0, 1) := by decide +kernel
theorem dX12_lay_49 : decode cX12_lay 49 = .ok (.getfield 14, 3) := by decide +kernel
theorem dX12_lay_52 : decode cX12_lay 52 = .ok (.aload_n 0, 1) := by decide +kernel
theorem dX12_lay_53 : decode cX12_lay 53 = .ok (.getfield 11, 3) := by decide +kernel
theorem dX12_lay_56 : decode cX12_lay 56 = .ok (.iload 4, 2) := by decide +kernel
theorem dX12_lay_58 : decode cX12_lay 58 = .ok (.iastore, 1) := by decide +kernel
theorem dX12_lay_59 : decode cX12_lay 59 = .ok (.aload_n 0, 1) := by decide +kernel
theorem dX12_lay_60 : decode cX12_lay 60 = .ok (.dup, 1) := by decide +kernel
theorem dX12_lay_61 : decode cX12_lay 61 = .ok (.getfield 11, 3) := by decide +kernel
theorem dX12_lay_64 : decode cX12_lay 64 = .ok (.iconst 1, 1) := by decide +kernel
theorem dX12_lay_65 : decode cX12_lay 65 = .ok (.iadd, 1) := by decide +kernel
theorem dX12_lay_66 : decode cX12_lay 66 = .ok (.putfield 11, 3) := by decide +kernel
theorem dX12_lay_69 : decode cX12_lay 69 = .ok (.iinc 3 (-8), 3) := by decide +kernel
theorem dX12_lay_72 : decode cX12_lay 72 = .ok (.goto (-69), 3) := by decide +kernel
theorem dX12_lay_75 : decode cX12_lay 75 = .ok (.return_, 1) := by decide +kernel
abbrev wd_X12_lay (k : Nat → ClassId) (this : Nat) (this_thrown : Int32) (this_tape : Nat) (this_tape_f : Nat → Int32) (this_taped : Int32) (this_size : Int32) (this_sort : Nat) (this_place : Nat) (this_value : Nat) (this_at : Int32) (this_fault : Int32) (this_words : Nat) (this_towns : Nat) (this_op : Nat) (this_arg : Nat) (this_codes : Int32) (this_names : Nat) (this_readNames : Nat) (this_namesMany : Int32) (this_readMany : Int32) (this_once : Int32) (this_lines : Nat) (this_facts : Nat) (this_pile : Nat) (this_state : Nat) (this_undos : Int32) (this_isMarked : Nat) (this_weight : Int32) (this_rounding : Int32) (this_lacks : Nat) (this_alikes : Nat) (this_g : Int64) : va_W := [(this, .inr (10, [.int this_thrown, .ref this_tape, .int this_taped, .int this_size, .ref this_sort, .ref this_place, .ref this_value, .int this_at, .int this_fault, .ref this_words, .ref this_towns, .ref this_op, .ref this_arg, .int this_codes, .ref this_names, .ref this_readNames, .int this_namesMany, .int this_readMany, .int this_once, .ref this_lines, .ref this_facts, .ref this_pile, .ref this_state, .int this_undos, .ref this_isMarked, .int this_weight, .int this_rounding, .ref this_lacks, .ref this_alikes, .long this_g])), (this_tape, .inl (k 0, 1000, .inl this_tape_f))]
set_option maxHeartbeats 4000000 in
set_option maxRecDepth 100000 in
theorem c_X12_lay (l : Launch) (D : va_G) (k : Nat → ClassId) (this : Nat) (this_thrown : Int32) (this_tape : Nat) (this_tape_f : Nat → Int32) (this_taped : Int32) (this_size : Int32) (this_sort : Nat) (this_place : Nat) (this_value : Nat) (this_at : Int32) (this_fault : Int32) (this_words : Nat) (this_towns : Nat) (this_op : Nat) (this_arg : Nat) (this_codes : Int32) (this_names : Nat) (this_readNames : Nat) (this_namesMany : Int32) (this_readMany : Int32) (this_once : Int32) (this_lines : Nat) (this_facts : Nat) (this_pile : Nat) (this_state : Nat) (this_undos : Int32) (this_isMarked : Nat) (this_weight : Int32) (this_rounding : Int32) (this_lacks : Nat) (this_alikes : Nat) (this_g : Int64) (q1 : Int64) (R0 : Int32 × (Nat → Int32)) (hm : m_X12_lay this_tape_f this_taped q1 = some R0) : CW l D (TY k) yX12_lay cX12_lay 5 none 0 0 [.ref this, .long q1] (wd_X12_lay k this this_thrown this_tape this_tape_f this_taped this_size this_sort this_place this_value this_at this_fault this_words this_towns this_op this_arg this_codes this_names this_readNames this_namesMany this_readMany this_once this_lines this_facts this_pile this_state this_undos this_isMarked this_weight this_rounding this_lacks this_alikes this_g) none (wd_X12_lay k this this_thrown this_tape R0.2 R0.1 this_size this_sort this_place this_value this_at this_fault this_words this_towns this_op this_arg this_codes this_names this_readNames this_namesMany this_readMany this_once this_lines this_facts this_pile this_state this_undos this_isMarked this_weight this_rounding this_lacks this_alikes this_g) := by
  refine CW.mk (by decide) (Nat.le_of_ble_eq_true rfl) ?_
  intro p e s m args below meth c ls A ⟨hx, hb, hr, hts, hown, hlocks, hml⟩ hP hG hD hA hl hS hq
  have hl : lv_has ls 5 [(0, .ref this), (1, .long q1)] := hl
  have h_38 : ∀ (K3 : Int64 → Int32 → Int32 → (Nat → Int32) → Option (Int32 × (Nat → Int32))) (hK3 : ∀ (x1 : Int64) (x3 : Int32) (u_this_taped : Int32) (u_this_tape_f : Nat → Int32) (H : Heap) (locs : List Loc) (ls : Array Slot), va_P D vwCl (wd_X12_lay k this this_thrown this_tape u_this_tape_f u_this_taped this_size this_sort this_place this_value this_at this_fault this_words this_towns this_op this_arg this_codes this_names this_readNames this_namesMany this_readMany this_once this_lines this_facts this_pile this_state this_undos this_isMarked this_weight this_rounding this_lacks this_alikes this_g) H → va_D A (wd_X12_lay k this this_thrown this_tape u_this_tape_f u_this_taped this_size this_sort this_place this_value this_at this_fault this_words this_towns this_op this_arg this_codes this_names this_readNames this_namesMany this_readMany this_once this_lines this_facts this_pile this_state this_undos this_isMarked this_weight this_rounding this_lacks this_alikes this_g) → va_S A s.heap H locs → lv_has ls 5 [(0, .ref this), (1, .long x1), (3, .int x3)] → K3 x1 x3 u_this_taped u_this_tape_f = some R0 → W p l e (Rm 0 0) s m args below meth c H locs 0 0 (MQ below (QW D none (wd_X12_lay k this this_thrown this_tape this_tape_f this_taped this_size this_sort this_place this_value this_at this_fault this_words this_towns this_op this_arg this_codes this_names this_readNames this_namesMany this_readMany this_once this_lines this_facts this_pile this_state this_undos this_isMarked this_weight this_rounding this_lacks this_alikes this_g) (wd_X12_lay k this this_thrown this_tape R0.2 R0.1 this_size this_sort this_place this_value this_at this_fault this_words this_towns this_op this_arg this_codes this_names this_readNames this_namesMany this_readMany this_once this_lines this_facts this_pile this_state this_undos this_isMarked this_weight this_rounding this_lacks this_alikes this_g) s.heap.size) args s 0 0 A) (F0 m 3 ls [])), ∀ (x1 : Int64) (x3 : Int32) (x4 : Int32) (u_this_taped : Int32) (u_this_tape_f : Nat → Int32) (H : Heap) (locs : List Loc) (ls : Array Slot), va_P D vwCl (wd_X12_lay k this this_thrown this_tape u_this_tape_f u_this_taped this_size this_sort this_place this_value this_at this_fault this_words this_towns this_op this_arg this_codes this_names this_readNames this_namesMany this_readMany this_once this_lines this_facts this_pile this_state this_undos this_isMarked this_weight this_rounding this_lacks this_alikes this_g) H → va_D A (wd_X12_lay k this this_thrown this_tape u_this_tape_f u_this_taped this_size this_sort this_place this_value this_at this_fault this_words this_towns this_op this_arg this_codes this_names this_readNames this_namesMany this_readMany this_once this_lines this_facts this_pile this_state this_undos this_isMarked this_weight this_rounding this_lacks this_alikes this_g) → va_S A s.heap H locs → lv_has ls 5 [(0, .ref this), (1, .long x1), (3, .int x3), (4, .int x4)] → m_X12_lay_38 q1 K3 x1 x3 x4 u_this_taped u_this_tape_f = some R0 → W p l e (Rm 0 0) s m args below meth c H locs 0 0 (MQ below (QW D none (wd_X12_lay k this this_thrown this_tape this_tape_f this_taped this_size this_sort this_place this_value this_at this_fault this_words this_towns this_op this_arg this_codes this_names this_readNames this_namesMany this_readMany this_once this_lines this_facts this_pile this_state this_undos this_isMarked this_weight this_rounding this_lacks this_alikes this_g) (wd_X12_lay k this this_thrown this_tape R0.2 R0.1 this_size this_sort this_place this_value this_at this_fault this_words this_towns this_op this_arg this_codes this_names this_readNames this_namesMany this_readMany this_once this_lines this_facts this_pile this_state this_undos this_isMarked this_weight this_rounding this_lacks this_alikes this_g) s.heap.size) args s 0 0 A) (F0 m 38 ls []) := by
    intro K3 hK3 x1 x3 x4 u_this_taped u_this_tape_f H locs ls hP hD hS hl hm
    unfold m_X12_lay_38 at hm
    refine lv_aload_n (pc := 38) hx hb dX12_lay_38 rfl (lv_at hl 0 rfl) ?_
    refine va_get (pc := 39) (D := D) (ci := 10) (C := RX12) (T := TX12) (N := 30) hx hb hts hiX12 hown hG.1 hP 0 rfl rfl 2 (Nat.le_of_ble_eq_true rfl) (hts _ kw_1259) (fun _ h9 => h9) rfl dX12_lay_39 ?_
    refine lv_sipush (v := 1000) (pc := 42) hx hb dX12_lay_42 (by decide) ?_
    refine lv_icmp_ge (tgt := 69) (pc := 45) hx hb dX12_lay_45 (by decide) (fun hc => ?_) (fun hc => ?_)
    · rw [if_pos hc] at hm
      refine lv_iinc (k := 2) (v := x3 + (-8)) (lv' := [(3, .int (x3 + (-8))), (0, .ref this), (1, .long x1), (4, .int x4)]) (pc := 69) hx hb dX12_lay_69 hl rfl rfl (Nat.le_of_ble_eq_true rfl) rfl (fun ls hl => ?_)
      refine lv_goto (tgt := 3) (pc := 72) hx hb dX12_lay_72 (by decide) ?_
      exact hK3 x1 (x3 + (-8)) u_this_taped u_this_tape_f H locs ls hP hD hS (lv_sub hl [1, 2, 0] rfl) hm
    · rw [if_neg hc] at hm
      refine lv_aload_n (pc := 48) hx hb dX12_lay_48 rfl (lv_at hl 0 rfl) ?_
      refine va_get (pc := 49) (D := D) (ci := 10) (C := RX12) (T := TX12) (N := 30) hx hb hts hiX12 hown hG.1 hP 0 rfl rfl 1 (Nat.le_of_ble_eq_true rfl) (hts _ kw_1258) (fun _ h9 => h9) rfl dX12_lay_49 ?_
      refine lv_aload_n (pc := 52) hx hb dX12_lay_52 rfl (lv_at hl 0 rfl) ?_
      refine va_get (pc := 53) (D := D) (ci := 10) (C := RX12) (T := TX12) (N := 30) hx hb hts hiX12 hown hG.1 hP 0 rfl rfl 2 (Nat.le_of_ble_eq_true rfl) (hts _ kw_1259) (fun _ h9 => h9) rfl dX12_lay_53 ?_
      refine lv_iload (pc := 56) hx hb dX12_lay_56 (lv_at hl 3 rfl) ?_
      obtain ⟨hin, hm⟩ := gd hm
      refine va_iast (pc := 58) (D := D) hx hb hG.1 hP hD hS 1 0 rfl rfl hin dX12_lay_58 (fun H locs hP hD hS => ?_)
      have hP : va_P D vwCl (wd_X12_lay k this this_thrown this_tape (upd u_this_tape_f u_this_taped.toNatClampNeg x4) u_this_taped this_size this_sort this_place this_value this_at this_fault this_words this_towns this_op this_arg this_codes this_names this_readNames this_namesMany this_readMany this_once this_lines this_facts this_pile this_state this_undos this_isMarked this_weight this_rounding this_lacks this_alikes this_g) H := hP
      have hD : va_D A (wd_X12_lay k this this_thrown this_tape (upd u_this_tape_f u_this_taped.toNatClampNeg x4) u_this_taped this_size this_sort this_place this_value this_at this_fault this_words this_towns this_op this_arg this_codes this_names this_readNames this_namesMany this_readMany this_once this_lines this_facts this_pile this_state this_undos this_isMarked this_weight this_rounding this_lacks this_alikes this_g) := hD
      refine lv_aload_n (pc := 59) hx hb dX12_lay_59 rfl (lv_at hl 0 rfl) ?_
      refine lv_dup (pc := 60) hx hb dX12_lay_60 rfl ?_
      refine va_get (pc := 61) (D := D) (ci := 10) (C := RX12) (T := TX12) (N := 30) hx hb hts hiX12 hown hG.1 hP 0 rfl rfl 2 (Nat.le_of_ble_eq_true rfl) (hts _ kw_1259) (fun _ h9 => h9) rfl dX12_lay_61 ?_
      refine lv_iconst (v := 1) (pc := 64) hx hb dX12_lay_64 (by decide) ?_
      refine lv_iadd (pc := 65) hx hb dX12_lay_65 ?_
      refine va_put (pc := 66) (D := D) (ci := 10) (v := .int (u_this_taped + 1)) (ty := .int) (C := RX12) (T := TX12) (N := 30) hx hb hts hiX12 tyX12 tyX12_ok nmX12 hown hG.1 hP hD hS 0 rfl rfl 2 (Nat.le_of_ble_eq_true rfl) (hts _ kw_1259) (fun _ h9 => h9) rfl (by decide +kernel) rfl rfl (Nat.le_of_ble_eq_true rfl) dX12_lay_66 (fun H locs hP hD hS => ?_)
      have hP : va_P D vwCl (wd_X12_lay k this this_thrown this_tape (upd u_this_tape_f u_this_taped.toNatClampNeg x4) (u_this_taped + 1) this_size this_sort this_place this_value this_at this_fault this_words this_towns this_op this_arg this_codes this_names this_readNames this_namesMany this_readMany this_once this_lines this_facts this_pile this_state this_undos this_isMarked this_weight this_rounding this_lacks this_alikes this_g) H := hP
      have hD : va_D A (wd_X12_lay k this this_thrown this_tape (upd u_this_tape_f u_this_taped.toNatClampNeg x4) (u_this_taped + 1) this_size this_sort this_place this_value this_at this_fault this_words this_towns this_op this_arg this_codes this_names this_readNames this_namesMany this_readMany this_once this_lines this_facts this_pile this_state this_undos this_isMarked this_weight this_rounding this_lacks this_alikes this_g) := hD
      refine lv_iinc (k := 2) (v := x3 + (-8)) (lv' := [(3, .int (x3 + (-8))), (0, .ref this), (1, .long x1), (4, .int x4)]) (pc := 69) hx hb dX12_lay_69 hl rfl rfl (Nat.le_of_ble_eq_true rfl) rfl (fun ls hl => ?_)
      refine lv_goto (tgt := 3) (pc := 72) hx hb dX12_lay_72 (by decide) ?_
      exact hK3 x1 (x3 + (-8)) (u_this_taped + 1) (upd u_this_tape_f u_this_taped.toNatClampNeg x4) H locs ls hP hD hS (lv_sub hl [1, 2, 0] rfl) hm
  have h_3 : ∀ (n : Nat), ∀ (x1 : Int64) (x3 : Int32) (u_this_taped : Int32) (u_this_tape_f : Nat → Int32) (H : Heap) (locs : List Loc) (ls : Array Slot), va_P D vwCl (wd_X12_lay k this this_thrown this_tape u_this_tape_f u_this_taped this_size this_sort this_place this_value this_at this_fault this_words this_towns this_op this_arg this_codes this_names this_readNames this_namesMany this_readMany this_once this_lines this_facts this_pile this_state this_undos this_isMarked this_weight this_rounding this_lacks this_alikes this_g) H → va_D A (wd_X12_lay k this this_thrown this_tape u_this_tape_f u_this_taped this_size this_sort this_place this_value this_at this_fault this_words this_towns this_op this_arg this_codes this_names this_readNames this_namesMany this_readMany this_once this_lines this_facts this_pile this_state this_undos this_isMarked this_weight this_rounding this_lacks this_alikes this_g) → va_S A s.heap H locs → lv_has ls 5 [(0, .ref this), (1, .long x1), (3, .int x3)] → m_X12_lay_3 q1 n x1 x3 u_this_taped u_this_tape_f = some R0 → W p l e (Rm 0 0) s m args below meth c H locs 0 0 (MQ below (QW D none (wd_X12_lay k this this_thrown this_tape this_tape_f this_taped this_size this_sort this_place this_value this_at this_fault this_words this_towns this_op this_arg this_codes this_names this_readNames this_namesMany this_readMany this_once this_lines this_facts this_pile this_state this_undos this_isMarked this_weight this_rounding this_lacks this_alikes this_g) (wd_X12_lay k this this_thrown this_tape R0.2 R0.1 this_size this_sort this_place this_value this_at this_fault this_words this_towns this_op this_arg this_codes this_names this_readNames this_namesMany this_readMany this_once this_lines this_facts this_pile this_state this_undos this_isMarked this_weight this_rounding this_lacks this_alikes this_g) s.heap.size) args s 0 0 A) (F0 m 3 ls []) := by
    intro n
    induction n with
    | zero => intro x1 x3 u_this_taped u_this_tape_f H locs ls hP hD hS hl hm; cases hm
    | succ n ih =>
      intro x1 x3 u_this_taped u_this_tape_f H locs ls hP hD hS hl hm
      unfold m_X12_lay_3 at hm
      refine lv_iload_n (pc := 3) hx hb dX12_lay_3 rfl (lv_at hl 2 rfl) ?_
      refine lv_if_lt (tgt := 75) (pc := 4) hx hb dX12_lay_4 (by decide) (fun hc => ?_) (fun hc => ?_)
      · rw [if_pos hc] at hm
        rw [← Option.some.inj hm]
        exact W.vret hx hb hr (fun t ht _ => hq _ _ H t ht hP hD locs hS) hS.2.2 dX12_lay_75 hlocks
      · rw [if_neg hc] at hm
        refine lv_lload_n (pc := 7) hx hb dX12_lay_7 rfl (lv_at hl 1 rfl) ?_
        refine lv_iload_n (pc := 8) hx hb dX12_lay_8 rfl (lv_at hl 2 rfl) ?_
        refine lv_lshr (pc := 9) hx hb dX12_lay_9 rfl ?_
        refine lv_l2i (pc := 10) hx hb dX12_lay_10 rfl ?_
        refine lv_sipush (v := 255) (pc := 11) hx hb dX12_lay_11 (by decide) ?_
        refine lv_iand (pc := 14) hx hb dX12_lay_14 ?_
        obtain ⟨z2, hv, hm⟩ := bd hm
        refine lv_topi (fun w ew => ?_)
        obtain rfl : z2 = w := (Option.some.inj hv).symm.trans ew.symm
        refine lv_istore (lv' := [(4, .int z2), (0, .ref this), (1, .long x1), (3, .int x3)]) (pc := 15) hx hb dX12_lay_15 hl (Nat.le_of_ble_eq_true rfl) rfl (fun ls hl => ?_)
        refine lv_iload (pc := 17) hx hb dX12_lay_17 (lv_at hl 0 rfl) ?_
        refine lv_bipush (v := 10) (pc := 19) hx hb dX12_lay_19 (by decide) ?_
        refine lv_icmp_eq (tgt := 38) (pc := 21) hx hb dX12_lay_21 (by decide) (fun hc => ?_) (fun hc => ?_)
        · rw [if_pos hc] at hm
          exact h_38 (m_X12_lay_3 q1 n) ih x1 x3 z2 u_this_taped u_this_tape_f H locs ls hP hD hS (lv_sub hl [1, 2, 3, 0] rfl) hm
        · rw [if_neg hc] at hm
          refine lv_iload (pc := 24) hx hb dX12_lay_24 (lv_at hl 0 rfl) ?_
          refine lv_bipush (v := 32) (pc := 26) hx hb dX12_lay_26 (by decide) ?_
          refine lv_icmp_lt (tgt := 69) (pc := 28) hx hb dX12_lay_28 (by decide) (fun hc => ?_) (fun hc => ?_)
          · rw [if_pos hc] at hm
            refine lv_iinc (k := 3) (v := x3 + (-8)) (lv' := [(3, .int (x3 + (-8))), (4, .int z2), (0, .ref this), (1, .long x1)]) (pc := 69) hx hb dX12_lay_69 hl rfl rfl (Nat.le_of_ble_eq_true rfl) rfl (fun ls hl => ?_)
            refine lv_goto (tgt := 3) (pc := 72) hx hb dX12_lay_72 (by decide) ?_
            exact ih x1 (x3 + (-8)) u_this_taped u_this_tape_f H locs ls hP hD hS (lv_sub hl [2, 3, 0] rfl) hm
          · rw [if_neg hc] at hm
            refine lv_iload (pc := 31) hx hb dX12_lay_31 (lv_at hl 0 rfl) ?_
            refine lv_bipush (v := 126) (pc := 33) hx hb dX12_lay_33 (by decide) ?_
            refine lv_icmp_gt (tgt := 69) (pc := 35) hx hb dX12_lay_35 (by decide) (fun hc => ?_) (fun hc => ?_)
            · rw [if_pos hc] at hm
              refine lv_iinc (k := 3) (v := x3 + (-8)) (lv' := [(3, .int (x3 + (-8))), (4, .int z2), (0, .ref this), (1, .long x1)]) (pc := 69) hx hb dX12_lay_69 hl rfl rfl (Nat.le_of_ble_eq_true rfl) rfl (fun ls hl => ?_)
              refine lv_goto (tgt := 3) (pc := 72) hx hb dX12_lay_72 (by decide) ?_
              exact ih x1 (x3 + (-8)) u_this_taped u_this_tape_f H locs ls hP hD hS (lv_sub hl [2, 3, 0] rfl) hm
            · rw [if_neg hc] at hm
              exact h_38 (m_X12_lay_3 q1 n) ih x1 x3 z2 u_this_taped u_this_tape_f H locs ls hP hD hS (lv_sub hl [1, 2, 3, 0] rfl) hm
  unfold m_X12_lay at hm
  suffices hgo : ∀ (H : Heap) (locs : List Loc), va_P D vwCl (wd_X12_lay k this this_thrown this_tape this_tape_f this_taped this_size this_sort this_place this_value this_at this_fault this_words this_towns this_op this_arg this_codes this_names this_readNames this_namesMany this_readMany this_once this_lines this_facts this_pile this_state this_undos this_isMarked this_weight this_rounding this_lacks this_alikes this_g) H → va_D A (wd_X12_lay k this this_thrown this_tape this_tape_f this_taped this_size this_sort this_place this_value this_at this_fault this_words this_towns this_op this_arg this_codes this_names this_readNames this_namesMany this_readMany this_once this_lines this_facts this_pile this_state this_undos this_isMarked this_weight this_rounding this_lacks this_alikes this_g) → va_S A s.heap H locs → W p l e (Rm 0 0) s m args below meth c H locs 0 0 (MQ below (QW D none (wd_X12_lay k this this_thrown this_tape this_tape_f this_taped this_size this_sort this_place this_value this_at this_fault this_words this_towns this_op this_arg this_codes this_names this_readNames this_namesMany this_readMany this_once this_lines this_facts this_pile this_state this_undos this_isMarked this_weight this_rounding this_lacks this_alikes this_g) (wd_X12_lay k this this_thrown this_tape R0.2 R0.1 this_size this_sort this_place this_value this_at this_fault this_words this_towns this_op this_arg this_codes this_names this_readNames this_namesMany this_readMany this_once this_lines this_facts this_pile this_state this_undos this_isMarked this_weight this_rounding this_lacks this_alikes this_g) s.heap.size) args s 0 0 A) (F0 m 0 ls []) from hgo _ _ hP hD hS
  clear hP hD hS
  intro H locs hP hD hS
  refine lv_bipush (v := 56) (pc := 0) hx hb dX12_lay_0 (by decide) ?_
  refine lv_istore_n (lv' := [(3, .int 56), (0, .ref this), (1, .long q1)]) (pc := 2) hx hb dX12_lay_2 rfl hl (Nat.le_of_ble_eq_true rfl) rfl (fun ls hl => ?_)
  exact h_3 FU q1 56 this_taped this_tape_f H locs ls hP hD hS (lv_sub hl [1, 2, 0] rfl) hm
theorem dX12_feed_0 : decode cX12_feed 0 = .ok (.aload_n 0, 1) := by decide +kernel
theorem dX12_feed_1 : decode cX12_feed 1 = .ok (.iconst 0, 1) := by decide +kernel
theorem dX12_feed_2 : decode cX12_feed 2 = .ok (.putfield 1, 3) := by decide +kernel
theorem dX12_feed_5 : decode cX12_feed 5 = .ok (.aload_n 0, 1) := by decide +kernel
theorem dX12_feed_6 : decode cX12_feed 6 = .ok (.lload_n 1, 1) := by decide +kernel
theorem dX12_feed_7 : decode cX12_feed 7 = .ok (.invokevirtual 7, 3) := by decide +kernel
theorem dX12_feed_10 : decode cX12_feed 10 = .ok (.aload_n 0, 1) := by decide +kernel
theorem dX12_feed_11 : decode cX12_feed 11 = .ok (.lload_n 3, 1) := by decide +kernel
theorem dX12_feed_12 : decode cX12_feed 12 = .ok (.invokevirtual 7, 3) := by decide +kernel
theorem dX12_feed_15 : decode cX12_feed 15 = .ok (.aload_n 0, 1) := by decide +kernel
theorem dX12_feed_16 : decode cX12_feed 16 = .ok (.lload 5, 2) := by decide +kernel
theorem dX12_feed_18 : decode cX12_feed 18 = .ok (.invokevirtual 7, 3) := by decide +kernel
theorem dX12_feed_21 : decode cX12_feed 21 = .ok (.aload_n 0, 1) := by decide +kernel
theorem dX12_feed_22 : decode cX12_feed 22 = .ok (.getfield 11, 3) := by decide +kernel
theorem dX12_feed_25 : decode cX12_feed 25 = .ok (.ireturn, 1) := by decide +kernel
abbrev wd_X12_feed (k : Nat → ClassId) (this : Nat) (this_thrown : Int32) (this_tape : Nat) (this_tape_f : Nat → Int32) (this_taped : Int32) (this_size : Int32) (this_sort : Nat) (this_place : Nat) (this_value : Nat) (this_at : Int32) (this_fault : Int32) (this_words : Nat) (this_towns : Nat) (this_op : Nat) (this_arg : Nat) (this_codes : Int32) (this_names : Nat) (this_readNames : Nat) (this_namesMany : Int32) (this_readMany : Int32) (this_once : Int32) (this_lines : Nat) (this_facts : Nat) (this_pile : Nat) (this_state : Nat) (this_undos : Int32) (this_isMarked : Nat) (this_weight : Int32) (this_rounding : Int32) (this_lacks : Nat) (this_alikes : Nat) (this_g : Int64) : va_W := [(this, .inr (10, [.int this_thrown, .ref this_tape, .int this_taped, .int this_size, .ref this_sort, .ref this_place, .ref this_value, .int this_at, .int this_fault, .ref this_words, .ref this_towns, .ref this_op, .ref this_arg, .int this_codes, .ref this_names, .ref this_readNames, .int this_namesMany, .int this_readMany, .int this_once, .ref this_lines, .ref this_facts, .ref this_pile, .ref this_state, .int this_undos, .ref this_isMarked, .int this_weight, .int this_rounding, .ref this_lacks, .ref this_alikes, .long this_g])), (this_tape, .inl (k 0, 1000, .inl this_tape_f))]
set_option maxHeartbeats 4000000 in
set_option maxRecDepth 100000 in
theorem c_X12_feed (l : Launch) (D : va_G) (k : Nat → ClassId) (this : Nat) (this_thrown : Int32) (this_tape : Nat) (this_tape_f : Nat → Int32) (this_taped : Int32) (this_size : Int32) (this_sort : Nat) (this_place : Nat) (this_value : Nat) (this_at : Int32) (this_fault : Int32) (this_words : Nat) (this_towns : Nat) (this_op : Nat) (this_arg : Nat) (this_codes : Int32) (this_names : Nat) (this_readNames : Nat) (this_namesMany : Int32) (this_readMany : Int32) (this_once : Int32) (this_lines : Nat) (this_facts : Nat) (this_pile : Nat) (this_state : Nat) (this_undos : Int32) (this_isMarked : Nat) (this_weight : Int32) (this_rounding : Int32) (this_lacks : Nat) (this_alikes : Nat) (this_g : Int64) (q1 : Int64) (q2 : Int64) (q3 : Int64) (R0 : Int32 × Int32 × Int32 × (Nat → Int32)) (hm : m_X12_feed this_tape_f this_taped q1 q2 q3 = some R0) : CW l D (TY k) yX12_feed cX12_feed 7 (some .int) 1 24 [.ref this, .long q1, .long q2, .long q3] (wd_X12_feed k this this_thrown this_tape this_tape_f this_taped this_size this_sort this_place this_value this_at this_fault this_words this_towns this_op this_arg this_codes this_names this_readNames this_namesMany this_readMany this_once this_lines this_facts this_pile this_state this_undos this_isMarked this_weight this_rounding this_lacks this_alikes this_g) (some (.int R0.1)) (wd_X12_feed k this R0.2.1 this_tape R0.2.2.2 R0.2.2.1 this_size this_sort this_place this_value this_at this_fault this_words this_towns this_op this_arg this_codes this_names this_readNames this_namesMany this_readMany this_once this_lines this_facts this_pile this_state this_undos this_isMarked this_weight this_rounding this_lacks this_alikes this_g) := by
  refine CW.mk (by decide) (Nat.le_of_ble_eq_true rfl) ?_
  intro p e s m args below meth c ls A ⟨hx, hb, hr, hts, hown, hlocks, hml⟩ hP hG hD hA hl hS hq
  have hl : lv_has ls 7 [(0, .ref this), (1, .long q1), (3, .long q2), (5, .long q3)] := hl
  unfold m_X12_feed at hm
  suffices hgo : ∀ (H : Heap) (locs : List Loc), va_P D vwCl (wd_X12_feed k this this_thrown this_tape this_tape_f this_taped this_size this_sort this_place this_value this_at this_fault this_words this_towns this_op this_arg this_codes this_names this_readNames this_namesMany this_readMany this_once this_lines this_facts this_pile this_state this_undos this_isMarked this_weight this_rounding this_lacks this_alikes this_g) H → va_D A (wd_X12_feed k this this_thrown this_tape this_tape_f this_taped this_size this_sort this_place this_value this_at this_fault this_words this_towns this_op this_arg this_codes this_names this_readNames this_namesMany this_readMany this_once this_lines this_facts this_pile this_state this_undos this_isMarked this_weight this_rounding this_lacks this_alikes this_g) → va_S A s.heap H locs → W p l e (Rm 1 24) s m args below meth c H locs 0 0 (MQ below (QW D (some (.int R0.1)) (wd_X12_feed k this this_thrown this_tape this_tape_f this_taped this_size this_sort this_place this_value this_at this_fault this_words this_towns this_op this_arg this_codes this_names this_readNames this_namesMany this_readMany this_once this_lines this_facts this_pile this_state this_undos this_isMarked this_weight this_rounding this_lacks this_alikes this_g) (wd_X12_feed k this R0.2.1 this_tape R0.2.2.2 R0.2.2.1 this_size this_sort this_place this_value this_at this_fault this_words this_towns this_op this_arg this_codes this_names this_readNames this_namesMany this_readMany this_once this_lines this_facts this_pile this_state this_undos this_isMarked this_weight this_rounding this_lacks this_alikes this_g) s.heap.size) args s 0 0 A) (F0 m 0 ls []) from hgo _ _ hP hD hS
  clear hP hD hS
  intro H locs hP hD hS
  refine lv_aload_n (pc := 0) hx hb dX12_feed_0 rfl (lv_at hl 0 rfl) ?_
  refine lv_iconst (v := 0) (pc := 1) hx hb dX12_feed_1 (by decide) ?_
  refine va_put (pc := 2) (D := D) (ci := 10) (v := .int 0) (ty := .int) (C := RX12) (T := TX12) (N := 30) hx hb hts hiX12 tyX12 tyX12_ok nmX12 hown hG.1 hP hD hS 0 rfl rfl 0 (Nat.le_of_ble_eq_true rfl) (hts _ kw_1257) (fun _ h9 => h9) rfl (by decide +kernel) rfl rfl (Nat.le_of_ble_eq_true rfl) dX12_feed_2 (fun H locs hP hD hS => ?_)
  have hP : va_P D vwCl (wd_X12_feed k this 0 this_tape this_tape_f this_taped this_size this_sort this_place this_value this_at this_fault this_words this_towns this_op this_arg this_codes this_names this_readNames this_namesMany this_readMany this_once this_lines this_facts this_pile this_state this_undos this_isMarked this_weight this_rounding this_lacks this_alikes this_g) H := hP
  have hD : va_D A (wd_X12_feed k this 0 this_tape this_tape_f this_taped this_size this_sort this_place this_value this_at this_fault this_words this_towns this_op this_arg this_codes this_names this_readNames this_namesMany this_readMany this_once this_lines this_facts this_pile this_state this_undos this_isMarked this_weight this_rounding this_lacks this_alikes this_g) := hD
  refine lv_aload_n (pc := 5) hx hb dX12_feed_5 rfl (lv_at hl 0 rfl) ?_
  refine lv_lload_n (pc := 6) hx hb dX12_feed_6 rfl (lv_at hl 1 rfl) ?_
  obtain ⟨r4, hcl, hm⟩ := bd hm
  refine cw_mask (ws' := (wd_X12_feed k this 0 this_tape r4.2 r4.1 this_size this_sort this_place this_value this_at this_fault this_words this_towns this_op this_arg this_codes this_names this_readNames this_namesMany this_readMany this_once this_lines this_facts this_pile this_state this_undos this_isMarked this_weight this_rounding this_lacks this_alikes this_g)) (run_V (pc := 7) (n := 1) (As := [.long q1]) (rest := []) ⟨hx, hb, hml, hown, hts⟩ ((c_X12_lay l D k this 0 this_tape this_tape_f this_taped this_size this_sort this_place this_value this_at this_fault this_words this_towns this_op this_arg this_codes this_names this_readNames this_namesMany this_readMany this_once this_lines this_facts this_pile this_state this_undos this_isMarked this_weight this_rounding this_lacks this_alikes this_g q1 r4 hcl) H.size) ⟨kw_1201, kw_16, by decide +kernel⟩ kw_1197 kw_1199 ks_92 ⟨Nat.le_of_ble_eq_true rfl, Nat.le_of_ble_eq_true rfl⟩ pw_blind (prW (P_pick [true, true] rfl hP) hG (D_pick [true, true] rfl hD)) (va_recv hG.1 hP (ci := 10) (q0 := 0) rfl rfl) rfl hl.1 rfl (Nat.le_of_ble_eq_true rfl) dX12_feed_7 ⟨Nat.zero_le _, Nat.zero_le _⟩) hP hD hS hA [true, true] rfl rfl rfl (fun H locs hP hD hS => ?_)
  refine lv_aload_n (pc := 10) hx hb dX12_feed_10 rfl (lv_at hl 0 rfl) ?_
  refine lv_lload_n (pc := 11) hx hb dX12_feed_11 rfl (lv_at hl 2 rfl) ?_
  obtain ⟨r5, hcl, hm⟩ := bd hm
  refine cw_mask (ws' := (wd_X12_feed k this 0 this_tape r5.2 r5.1 this_size this_sort this_place this_value this_at this_fault this_words this_towns this_op this_arg this_codes this_names this_readNames this_namesMany this_readMany this_once this_lines this_facts this_pile this_state this_undos this_isMarked this_weight this_rounding this_lacks this_alikes this_g)) (run_V (pc := 12) (n := 1) (As := [.long q2]) (rest := []) ⟨hx, hb, hml, hown, hts⟩ ((c_X12_lay l D k this 0 this_tape r4.2 r4.1 this_size this_sort this_place this_value this_at this_fault this_words this_towns this_op this_arg this_codes this_names this_readNames this_namesMany this_readMany this_once this_lines this_facts this_pile this_state this_undos this_isMarked this_weight this_rounding this_lacks this_alikes this_g q2 r5 hcl) H.size) ⟨kw_1201, kw_16, by decide +kernel⟩ kw_1197 kw_1199 ks_92 ⟨Nat.le_of_ble_eq_true rfl, Nat.le_of_ble_eq_true rfl⟩ pw_blind (prW (P_pick [true, true] rfl hP) hG (D_pick [true, true] rfl hD)) (va_recv hG.1 hP (ci := 10) (q0 := 0) rfl rfl) rfl hl.1 rfl (Nat.le_of_ble_eq_true rfl) dX12_feed_12 ⟨Nat.zero_le _, Nat.zero_le _⟩) hP hD hS hA [true, true] rfl rfl rfl (fun H locs hP hD hS => ?_)
  refine lv_aload_n (pc := 15) hx hb dX12_feed_15 rfl (lv_at hl 0 rfl) ?_
  refine lv_lload (pc := 16) hx hb dX12_feed_16 (lv_at hl 3 rfl) ?_
  obtain ⟨r6, hcl, hm⟩ := bd hm
  refine cw_mask (ws' := (wd_X12_feed k this 0 this_tape r6.2 r6.1 this_size this_sort this_place this_value this_at this_fault this_words this_towns this_op this_arg this_codes this_names this_readNames this_namesMany this_readMany this_once this_lines this_facts this_pile this_state this_undos this_isMarked this_weight this_rounding this_lacks this_alikes this_g)) (run_V (pc := 18) (n := 1) (As := [.long q3]) (rest := []) ⟨hx, hb, hml, hown, hts⟩ ((c_X12_lay l D k this 0 this_tape r5.2 r5.1 this_size this_sort this_place this_value this_at this_fault this_words this_towns this_op this_arg this_codes this_names this_readNames this_namesMany this_readMany this_once this_lines this_facts this_pile this_state this_undos this_isMarked this_weight this_rounding this_lacks this_alikes this_g q3 r6 hcl) H.size) ⟨kw_1201, kw_16, by decide +kernel⟩ kw_1197 kw_1199 ks_92 ⟨Nat.le_of_ble_eq_true rfl, Nat.le_of_ble_eq_true rfl⟩ pw_blind (prW (P_pick [true, true] rfl hP) hG (D_pick [true, true] rfl hD)) (va_recv hG.1 hP (ci := 10) (q0 := 0) rfl rfl) rfl hl.1 rfl (Nat.le_of_ble_eq_true rfl) dX12_feed_18 ⟨Nat.zero_le _, Nat.zero_le _⟩) hP hD hS hA [true, true] rfl rfl rfl (fun H locs hP hD hS => ?_)
  refine lv_aload_n (pc := 21) hx hb dX12_feed_21 rfl (lv_at hl 0 rfl) ?_
  refine va_get (pc := 22) (D := D) (ci := 10) (C := RX12) (T := TX12) (N := 30) hx hb hts hiX12 hown hG.1 hP 0 rfl rfl 2 (Nat.le_of_ble_eq_true rfl) (hts _ kw_1259) (fun _ h9 => h9) rfl dX12_feed_22 ?_
  rw [← Option.some.inj hm]
  exact W.iret hx hb hr (fun t ht _ => hq _ _ H t ht hP hD locs hS) hS.2.2 dX12_feed_25 hlocks
theorem dX12_standsAsAlways_0 : decode cX12_standsAsAlways 0 = .ok (.iconst 0, 1) := by decide +kernel
theorem dX12_standsAsAlways_1 : decode cX12_standsAsAlways 1 = .ok (.istore_n 2, 1) := by decide +kernel
theorem dX12_standsAsAlways_2 : decode cX12_standsAsAlways 2 = .ok (.iload_n 2, 1) := by decide +kernel
theorem dX12_standsAsAlways_3 : decode cX12_standsAsAlways 3 = .ok (.bipush 30, 2) := by decide +kernel
theorem dX12_standsAsAlways_5 : decode cX12_standsAsAlways 5 = .ok (.if_icmp .ge 18, 3) := by decide +kernel
theorem dX12_standsAsAlways_8 : decode cX12_standsAsAlways 8 = .ok (.aload_n 0, 1) := by decide +kernel
theorem dX12_standsAsAlways_9 : decode cX12_standsAsAlways 9 = .ok (.getfield 89, 3) := by decide +kernel
theorem dX12_standsAsAlways_12 : decode cX12_standsAsAlways 12 = .ok (.iload_n 1, 1) := by decide +kernel
theorem dX12_standsAsAlways_13 : decode cX12_standsAsAlways 13 = .ok (.iload_n 2, 1) := by decide +kernel
theorem dX12_standsAsAlways_14 : decode cX12_standsAsAlways 14 = .ok (.iadd, 1) := by decide +kernel
theorem dX12_standsAsAlways_15 : decode cX12_standsAsAlways 15 = .ok (.iconst 0, 1) := by decide +kernel
theorem dX12_standsAsAlways_16 : decode cX12_standsAsAlways 16 = .ok (.iastore, 1) := by decide +kernel
theorem dX12_standsAsAlways_17 : decode cX12_standsAsAlways 17 = .ok (.iinc 2 1, 3) := by decide +kernel
theorem dX12_standsAsAlways_20 : decode cX12_standsAsAlways 20 = .ok (.goto (-18), 3) := by decide +kernel
theorem dX12_standsAsAlways_23 : decode cX12_standsAsAlways 23 = .ok (.aload_n 0, 1) := by decide +kernel
theorem dX12_standsAsAlways_24 : decode cX12_standsAsAlways 24 = .ok (.getfield 89, 3) := by decide +kernel
theorem dX12_standsAsAlways_27 : decode cX12_standsAsAlways 27 = .ok (.iload_n 1, 1) := by decide +kernel
theorem dX12_standsAsAlways_28 : decode cX12_standsAsAlways 28 = .ok (.iconst 1, 1) := by decide +kernel
theorem dX12_standsAsAlways_29 : decode cX12_standsAsAlways 29 = .ok (.iadd, 1) := by decide +kernel
theorem dX12_standsAsAlways_30 : decode cX12_standsAsAlways 30 = .ok (.bipush 40, 2) := by decide +kernel
theorem dX12_standsAsAlways_32 : decode cX12_standsAsAlways 32 = .ok (.iastore, 1) := by decide +kernel
theorem dX12_standsAsAlways_33 : decode cX12_standsAsAlways 33 = .ok (.aload_n 0, 1) := by decide +kernel
theorem dX12_standsAsAlways_34 : decode cX12_standsAsAlways 34 = .ok (.getfield 89, 3) := by decide +kernel
theorem dX12_standsAsAlways_37 : decode cX12_standsAsAlways 37 = .ok (.iload_n 1, 1) := by decide +kernel
theorem dX12_standsAsAlways_38 : decode cX12_standsAsAlways 38 = .ok (.iconst 2, 1) := by decide +kernel
theorem dX12_standsAsAlways_39 : decode cX12_standsAsAlways 39 = .ok (.iadd, 1) := by decide +kernel
theorem dX12_standsAsAlways_40 : decode cX12_standsAsAlways 40 = .ok (.bipush 6, 2) := by decide +kernel
theorem dX12_standsAsAlways_42 : decode cX12_standsAsAlways 42 = .ok (.iastore, 1) := by decide +kernel
theorem dX12_standsAsAlways_43 : decode cX12_standsAsAlways 43 = .ok (.aload_n 0, 1) := by decide +kernel
theorem dX12_standsAsAlways_44 : decode cX12_standsAsAlways 44 = .ok (.getfield 89, 3) := by decide +kernel
theorem dX12_standsAsAlways_47 : decode cX12_standsAsAlways 47 = .ok (.iload_n 1, 1) := by decide +kernel
theorem dX12_standsAsAlways_48 : decode cX12_standsAsAlways 48 = .ok (.iconst 4, 1) := by decide +kernel
theorem dX12_standsAsAlways_49 : decode cX12_standsAsAlways 49 = .ok (.iadd, 1) := by decide +kernel
theorem dX12_standsAsAlways_50 : decode cX12_standsAsAlways 50 = .ok (.iconst (-1), 1) := by decide +kernel
theorem dX12_standsAsAlways_51 : decode cX12_standsAsAlways 51 = .ok (.iastore, 1) := by decide +kernel
theorem dX12_standsAsAlways_52 : decode cX12_standsAsAlways 52 = .ok (.return_, 1) := by decide +kernel
abbrev wd_X12_standsAsAlways (k : Nat → ClassId) (this : Nat) (this_thrown : Int32) (this_tape : Nat) (this_taped : Int32) (this_size : Int32) (this_sort : Nat) (this_place : Nat) (this_value : Nat) (this_at : Int32) (this_fault : Int32) (this_words : Nat) (this_towns : Nat) (this_towns_f : Nat → Int32) (this_op : Nat) (this_arg : Nat) (this_codes : Int32) (this_names : Nat) (this_readNames : Nat) (this_namesMany : Int32) (this_readMany : Int32) (this_once : Int32) (this_lines : Nat) (this_facts : Nat) (this_pile : Nat) (this_state : Nat) (this_undos : Int32) (this_isMarked : Nat) (this_weight : Int32) (this_rounding : Int32) (this_lacks : Nat) (this_alikes : Nat) (this_g : Int64) : va_W := [(this, .inr (10, [.int this_thrown, .ref this_tape, .int this_taped, .int this_size, .ref this_sort, .ref this_place, .ref this_value, .int this_at, .int this_fault, .ref this_words, .ref this_towns, .ref this_op, .ref this_arg, .int this_codes, .ref this_names, .ref this_readNames, .int this_namesMany, .int this_readMany, .int this_once, .ref this_lines, .ref this_facts, .ref this_pile, .ref this_state, .int this_undos, .ref this_isMarked, .int this_weight, .int this_rounding, .ref this_lacks, .ref this_alikes, .long this_g])), (this_towns, .inl (k 0, 60, .inl this_towns_f))]
set_option maxHeartbeats 4000000 in
set_option maxRecDepth 100000 in
theorem c_X12_standsAsAlways (l : Launch) (D : va_G) (k : Nat → ClassId) (this : Nat) (this_thrown : Int32) (this_tape : Nat) (this_taped : Int32) (this_size : Int32) (this_sort : Nat) (this_place : Nat) (this_value : Nat) (this_at : Int32) (this_fault : Int32) (this_words : Nat) (this_towns : Nat) (this_towns_f : Nat → Int32) (this_op : Nat) (this_arg : Nat) (this_codes : Int32) (this_names : Nat) (this_readNames : Nat) (this_namesMany : Int32) (this_readMany : Int32) (this_once : Int32) (this_lines : Nat) (this_facts : Nat) (this_pile : Nat) (this_state : Nat) (this_undos : Int32) (this_isMarked : Nat) (this_weight : Int32) (this_rounding : Int32) (this_lacks : Nat) (this_alikes : Nat) (this_g : Int64) (q1 : Int32) (R0 : (Nat → Int32)) (hm : m_X12_standsAsAlways this_towns_f q1 = some R0) : CW l D (TY k) yX12_standsAsAlways cX12_standsAsAlways 3 none 0 0 [.ref this, .int q1] (wd_X12_standsAsAlways k this this_thrown this_tape this_taped this_size this_sort this_place this_value this_at this_fault this_words this_towns this_towns_f this_op this_arg this_codes this_names this_readNames this_namesMany this_readMany this_once this_lines this_facts this_pile this_state this_undos this_isMarked this_weight this_rounding this_lacks this_alikes this_g) none (wd_X12_standsAsAlways k this this_thrown this_tape this_taped this_size this_sort this_place this_value this_at this_fault this_words this_towns R0 this_op this_arg this_codes this_names this_readNames this_namesMany this_readMany this_once this_lines this_facts this_pile this_state this_undos this_isMarked this_weight this_rounding this_lacks this_alikes this_g) := by
  refine CW.mk (by decide) (Nat.le_of_ble_eq_true rfl) ?_
  intro p e s m args below meth c ls A ⟨hx, hb, hr, hts, hown, hlocks, hml⟩ hP hG hD hA hl hS hq
  have hl : lv_has ls 3 [(0, .ref this), (1, .int q1)] := hl
  have h_2 : ∀ (n : Nat), ∀ (x2 : Int32) (u_this_towns_f : Nat → Int32) (H : Heap) (locs : List Loc) (ls : Array Slot), va_P D vwCl (wd_X12_standsAsAlways k this this_thrown this_tape this_taped this_size this_sort this_place this_value this_at this_fault this_words this_towns u_this_towns_f this_op this_arg this_codes this_names this_readNames this_namesMany this_readMany this_once this_lines this_facts this_pile this_state this_undos this_isMarked this_weight this_rounding this_lacks this_alikes this_g) H → va_D A (wd_X12_standsAsAlways k this this_thrown this_tape this_taped this_size this_sort this_place this_value this_at this_fault this_words this_towns u_this_towns_f this_op this_arg this_codes this_names this_readNames this_namesMany this_readMany this_once this_lines this_facts this_pile this_state this_undos this_isMarked this_weight this_rounding this_lacks this_alikes this_g) → va_S A s.heap H locs → lv_has ls 3 [(0, .ref this), (1, .int q1), (2, .int x2)] → m_X12_standsAsAlways_2 q1 n x2 u_this_towns_f = some R0 → W p l e (Rm 0 0) s m args below meth c H locs 0 0 (MQ below (QW D none (wd_X12_standsAsAlways k this this_thrown this_tape this_taped this_size this_sort this_place this_value this_at this_fault this_words this_towns this_towns_f this_op this_arg this_codes this_names this_readNames this_namesMany this_readMany this_once this_lines this_facts this_pile this_state this_undos this_isMarked this_weight this_rounding this_lacks this_alikes this_g) (wd_X12_standsAsAlways k this this_thrown this_tape this_taped this_size this_sort this_place this_value this_at this_fault this_words this_towns R0 this_op this_arg this_codes this_names this_readNames this_namesMany this_readMany this_once this_lines this_facts this_pile this_state this_undos this_isMarked this_weight this_rounding this_lacks this_alikes this_g) s.heap.size) args s 0 0 A) (F0 m 2 ls []) := by
    intro n
    induction n with
    | zero => intro x2 u_this_towns_f H locs ls hP hD hS hl hm; cases hm
    | succ n ih =>
      intro x2 u_this_towns_f H locs ls hP hD hS hl hm
      unfold m_X12_standsAsAlways_2 at hm
      refine lv_iload_n (pc := 2) hx hb dX12_standsAsAlways_2 rfl (lv_at hl 2 rfl) ?_
      refine lv_bipush (v := 30) (pc := 3) hx hb dX12_standsAsAlways_3 (by decide) ?_
      refine lv_icmp_ge (tgt := 23) (pc := 5) hx hb dX12_standsAsAlways_5 (by decide) (fun hc => ?_) (fun hc => ?_)
      · rw [if_pos hc] at hm
        refine lv_aload_n (pc := 23) hx hb dX12_standsAsAlways_23 rfl (lv_at hl 0 rfl) ?_
        refine va_get (pc := 24) (D := D) (ci := 10) (C := RX12) (T := TX12) (N := 30) hx hb hts hiX12 hown hG.1 hP 0 rfl rfl 10 (Nat.le_of_ble_eq_true rfl) (hts _ kw_1267) (fun _ h9 => h9) rfl dX12_standsAsAlways_24 ?_
        refine lv_iload_n (pc := 27) hx hb dX12_standsAsAlways_27 rfl (lv_at hl 1 rfl) ?_
        refine lv_iconst (v := 1) (pc := 28) hx hb dX12_standsAsAlways_28 (by decide) ?_
        refine lv_iadd (pc := 29) hx hb dX12_standsAsAlways_29 ?_
        refine lv_bipush (v := 40) (pc := 30) hx hb dX12_standsAsAlways_30 (by decide) ?_
        obtain ⟨hin, hm⟩ := gd hm
        refine va_iast (pc := 32) (D := D) hx hb hG.1 hP hD hS 1 0 rfl rfl hin dX12_standsAsAlways_32 (fun H locs hP hD hS => ?_)
        have hP : va_P D vwCl (wd_X12_standsAsAlways k this this_thrown this_tape this_taped this_size this_sort this_place this_value this_at this_fault this_words this_towns (upd u_this_towns_f (q1 + 1).toNatClampNeg 40) this_op this_arg this_codes this_names this_readNames this_namesMany this_readMany this_once this_lines this_facts this_pile this_state this_undos this_isMarked this_weight this_rounding this_lacks this_alikes this_g) H := hP
        have hD : va_D A (wd_X12_standsAsAlways k this this_thrown this_tape this_taped this_size this_sort this_place this_value this_at this_fault this_words this_towns (upd u_this_towns_f (q1 + 1).toNatClampNeg 40) this_op this_arg this_codes this_names this_readNames this_namesMany this_readMany this_once this_lines this_facts this_pile this_state this_undos this_isMarked this_weight this_rounding this_lacks this_alikes this_g) := hD
        refine lv_aload_n (pc := 33) hx hb dX12_standsAsAlways_33 rfl (lv_at hl 0 rfl) ?_
        refine va_get (pc := 34) (D := D) (ci := 10) (C := RX12) (T := TX12) (N := 30) hx hb hts hiX12 hown hG.1 hP 0 rfl rfl 10 (Nat.le_of_ble_eq_true rfl) (hts _ kw_1267) (fun _ h9 => h9) rfl dX12_standsAsAlways_34 ?_
        refine lv_iload_n (pc := 37) hx hb dX12_standsAsAlways_37 rfl (lv_at hl 1 rfl) ?_
        refine lv_iconst (v := 2) (pc := 38) hx hb dX12_standsAsAlways_38 (by decide) ?_
        refine lv_iadd (pc := 39) hx hb dX12_standsAsAlways_39 ?_
        refine lv_bipush (v := 6) (pc := 40) hx hb dX12_standsAsAlways_40 (by decide) ?_
        obtain ⟨hin, hm⟩ := gd hm
        refine va_iast (pc := 42) (D := D) hx hb hG.1 hP hD hS 1 0 rfl rfl hin dX12_standsAsAlways_42 (fun H locs hP hD hS => ?_)
        have hP : va_P D vwCl (wd_X12_standsAsAlways k this this_thrown this_tape this_taped this_size this_sort this_place this_value this_at this_fault this_words this_towns (upd (upd u_this_towns_f (q1 + 1).toNatClampNeg 40) (q1 + 2).toNatClampNeg 6) this_op this_arg this_codes this_names this_readNames this_namesMany this_readMany this_once this_lines this_facts this_pile this_state this_undos this_isMarked this_weight this_rounding this_lacks this_alikes this_g) H := hP
        have hD : va_D A (wd_X12_standsAsAlways k this this_thrown this_tape this_taped this_size this_sort this_place this_value this_at this_fault this_words this_towns (upd (upd u_this_towns_f (q1 + 1).toNatClampNeg 40) (q1 + 2).toNatClampNeg 6) this_op this_arg this_codes this_names this_readNames this_namesMany this_readMany this_once this_lines this_facts this_pile this_state this_undos this_isMarked this_weight this_rounding this_lacks this_alikes this_g) := hD
        refine lv_aload_n (pc := 43) hx hb dX12_standsAsAlways_43 rfl (lv_at hl 0 rfl) ?_
        refine va_get (pc := 44) (D := D) (ci := 10) (C := RX12) (T := TX12) (N := 30) hx hb hts hiX12 hown hG.1 hP 0 rfl rfl 10 (Nat.le_of_ble_eq_true rfl) (hts _ kw_1267) (fun _ h9 => h9) rfl dX12_standsAsAlways_44 ?_
        refine lv_iload_n (pc := 47) hx hb dX12_standsAsAlways_47 rfl (lv_at hl 1 rfl) ?_
        refine lv_iconst (v := 4) (pc := 48) hx hb dX12_standsAsAlways_48 (by decide) ?_
        refine lv_iadd (pc := 49) hx hb dX12_standsAsAlways_49 ?_
        refine lv_iconst (v := (-1)) (pc := 50) hx hb dX12_standsAsAlways_50 (by decide) ?_
        obtain ⟨hin, hm⟩ := gd hm
        refine va_iast (pc := 51) (D := D) hx hb hG.1 hP hD hS 1 0 rfl rfl hin dX12_standsAsAlways_51 (fun H locs hP hD hS => ?_)
        have hP : va_P D vwCl (wd_X12_standsAsAlways k this this_thrown this_tape this_taped this_size this_sort this_place this_value this_at this_fault this_words this_towns (upd (upd (upd u_this_towns_f (q1 + 1).toNatClampNeg 40) (q1 + 2).toNatClampNeg 6) (q1 + 4).toNatClampNeg (-1)) this_op this_arg this_codes this_names this_readNames this_namesMany this_readMany this_once this_lines this_facts this_pile this_state this_undos this_isMarked this_weight this_rounding this_lacks this_alikes this_g) H := hP
        have hD : va_D A (wd_X12_standsAsAlways k this this_thrown this_tape this_taped this_size this_sort this_place this_value this_at this_fault this_words this_towns (upd (upd (upd u_this_towns_f (q1 + 1).toNatClampNeg 40) (q1 + 2).toNatClampNeg 6) (q1 + 4).toNatClampNeg (-1)) this_op this_arg this_codes this_names this_readNames this_namesMany this_readMany this_once this_lines this_facts this_pile this_state this_undos this_isMarked this_weight this_rounding this_lacks this_alikes this_g) := hD
        rw [← Option.some.inj hm]
        exact W.vret hx hb hr (fun t ht _ => hq _ _ H t ht hP hD locs hS) hS.2.2 dX12_standsAsAlways_52 hlocks
      · rw [if_neg hc] at hm
        refine lv_aload_n (pc := 8) hx hb dX12_standsAsAlways_8 rfl (lv_at hl 0 rfl) ?_
        refine va_get (pc := 9) (D := D) (ci := 10) (C := RX12) (T := TX12) (N := 30) hx hb hts hiX12 hown hG.1 hP 0 rfl rfl 10 (Nat.le_of_ble_eq_true rfl) (hts _ kw_1267) (fun _ h9 => h9) rfl dX12_standsAsAlways_9 ?_
        refine lv_iload_n (pc := 12) hx hb dX12_standsAsAlways_12 rfl (lv_at hl 1 rfl) ?_
        refine lv_iload_n (pc := 13) hx hb dX12_standsAsAlways_13 rfl (lv_at hl 2 rfl) ?_
        refine lv_iadd (pc := 14) hx hb dX12_standsAsAlways_14 ?_
        refine lv_iconst (v := 0) (pc := 15) hx hb dX12_standsAsAlways_15 (by decide) ?_
        obtain ⟨hin, hm⟩ := gd hm
        refine va_iast (pc := 16) (D := D) hx hb hG.1 hP hD hS 1 0 rfl rfl hin dX12_standsAsAlways_16 (fun H locs hP hD hS => ?_)
        have hP : va_P D vwCl (wd_X12_standsAsAlways k this this_thrown this_tape this_taped this_size this_sort this_place this_value this_at this_fault this_words this_towns (upd u_this_towns_f (q1 + x2).toNatClampNeg 0) this_op this_arg this_codes this_names this_readNames this_namesMany this_readMany this_once this_lines this_facts this_pile this_state this_undos this_isMarked this_weight this_rounding this_lacks this_alikes this_g) H := hP
        have hD : va_D A (wd_X12_standsAsAlways k this this_thrown this_tape this_taped this_size this_sort this_place this_value this_at this_fault this_words this_towns (upd u_this_towns_f (q1 + x2).toNatClampNeg 0) this_op this_arg this_codes this_names this_readNames this_namesMany this_readMany this_once this_lines this_facts this_pile this_state this_undos this_isMarked this_weight this_rounding this_lacks this_alikes this_g) := hD
        refine lv_iinc (k := 2) (v := x2 + 1) (lv' := [(2, .int (x2 + 1)), (0, .ref this), (1, .int q1)]) (pc := 17) hx hb dX12_standsAsAlways_17 hl rfl rfl (Nat.le_of_ble_eq_true rfl) rfl (fun ls hl => ?_)
        refine lv_goto (tgt := 2) (pc := 20) hx hb dX12_standsAsAlways_20 (by decide) ?_
        exact ih (x2 + 1) (upd u_this_towns_f (q1 + x2).toNatClampNeg 0) H locs ls hP hD hS (lv_sub hl [1, 2, 0] rfl) hm
  unfold m_X12_standsAsAlways at hm
  suffices hgo : ∀ (H : Heap) (locs : List Loc), va_P D vwCl (wd_X12_standsAsAlways k this this_thrown this_tape this_taped this_size this_sort this_place this_value this_at this_fault this_words this_towns this_towns_f this_op this_arg this_codes this_names this_readNames this_namesMany this_readMany this_once this_lines this_facts this_pile this_state this_undos this_isMarked this_weight this_rounding this_lacks this_alikes this_g) H → va_D A (wd_X12_standsAsAlways k this this_thrown this_tape this_taped this_size this_sort this_place this_value this_at this_fault this_words this_towns this_towns_f this_op this_arg this_codes this_names this_readNames this_namesMany this_readMany this_once this_lines this_facts this_pile this_state this_undos this_isMarked this_weight this_rounding this_lacks this_alikes this_g) → va_S A s.heap H locs → W p l e (Rm 0 0) s m args below meth c H locs 0 0 (MQ below (QW D none (wd_X12_standsAsAlways k this this_thrown this_tape this_taped this_size this_sort this_place this_value this_at this_fault this_words this_towns this_towns_f this_op this_arg this_codes this_names this_readNames this_namesMany this_readMany this_once this_lines this_facts this_pile this_state this_undos this_isMarked this_weight this_rounding this_lacks this_alikes this_g) (wd_X12_standsAsAlways k this this_thrown this_tape this_taped this_size this_sort this_place this_value this_at this_fault this_words this_towns R0 this_op this_arg this_codes this_names this_readNames this_namesMany this_readMany this_once this_lines this_facts this_pile this_state this_undos this_isMarked this_weight this_rounding this_lacks this_alikes this_g) s.heap.size) args s 0 0 A) (F0 m 0 ls []) from hgo _ _ hP hD hS
  clear hP hD hS
  intro H locs hP hD hS
  refine lv_iconst (v := 0) (pc := 0) hx hb dX12_standsAsAlways_0 (by decide) ?_
  refine lv_istore_n (lv' := [(2, .int 0), (0, .ref this), (1, .int q1)]) (pc := 1) hx hb dX12_standsAsAlways_1 rfl hl (Nat.le_of_ble_eq_true rfl) rfl (fun ls hl => ?_)
  exact h_2 FU 0 this_towns_f H locs ls hP hD hS (lv_sub hl [1, 2, 0] rfl) hm
theorem dX12_rulesAsTold_0 : decode cX12_rulesAsTold 0 = .ok (.aload_n 0, 1) := by decide +kernel
theorem dX12_rulesAsTold_1 : decode cX12_rulesAsTold 1 = .ok (.aload_n 0, 1) := by decide +kernel
theorem dX12_rulesAsTold_2 : decode cX12_rulesAsTold 2 = .ok (.getfield 89, 3) := by decide +kernel
theorem dX12_rulesAsTold_5 : decode cX12_rulesAsTold 5 = .ok (.iconst 2, 1) := by decide +kernel
theorem dX12_rulesAsTold_6 : decode cX12_rulesAsTold 6 = .ok (.iaload, 1) := by decide +kernel
theorem dX12_rulesAsTold_7 : decode cX12_rulesAsTold 7 = .ok (.putfield 271, 3) := by decide +kernel
theorem dX12_rulesAsTold_10 : decode cX12_rulesAsTold 10 = .ok (.aload_n 0, 1) := by decide +kernel
theorem dX12_rulesAsTold_11 : decode cX12_rulesAsTold 11 = .ok (.aload_n 0, 1) := by decide +kernel
theorem dX12_rulesAsTold_12 : decode cX12_rulesAsTold 12 = .ok (.getfield 89, 3) := by decide +kernel
theorem dX12_rulesAsTold_15 : decode cX12_rulesAsTold 15 = .ok (.iconst 3, 1) := by decide +kernel
theorem dX12_rulesAsTold_16 : decode cX12_rulesAsTold 16 = .ok (.iaload, 1) := by decide +kernel
theorem dX12_rulesAsTold_17 : decode cX12_rulesAsTold 17 = .ok (.putfield 274, 3) := by decide +kernel
theorem dX12_rulesAsTold_20 : decode cX12_rulesAsTold 20 = .ok (.return_, 1) := by decide +kernel
abbrev wd_X12_rulesAsTold (k : Nat → ClassId) (this : Nat) (this_thrown : Int32) (this_tape : Nat) (this_taped : Int32) (this_size : Int32) (this_sort : Nat) (this_place : Nat) (this_value : Nat) (this_at : Int32) (this_fault : Int32) (this_words : Nat) (this_towns : Nat) (this_towns_f : Nat → Int32) (this_op : Nat) (this_arg : Nat) (this_codes : Int32) (this_names : Nat) (this_readNames : Nat) (this_namesMany : Int32) (this_readMany : Int32) (this_once : Int32) (this_lines : Nat) (this_facts : Nat) (this_pile : Nat) (this_state : Nat) (this_undos : Int32) (this_isMarked : Nat) (this_weight : Int32) (this_rounding : Int32) (this_lacks : Nat) (this_alikes : Nat) (this_g : Int64) : va_W := [(this, .inr (10, [.int this_thrown, .ref this_tape, .int this_taped, .int this_size, .ref this_sort, .ref this_place, .ref this_value, .int this_at, .int this_fault, .ref this_words, .ref this_towns, .ref this_op, .ref this_arg, .int this_codes, .ref this_names, .ref this_readNames, .int this_namesMany, .int this_readMany, .int this_once, .ref this_lines, .ref this_facts, .ref this_pile, .ref this_state, .int this_undos, .ref this_isMarked, .int this_weight, .int this_rounding, .ref this_lacks, .ref this_alikes, .long this_g])), (this_towns, .inl (k 0, 60, .inl this_towns_f))]
set_option maxHeartbeats 4000000 in
set_option maxRecDepth 100000 in
theorem c_X12_rulesAsTold (l : Launch) (D : va_G) (k : Nat → ClassId) (this : Nat) (this_thrown : Int32) (this_tape : Nat) (this_taped : Int32) (this_size : Int32) (this_sort : Nat) (this_place : Nat) (this_value : Nat) (this_at : Int32) (this_fault : Int32) (this_words : Nat) (this_towns : Nat) (this_towns_f : Nat → Int32) (this_op : Nat) (this_arg : Nat) (this_codes : Int32) (this_names : Nat) (this_readNames : Nat) (this_namesMany : Int32) (this_readMany : Int32) (this_once : Int32) (this_lines : Nat) (this_facts : Nat) (this_pile : Nat) (this_state : Nat) (this_undos : Int32) (this_isMarked : Nat) (this_weight : Int32) (this_rounding : Int32) (this_lacks : Nat) (this_alikes : Nat) (this_g : Int64) (R0 : Int32 × Int32) (hm : m_X12_rulesAsTold this_towns_f = some R0) : CW l D (TY k) yX12_rulesAsTold cX12_rulesAsTold 1 none 0 0 [.ref this] (wd_X12_rulesAsTold k this this_thrown this_tape this_taped this_size this_sort this_place this_value this_at this_fault this_words this_towns this_towns_f this_op this_arg this_codes this_names this_readNames this_namesMany this_readMany this_once this_lines this_facts this_pile this_state this_undos this_isMarked this_weight this_rounding this_lacks this_alikes this_g) none (wd_X12_rulesAsTold k this this_thrown this_tape this_taped this_size this_sort this_place this_value this_at this_fault this_words this_towns this_towns_f this_op this_arg this_codes this_names this_readNames this_namesMany this_readMany this_once this_lines this_facts this_pile this_state this_undos this_isMarked R0.1 R0.2 this_lacks this_alikes this_g) := by
  refine CW.mk (by decide) (Nat.le_of_ble_eq_true rfl) ?_
  intro p e s m args below meth c ls A ⟨hx, hb, hr, hts, hown, hlocks, hml⟩ hP hG hD hA hl hS hq
  have hl : lv_has ls 1 [(0, .ref this)] := hl
  unfold m_X12_rulesAsTold at hm
  suffices hgo : ∀ (H : Heap) (locs : List Loc), va_P D vwCl (wd_X12_rulesAsTold k this this_thrown this_tape this_taped this_size this_sort this_place this_value this_at this_fault this_words this_towns this_towns_f this_op this_arg this_codes this_names this_readNames this_namesMany this_readMany this_once this_lines this_facts this_pile this_state this_undos this_isMarked this_weight this_rounding this_lacks this_alikes this_g) H → va_D A (wd_X12_rulesAsTold k this this_thrown this_tape this_taped this_size this_sort this_place this_value this_at this_fault this_words this_towns this_towns_f this_op this_arg this_codes this_names this_readNames this_namesMany this_readMany this_once this_lines this_facts this_pile this_state this_undos this_isMarked this_weight this_rounding this_lacks this_alikes this_g) → va_S A s.heap H locs → W p l e (Rm 0 0) s m args below meth c H locs 0 0 (MQ below (QW D none (wd_X12_rulesAsTold k this this_thrown this_tape this_taped this_size this_sort this_place this_value this_at this_fault this_words this_towns this_towns_f this_op this_arg this_codes this_names this_readNames this_namesMany this_readMany this_once this_lines this_facts this_pile this_state this_undos this_isMarked this_weight this_rounding this_lacks this_alikes this_g) (wd_X12_rulesAsTold k this this_thrown this_tape this_taped this_size this_sort this_place this_value this_at this_fault this_words this_towns this_towns_f this_op this_arg this_codes this_names this_readNames this_namesMany this_readMany this_once this_lines this_facts this_pile this_state this_undos this_isMarked R0.1 R0.2 this_lacks this_alikes this_g) s.heap.size) args s 0 0 A) (F0 m 0 ls []) from hgo _ _ hP hD hS
  clear hP hD hS
  intro H locs hP hD hS
  refine lv_aload_n (pc := 0) hx hb dX12_rulesAsTold_0 rfl (lv_at hl 0 rfl) ?_
  refine lv_aload_n (pc := 1) hx hb dX12_rulesAsTold_1 rfl (lv_at hl 0 rfl) ?_
  refine va_get (pc := 2) (D := D) (ci := 10) (C := RX12) (T := TX12) (N := 30) hx hb hts hiX12 hown hG.1 hP 0 rfl rfl 10 (Nat.le_of_ble_eq_true rfl) (hts _ kw_1267) (fun _ h9 => h9) rfl dX12_rulesAsTold_2 ?_
  refine lv_iconst (v := 2) (pc := 5) hx hb dX12_rulesAsTold_5 (by decide) ?_
  refine va_iald (pc := 6) (D := D) hx hb hG.1 hP 1 0 rfl rfl (pn_in (Nat.le_of_ble_eq_true rfl) (Nat.le_of_ble_eq_true rfl)) dX12_rulesAsTold_6 ?_
  refine va_put (pc := 7) (D := D) (ci := 10) (v := .int (this_towns_f (2 : Int32).toNatClampNeg)) (ty := .int) (C := RX12) (T := TX12) (N := 30) hx hb hts hiX12 tyX12 tyX12_ok nmX12 hown hG.1 hP hD hS 0 rfl rfl 25 (Nat.le_of_ble_eq_true rfl) (hts _ kw_1282) (fun _ h9 => h9) rfl (by decide +kernel) rfl rfl (Nat.le_of_ble_eq_true rfl) dX12_rulesAsTold_7 (fun H locs hP hD hS => ?_)
  have hP : va_P D vwCl (wd_X12_rulesAsTold k this this_thrown this_tape this_taped this_size this_sort this_place this_value this_at this_fault this_words this_towns this_towns_f this_op this_arg this_codes this_names this_readNames this_namesMany this_readMany this_once this_lines this_facts this_pile this_state this_undos this_isMarked (this_towns_f (2 : Int32).toNatClampNeg) this_rounding this_lacks this_alikes this_g) H := hP
  have hD : va_D A (wd_X12_rulesAsTold k this this_thrown this_tape this_taped this_size this_sort this_place this_value this_at this_fault this_words this_towns this_towns_f this_op this_arg this_codes this_names this_readNames this_namesMany this_readMany this_once this_lines this_facts this_pile this_state this_undos this_isMarked (this_towns_f (2 : Int32).toNatClampNeg) this_rounding this_lacks this_alikes this_g) := hD
  refine lv_aload_n (pc := 10) hx hb dX12_rulesAsTold_10 rfl (lv_at hl 0 rfl) ?_
  refine lv_aload_n (pc := 11) hx hb dX12_rulesAsTold_11 rfl (lv_at hl 0 rfl) ?_
  refine va_get (pc := 12) (D := D) (ci := 10) (C := RX12) (T := TX12) (N := 30) hx hb hts hiX12 hown hG.1 hP 0 rfl rfl 10 (Nat.le_of_ble_eq_true rfl) (hts _ kw_1267) (fun _ h9 => h9) rfl dX12_rulesAsTold_12 ?_
  refine lv_iconst (v := 3) (pc := 15) hx hb dX12_rulesAsTold_15 (by decide) ?_
  refine va_iald (pc := 16) (D := D) hx hb hG.1 hP 1 0 rfl rfl (pn_in (Nat.le_of_ble_eq_true rfl) (Nat.le_of_ble_eq_true rfl)) dX12_rulesAsTold_16 ?_
  refine va_put (pc := 17) (D := D) (ci := 10) (v := .int (this_towns_f (3 : Int32).toNatClampNeg)) (ty := .int) (C := RX12) (T := TX12) (N := 30) hx hb hts hiX12 tyX12 tyX12_ok nmX12 hown hG.1 hP hD hS 0 rfl rfl 26 (Nat.le_of_ble_eq_true rfl) (hts _ kw_1283) (fun _ h9 => h9) rfl (by decide +kernel) rfl rfl (Nat.le_of_ble_eq_true rfl) dX12_rulesAsTold_17 (fun H locs hP hD hS => ?_)
  have hP : va_P D vwCl (wd_X12_rulesAsTold k this this_thrown this_tape this_taped this_size this_sort this_place this_value this_at this_fault this_words this_towns this_towns_f this_op this_arg this_codes this_names this_readNames this_namesMany this_readMany this_once this_lines this_facts this_pile this_state this_undos this_isMarked (this_towns_f (2 : Int32).toNatClampNeg) (this_towns_f (3 : Int32).toNatClampNeg) this_lacks this_alikes this_g) H := hP
  have hD : va_D A (wd_X12_rulesAsTold k this this_thrown this_tape this_taped this_size this_sort this_place this_value this_at this_fault this_words this_towns this_towns_f this_op this_arg this_codes this_names this_readNames this_namesMany this_readMany this_once this_lines this_facts this_pile this_state this_undos this_isMarked (this_towns_f (2 : Int32).toNatClampNeg) (this_towns_f (3 : Int32).toNatClampNeg) this_lacks this_alikes this_g) := hD
  rw [← Option.some.inj hm]
  exact W.vret hx hb hr (fun t ht _ => hq _ _ H t ht hP hD locs hS) hS.2.2 dX12_rulesAsTold_20 hlocks
theorem dX12_persons_0 : decode cX12_persons 0 = .ok (.aload_n 0, 1) := by decide +kernel
theorem dX12_persons_1 : decode cX12_persons 1 = .ok (.getfield 89, 3) := by decide +kernel
theorem dX12_persons_4 : decode cX12_persons 4 = .ok (.iconst 0, 1) := by decide +kernel
theorem dX12_persons_5 : decode cX12_persons 5 = .ok (.iaload, 1) := by decide +kernel
theorem dX12_persons_6 : decode cX12_persons 6 = .ok (.ireturn, 1) := by decide +kernel
abbrev wd_X12_persons (k : Nat → ClassId) (this : Nat) (this_thrown : Int32) (this_tape : Nat) (this_taped : Int32) (this_size : Int32) (this_sort : Nat) (this_place : Nat) (this_value : Nat) (this_at : Int32) (this_fault : Int32) (this_words : Nat) (this_towns : Nat) (this_towns_f : Nat → Int32) (this_op : Nat) (this_arg : Nat) (this_codes : Int32) (this_names : Nat) (this_readNames : Nat) (this_namesMany : Int32) (this_readMany : Int32) (this_once : Int32) (this_lines : Nat) (this_facts : Nat) (this_pile : Nat) (this_state : Nat) (this_undos : Int32) (this_isMarked : Nat) (this_weight : Int32) (this_rounding : Int32) (this_lacks : Nat) (this_alikes : Nat) (this_g : Int64) : va_W := [(this, .inr (10, [.int this_thrown, .ref this_tape, .int this_taped, .int this_size, .ref this_sort, .ref this_place, .ref this_value, .int this_at, .int this_fault, .ref this_words, .ref this_towns, .ref this_op, .ref this_arg, .int this_codes, .ref this_names, .ref this_readNames, .int this_namesMany, .int this_readMany, .int this_once, .ref this_lines, .ref this_facts, .ref this_pile, .ref this_state, .int this_undos, .ref this_isMarked, .int this_weight, .int this_rounding, .ref this_lacks, .ref this_alikes, .long this_g])), (this_towns, .inl (k 0, 60, .inl this_towns_f))]
set_option maxHeartbeats 4000000 in
set_option maxRecDepth 100000 in
theorem c_X12_persons (l : Launch) (D : va_G) (k : Nat → ClassId) (this : Nat) (this_thrown : Int32) (this_tape : Nat) (this_taped : Int32) (this_size : Int32) (this_sort : Nat) (this_place : Nat) (this_value : Nat) (this_at : Int32) (this_fault : Int32) (this_words : Nat) (this_towns : Nat) (this_towns_f : Nat → Int32) (this_op : Nat) (this_arg : Nat) (this_codes : Int32) (this_names : Nat) (this_readNames : Nat) (this_namesMany : Int32) (this_readMany : Int32) (this_once : Int32) (this_lines : Nat) (this_facts : Nat) (this_pile : Nat) (this_state : Nat) (this_undos : Int32) (this_isMarked : Nat) (this_weight : Int32) (this_rounding : Int32) (this_lacks : Nat) (this_alikes : Nat) (this_g : Int64) (R0 : Int32) (hm : m_X12_persons this_towns_f = some R0) : CR l D (TY k) yX12_persons cX12_persons 1 (some .int) 0 0 [.ref this] (wd_X12_persons k this this_thrown this_tape this_taped this_size this_sort this_place this_value this_at this_fault this_words this_towns this_towns_f this_op this_arg this_codes this_names this_readNames this_namesMany this_readMany this_once this_lines this_facts this_pile this_state this_undos this_isMarked this_weight this_rounding this_lacks this_alikes this_g) (some (.int R0)) := by
  refine CR.mk (by decide) (Nat.le_of_ble_eq_true rfl) ?_
  intro p e s m args below meth c ls ⟨hx, hb, hr, hts, hown, hlocks, hml⟩ hP hG hl
  have hl : lv_has ls 1 [(0, .ref this)] := hl
  unfold m_X12_persons at hm
  refine lv_aload_n (pc := 0) hx hb dX12_persons_0 rfl (lv_at hl 0 rfl) ?_
  refine va_get (pc := 1) (D := D) (ci := 10) (C := RX12) (T := TX12) (N := 30) hx hb hts hiX12 hown hG.1 hP 0 rfl rfl 10 (Nat.le_of_ble_eq_true rfl) (hts _ kw_1267) (fun _ h9 => h9) rfl dX12_persons_1 ?_
  refine lv_iconst (v := 0) (pc := 4) hx hb dX12_persons_4 (by decide) ?_
  refine va_iald (pc := 5) (D := D) hx hb hG.1 hP 1 0 rfl rfl (pn_in (Nat.le_of_ble_eq_true rfl) (Nat.le_of_ble_eq_true rfl)) dX12_persons_5 ?_
  rw [← Option.some.inj hm]
  exact W.iret hx hb hr (fun t ht _ => ⟨rfl, ht⟩) (fun _ h => by cases h) dX12_persons_6 hlocks
theorem dX12_personOf_0 : decode cX12_personOf 0 = .ok (.aload_n 0, 1) := by decide +kernel
theorem dX12_personOf_1 : decode cX12_personOf 1 = .ok (.getfield 89, 3) := by decide +kernel
theorem dX12_personOf_4 : decode cX12_personOf 4 = .ok (.iconst 5, 1) := by decide +kernel
theorem dX12_personOf_5 : decode cX12_personOf 5 = .ok (.iconst 3, 1) := by decide +kernel
theorem dX12_personOf_6 : decode cX12_personOf 6 = .ok (.iload_n 1, 1) := by decide +kernel
theorem dX12_personOf_7 : decode cX12_personOf 7 = .ok (.imul, 1) := by decide +kernel
theorem dX12_personOf_8 : decode cX12_personOf 8 = .ok (.iadd, 1) := by decide +kernel
theorem dX12_personOf_9 : decode cX12_personOf 9 = .ok (.iload_n 2, 1) := by decide +kernel
theorem dX12_personOf_10 : decode cX12_personOf 10 = .ok (.iadd, 1) := by decide +kernel
theorem dX12_personOf_11 : decode cX12_personOf 11 = .ok (.iaload, 1) := by decide +kernel
theorem dX12_personOf_12 : decode cX12_personOf 12 = .ok (.ireturn, 1) := by decide +kernel
abbrev wd_X12_personOf (k : Nat → ClassId) (this : Nat) (this_thrown : Int32) (this_tape : Nat) (this_taped : Int32) (this_size : Int32) (this_sort : Nat) (this_place : Nat) (this_value : Nat) (this_at : Int32) (this_fault : Int32) (this_words : Nat) (this_towns : Nat) (this_towns_f : Nat → Int32) (this_op : Nat) (this_arg : Nat) (this_codes : Int32) (this_names : Nat) (this_readNames : Nat) (this_namesMany : Int32) (this_readMany : Int32) (this_once : Int32) (this_lines : Nat) (this_facts : Nat) (this_pile : Nat) (this_state : Nat) (this_undos : Int32) (this_isMarked : Nat) (this_weight : Int32) (this_rounding : Int32) (this_lacks : Nat) (this_alikes : Nat) (this_g : Int64) : va_W := [(this, .inr (10, [.int this_thrown, .ref this_tape, .int this_taped, .int this_size, .ref this_sort, .ref this_place, .ref this_value, .int this_at, .int this_fault, .ref this_words, .ref this_towns, .ref this_op, .ref this_arg, .int this_codes, .ref this_names, .ref this_readNames, .int this_namesMany, .int this_readMany, .int this_once, .ref this_lines, .ref this_facts, .ref this_pile, .ref this_state, .int this_undos, .ref this_isMarked, .int this_weight, .int this_rounding, .ref this_lacks, .ref this_alikes, .long this_g])), (this_towns, .inl (k 0, 60, .inl this_towns_f))]
set_option maxHeartbeats 4000000 in
set_option maxRecDepth 100000 in
theorem c_X12_personOf (l : Launch) (D : va_G) (k : Nat → ClassId) (this : Nat) (this_thrown : Int32) (this_tape : Nat) (this_taped : Int32) (this_size : Int32) (this_sort : Nat) (this_place : Nat) (this_value : Nat) (this_at : Int32) (this_fault : Int32) (this_words : Nat) (this_towns : Nat) (this_towns_f : Nat → Int32) (this_op : Nat) (this_arg : Nat) (this_codes : Int32) (this_names : Nat) (this_readNames : Nat) (this_namesMany : Int32) (this_readMany : Int32) (this_once : Int32) (this_lines : Nat) (this_facts : Nat) (this_pile : Nat) (this_state : Nat) (this_undos : Int32) (this_isMarked : Nat) (this_weight : Int32) (this_rounding : Int32) (this_lacks : Nat) (this_alikes : Nat) (this_g : Int64) (q1 : Int32) (q2 : Int32) (R0 : Int32) (hm : m_X12_personOf this_towns_f q1 q2 = some R0) : CR l D (TY k) yX12_personOf cX12_personOf 3 (some .int) 0 0 [.ref this, .int q1, .int q2] (wd_X12_personOf k this this_thrown this_tape this_taped this_size this_sort this_place this_value this_at this_fault this_words this_towns this_towns_f this_op this_arg this_codes this_names this_readNames this_namesMany this_readMany this_once this_lines this_facts this_pile this_state this_undos this_isMarked this_weight this_rounding this_lacks this_alikes this_g) (some (.int R0)) := by
  refine CR.mk (by decide) (Nat.le_of_ble_eq_true rfl) ?_
  intro p e s m args below meth c ls ⟨hx, hb, hr, hts, hown, hlocks, hml⟩ hP hG hl
  have hl : lv_has ls 3 [(0, .ref this), (1, .int q1), (2, .int q2)] := hl
  unfold m_X12_personOf at hm
  refine lv_aload_n (pc := 0) hx hb dX12_personOf_0 rfl (lv_at hl 0 rfl) ?_
  refine va_get (pc := 1) (D := D) (ci := 10) (C := RX12) (T := TX12) (N := 30) hx hb hts hiX12 hown hG.1 hP 0 rfl rfl 10 (Nat.le_of_ble_eq_true rfl) (hts _ kw_1267) (fun _ h9 => h9) rfl dX12_personOf_1 ?_
  refine lv_iconst (v := 5) (pc := 4) hx hb dX12_personOf_4 (by decide) ?_
  refine lv_iconst (v := 3) (pc := 5) hx hb dX12_personOf_5 (by decide) ?_
  refine lv_iload_n (pc := 6) hx hb dX12_personOf_6 rfl (lv_at hl 1 rfl) ?_
  refine lv_imul (pc := 7) hx hb dX12_personOf_7 ?_
  refine lv_iadd (pc := 8) hx hb dX12_personOf_8 ?_
  refine lv_iload_n (pc := 9) hx hb dX12_personOf_9 rfl (lv_at hl 2 rfl) ?_
  refine lv_iadd (pc := 10) hx hb dX12_personOf_10 ?_
  obtain ⟨hin, hm⟩ := gd hm
  refine va_iald (pc := 11) (D := D) hx hb hG.1 hP 1 0 rfl rfl hin dX12_personOf_11 ?_
  rw [← Option.some.inj hm]
  exact W.iret hx hb hr (fun t ht _ => ⟨rfl, ht⟩) (fun _ h => by cases h) dX12_personOf_12 hlocks
theorem dX12_starts_0 : decode cX12_starts 0 = .ok (.iconst 0, 1) := by decide +kernel
theorem dX12_starts_1 : decode cX12_starts 1 = .ok (.istore_n 2, 1) := by decide +kernel
theorem dX12_starts_2 : decode cX12_starts 2 = .ok (.iload_n 2, 1) := by decide +kernel
theorem dX12_starts_3 : decode cX12_starts 3 = .ok (.bipush 13, 2) := by decide +kernel
theorem dX12_starts_5 : decode cX12_starts 5 = .ok (.if_icmp .ge 18, 3) := by decide +kernel
theorem dX12_starts_8 : decode cX12_starts 8 = .ok (.aload_n 0, 1) := by decide +kernel
theorem dX12_starts_9 : decode cX12_starts 9 = .ok (.getfield 113, 3) := by decide +kernel
theorem dX12_starts_12 : decode cX12_starts 12 = .ok (.iload_n 1, 1) := by decide +kernel
theorem dX12_starts_13 : decode cX12_starts 13 = .ok (.iload_n 2, 1) := by decide +kernel
theorem dX12_starts_14 : decode cX12_starts 14 = .ok (.iadd, 1) := by decide +kernel
theorem dX12_starts_15 : decode cX12_starts 15 = .ok (.iconst 0, 1) := by decide +kernel
theorem dX12_starts_16 : decode cX12_starts 16 = .ok (.iastore, 1) := by decide +kernel
theorem dX12_starts_17 : decode cX12_starts 17 = .ok (.iinc 2 1, 3) := by decide +kernel
theorem dX12_starts_20 : decode cX12_starts 20 = .ok (.goto (-18), 3) := by decide +kernel
theorem dX12_starts_23 : decode cX12_starts 23 = .ok (.iconst 0, 1) := by decide +kernel
theorem dX12_starts_24 : decode cX12_starts 24 = .ok (.istore_n 2, 1) := by decide +kernel
theorem dX12_starts_25 : decode cX12_starts 25 = .ok (.iload_n 2, 1) := by decide +kernel
theorem dX12_starts_26 : decode cX12_starts 26 = .ok (.aload_n 0, 1) := by decide +kernel
theorem dX12_starts_27 : decode cX12_starts 27 = .ok (.invokevirtual 255, 3) := by decide +kernel
theorem dX12_starts_30 : decode cX12_starts 30 = .ok (.if_icmp .ge 42, 3) := by decide +kernel
theorem dX12_starts_33 : decode cX12_starts 33 = .ok (.aload_n 0, 1) := by decide +kernel
theorem dX12_starts_34 : decode cX12_starts 34 = .ok (.getfield 113, 3) := by decide +kernel
theorem dX12_starts_37 : decode cX12_starts 37 = .ok (.iload_n 1, 1) := by decide +kernel
theorem dX12_starts_38 : decode cX12_starts 38 = .ok (.iconst 1, 1) := by decide +kernel
theorem dX12_starts_39 : decode cX12_starts 39 = .ok (.iadd, 1) := by decide +kernel
theorem dX12_starts_40 : decode cX12_starts 40 = .ok (.iload_n 2, 1) := by decide +kernel
theorem dX12_starts_41 : decode cX12_starts 41 = .ok (.iadd, 1) := by decide +kernel
theorem dX12_starts_42 : decode cX12_starts 42 = .ok (.aload_n 0, 1) := by decide +kernel
theorem dX12_starts_43 : decode cX12_starts 43 = .ok (.iload_n 2, 1) := by decide +kernel
theorem dX12_starts_44 : decode cX12_starts 44 = .ok (.iconst 1, 1) := by decide +kernel
theorem dX12_starts_45 : decode cX12_starts 45 = .ok (.invokevirtual 259, 3) := by decide +kernel
theorem dX12_starts_48 : decode cX12_starts 48 = .ok (.iastore, 1) := by decide +kernel
theorem dX12_starts_49 : decode cX12_starts 49 = .ok (.aload_n 0, 1) := by decide +kernel
theorem dX12_starts_50 : decode cX12_starts 50 = .ok (.getfield 113, 3) := by decide +kernel
theorem dX12_starts_53 : decode cX12_starts 53 = .ok (.iload_n 1, 1) := by decide +kernel
theorem dX12_starts_54 : decode cX12_starts 54 = .ok (.bipush 7, 2) := by decide +kernel
theorem dX12_starts_56 : decode cX12_starts 56 = .ok (.iadd, 1) := by decide +kernel
theorem dX12_starts_57 : decode cX12_starts 57 = .ok (.iload_n 2, 1) := by decide +kernel
theorem dX12_starts_58 : decode cX12_starts 58 = .ok (.iadd, 1) := by decide +kernel
theorem dX12_starts_59 : decode cX12_starts 59 = .ok (.aload_n 0, 1) := by decide +kernel
theorem dX12_starts_60 : decode cX12_starts 60 = .ok (.iload_n 2, 1) := by decide +kernel
theorem dX12_starts_61 : decode cX12_starts 61 = .ok (.iconst 2, 1) := by decide +kernel
theorem dX12_starts_62 : decode cX12_starts 62 = .ok (.invokevirtual 259, 3) := by decide +kernel
theorem dX12_starts_65 : decode cX12_starts 65 = .ok (.iastore, 1) := by decide +kernel
theorem dX12_starts_66 : decode cX12_starts 66 = .ok (.iinc 2 1, 3) := by decide +kernel
theorem dX12_starts_69 : decode cX12_starts 69 = .ok (.goto (-44), 3) := by decide +kernel
theorem dX12_starts_72 : decode cX12_starts 72 = .ok (.return_, 1) := by decide +kernel
abbrev wd_X12_starts (k : Nat → ClassId) (this : Nat) (this_thrown : Int32) (this_tape : Nat) (this_taped : Int32) (this_size : Int32) (this_sort : Nat) (this_place : Nat) (this_value : Nat) (this_at : Int32) (this_fault : Int32) (this_words : Nat) (this_towns : Nat) (this_towns_f : Nat → Int32) (this_op : Nat) (this_arg : Nat) (this_codes : Int32) (this_names : Nat) (this_readNames : Nat) (this_namesMany : Int32) (this_readMany : Int32) (this_once : Int32) (this_lines : Nat) (this_facts : Nat) (this_pile : Nat) (this_state : Nat) (this_state_f : Nat → Int32) (this_undos : Int32) (this_isMarked : Nat) (this_weight : Int32) (this_rounding : Int32) (this_lacks : Nat) (this_alikes : Nat) (this_g : Int64) : va_W := [(this, .inr (10, [.int this_thrown, .ref this_tape, .int this_taped, .int this_size, .ref this_sort, .ref this_place, .ref this_value, .int this_at, .int this_fault, .ref this_words, .ref this_towns, .ref this_op, .ref this_arg, .int this_codes, .ref this_names, .ref this_readNames, .int this_namesMany, .int this_readMany, .int this_once, .ref this_lines, .ref this_facts, .ref this_pile, .ref this_state, .int this_undos, .ref this_isMarked, .int this_weight, .int this_rounding, .ref this_lacks, .ref this_alikes, .long this_g])), (this_towns, .inl (k 0, 60, .inl this_towns_f)), (this_state, .inl (k 0, 1104, .inl this_state_f))]
set_option maxHeartbeats 4000000 in
set_option maxRecDepth 100000 in
theorem c_X12_starts (l : Launch) (D : va_G) (k : Nat → ClassId) (this : Nat) (this_thrown : Int32) (this_tape : Nat) (this_taped : Int32) (this_size : Int32) (this_sort : Nat) (this_place : Nat) (this_value : Nat) (this_at : Int32) (this_fault : Int32) (this_words : Nat) (this_towns : Nat) (this_towns_f : Nat → Int32) (this_op : Nat) (this_arg : Nat) (this_codes : Int32) (this_names : Nat) (this_readNames : Nat) (this_namesMany : Int32) (this_readMany : Int32) (this_once : Int32) (this_lines : Nat) (this_facts : Nat) (this_pile : Nat) (this_state : Nat) (this_state_f : Nat → Int32) (this_undos : Int32) (this_isMarked : Nat) (this_weight : Int32) (this_rounding : Int32) (this_lacks : Nat) (this_alikes : Nat) (this_g : Int64) (q1 : Int32) (R0 : (Nat → Int32)) (hm : m_X12_starts this_towns_f this_state_f q1 = some R0) : CW l D (TY k) yX12_starts cX12_starts 3 none 1 22 [.ref this, .int q1] (wd_X12_starts k this this_thrown this_tape this_taped this_size this_sort this_place this_value this_at this_fault this_words this_towns this_towns_f this_op this_arg this_codes this_names this_readNames this_namesMany this_readMany this_once this_lines this_facts this_pile this_state this_state_f this_undos this_isMarked this_weight this_rounding this_lacks this_alikes this_g) none (wd_X12_starts k this this_thrown this_tape this_taped this_size this_sort this_place this_value this_at this_fault this_words this_towns this_towns_f this_op this_arg this_codes this_names this_readNames this_namesMany this_readMany this_once this_lines this_facts this_pile this_state R0 this_undos this_isMarked this_weight this_rounding this_lacks this_alikes this_g) := by
  refine CW.mk (by decide) (Nat.le_of_ble_eq_true rfl) ?_
  intro p e s m args below meth c ls A ⟨hx, hb, hr, hts, hown, hlocks, hml⟩ hP hG hD hA hl hS hq
  have hl : lv_has ls 3 [(0, .ref this), (1, .int q1)] := hl
  have h_25 : ∀ (n : Nat), ∀ (x2 : Int32) (u_this_state_f : Nat → Int32) (H : Heap) (locs : List Loc) (ls : Array Slot), va_P D vwCl (wd_X12_starts k this this_thrown this_tape this_taped this_size this_sort this_place this_value this_at this_fault this_words this_towns this_towns_f this_op this_arg this_codes this_names this_readNames this_namesMany this_readMany this_once this_lines this_facts this_pile this_state u_this_state_f this_undos this_isMarked this_weight this_rounding this_lacks this_alikes this_g) H → va_D A (wd_X12_starts k this this_thrown this_tape this_taped this_size this_sort this_place this_value this_at this_fault this_words this_towns this_towns_f this_op this_arg this_codes this_names this_readNames this_namesMany this_readMany this_once this_lines this_facts this_pile this_state u_this_state_f this_undos this_isMarked this_weight this_rounding this_lacks this_alikes this_g) → va_S A s.heap H locs → lv_has ls 3 [(0, .ref this), (1, .int q1), (2, .int x2)] → m_X12_starts_25 this_towns_f q1 n x2 u_this_state_f = some R0 → W p l e (Rm 1 22) s m args below meth c H locs 0 0 (MQ below (QW D none (wd_X12_starts k this this_thrown this_tape this_taped this_size this_sort this_place this_value this_at this_fault this_words this_towns this_towns_f this_op this_arg this_codes this_names this_readNames this_namesMany this_readMany this_once this_lines this_facts this_pile this_state this_state_f this_undos this_isMarked this_weight this_rounding this_lacks this_alikes this_g) (wd_X12_starts k this this_thrown this_tape this_taped this_size this_sort this_place this_value this_at this_fault this_words this_towns this_towns_f this_op this_arg this_codes this_names this_readNames this_namesMany this_readMany this_once this_lines this_facts this_pile this_state R0 this_undos this_isMarked this_weight this_rounding this_lacks this_alikes this_g) s.heap.size) args s 0 0 A) (F0 m 25 ls []) := by
    intro n
    induction n with
    | zero => intro x2 u_this_state_f H locs ls hP hD hS hl hm; cases hm
    | succ n ih =>
      intro x2 u_this_state_f H locs ls hP hD hS hl hm
      unfold m_X12_starts_25 at hm
      refine lv_iload_n (pc := 25) hx hb dX12_starts_25 rfl (lv_at hl 2 rfl) ?_
      refine lv_aload_n (pc := 26) hx hb dX12_starts_26 rfl (lv_at hl 0 rfl) ?_
      obtain ⟨r4, hcl, hm⟩ := bd hm
      refine cr_back (run_V (pc := 27) (n := 0) (As := []) (rest := [.int x2]) ⟨hx, hb, hml, hown, hts⟩ (c_X12_persons l D k this this_thrown this_tape this_taped this_size this_sort this_place this_value this_at this_fault this_words this_towns this_towns_f this_op this_arg this_codes this_names this_readNames this_namesMany this_readMany this_once this_lines this_facts this_pile this_state this_undos this_isMarked this_weight this_rounding this_lacks this_alikes this_g r4 hcl) ⟨kw_1252, kw_16, by decide +kernel⟩ kw_1249 kw_1251 ks_97 ⟨Nat.le_of_ble_eq_true rfl, Nat.le_of_ble_eq_true rfl⟩ pr_blind (prR (hP.sub [0, 1] rfl) hG) (va_recv hG.1 hP (ci := 10) (q0 := 0) rfl rfl) rfl hl.1 rfl (Nat.le_of_ble_eq_true rfl) dX12_starts_27 ⟨Nat.zero_le _, Nat.zero_le _⟩) ?_
      refine lv_icmp_ge (tgt := 72) (pc := 30) hx hb dX12_starts_30 (by decide) (fun hc => ?_) (fun hc => ?_)
      · rw [if_pos hc] at hm
        rw [← Option.some.inj hm]
        exact W.vret hx hb hr (fun t ht _ => hq _ _ H t ht hP hD locs hS) hS.2.2 dX12_starts_72 hlocks
      · rw [if_neg hc] at hm
        refine lv_aload_n (pc := 33) hx hb dX12_starts_33 rfl (lv_at hl 0 rfl) ?_
        refine va_get (pc := 34) (D := D) (ci := 10) (C := RX12) (T := TX12) (N := 30) hx hb hts hiX12 hown hG.1 hP 0 rfl rfl 22 (Nat.le_of_ble_eq_true rfl) (hts _ kw_1279) (fun _ h9 => h9) rfl dX12_starts_34 ?_
        refine lv_iload_n (pc := 37) hx hb dX12_starts_37 rfl (lv_at hl 1 rfl) ?_
        refine lv_iconst (v := 1) (pc := 38) hx hb dX12_starts_38 (by decide) ?_
        refine lv_iadd (pc := 39) hx hb dX12_starts_39 ?_
        refine lv_iload_n (pc := 40) hx hb dX12_starts_40 rfl (lv_at hl 2 rfl) ?_
        refine lv_iadd (pc := 41) hx hb dX12_starts_41 ?_
        refine lv_aload_n (pc := 42) hx hb dX12_starts_42 rfl (lv_at hl 0 rfl) ?_
        refine lv_iload_n (pc := 43) hx hb dX12_starts_43 rfl (lv_at hl 2 rfl) ?_
        refine lv_iconst (v := 1) (pc := 44) hx hb dX12_starts_44 (by decide) ?_
        obtain ⟨r5, hcl, hm⟩ := bd hm
        refine cr_back (run_V (pc := 45) (n := 2) (As := [.int x2, .int 1]) (rest := [.int ((q1 + 1) + x2), .ref this_state]) ⟨hx, hb, hml, hown, hts⟩ (c_X12_personOf l D k this this_thrown this_tape this_taped this_size this_sort this_place this_value this_at this_fault this_words this_towns this_towns_f this_op this_arg this_codes this_names this_readNames this_namesMany this_readMany this_once this_lines this_facts this_pile this_state this_undos this_isMarked this_weight this_rounding this_lacks this_alikes this_g x2 1 r5 hcl) ⟨kw_1256, kw_16, by decide +kernel⟩ kw_1253 kw_1255 ks_98 ⟨Nat.le_of_ble_eq_true rfl, Nat.le_of_ble_eq_true rfl⟩ pr_blind (prR (hP.sub [0, 1] rfl) hG) (va_recv hG.1 hP (ci := 10) (q0 := 0) rfl rfl) rfl hl.1 rfl (Nat.le_of_ble_eq_true rfl) dX12_starts_45 ⟨Nat.zero_le _, Nat.zero_le _⟩) ?_
        obtain ⟨hin, hm⟩ := gd hm
        refine va_iast (pc := 48) (D := D) hx hb hG.1 hP hD hS 2 0 rfl rfl hin dX12_starts_48 (fun H locs hP hD hS => ?_)
        have hP : va_P D vwCl (wd_X12_starts k this this_thrown this_tape this_taped this_size this_sort this_place this_value this_at this_fault this_words this_towns this_towns_f this_op this_arg this_codes this_names this_readNames this_namesMany this_readMany this_once this_lines this_facts this_pile this_state (upd u_this_state_f ((q1 + 1) + x2).toNatClampNeg r5) this_undos this_isMarked this_weight this_rounding this_lacks this_alikes this_g) H := hP
        have hD : va_D A (wd_X12_starts k this this_thrown this_tape this_taped this_size this_sort this_place this_value this_at this_fault this_words this_towns this_towns_f this_op this_arg this_codes this_names this_readNames this_namesMany this_readMany this_once this_lines this_facts this_pile this_state (upd u_this_state_f ((q1 + 1) + x2).toNatClampNeg r5) this_undos this_isMarked this_weight this_rounding this_lacks this_alikes this_g) := hD
        refine lv_aload_n (pc := 49) hx hb dX12_starts_49 rfl (lv_at hl 0 rfl) ?_
        refine va_get (pc := 50) (D := D) (ci := 10) (C := RX12) (T := TX12) (N := 30) hx hb hts hiX12 hown hG.1 hP 0 rfl rfl 22 (Nat.le_of_ble_eq_true rfl) (hts _ kw_1279) (fun _ h9 => h9) rfl dX12_starts_50 ?_
        refine lv_iload_n (pc := 53) hx hb dX12_starts_53 rfl (lv_at hl 1 rfl) ?_
        refine lv_bipush (v := 7) (pc := 54) hx hb dX12_starts_54 (by decide) ?_
        refine lv_iadd (pc := 56) hx hb dX12_starts_56 ?_
        refine lv_iload_n (pc := 57) hx hb dX12_starts_57 rfl (lv_at hl 2 rfl) ?_
        refine lv_iadd (pc := 58) hx hb dX12_starts_58 ?_
        refine lv_aload_n (pc := 59) hx hb dX12_starts_59 rfl (lv_at hl 0 rfl) ?_
        refine lv_iload_n (pc := 60) hx hb dX12_starts_60 rfl (lv_at hl 2 rfl) ?_
        refine lv_iconst (v := 2) (pc := 61) hx hb dX12_starts_61 (by decide) ?_
        obtain ⟨r6, hcl, hm⟩ := bd hm
        refine cr_back (run_V (pc := 62) (n := 2) (As := [.int x2, .int 2]) (rest := [.int ((q1 + 7) + x2), .ref this_state]) ⟨hx, hb, hml, hown, hts⟩ (c_X12_personOf l D k this this_thrown this_tape this_taped this_size this_sort this_place this_value this_at this_fault this_words this_towns this_towns_f this_op this_arg this_codes this_names this_readNames this_namesMany this_readMany this_once this_lines this_facts this_pile this_state this_undos this_isMarked this_weight this_rounding this_lacks this_alikes this_g x2 2 r6 hcl) ⟨kw_1256, kw_16, by decide +kernel⟩ kw_1253 kw_1255 ks_98 ⟨Nat.le_of_ble_eq_true rfl, Nat.le_of_ble_eq_true rfl⟩ pr_blind (prR (hP.sub [0, 1] rfl) hG) (va_recv hG.1 hP (ci := 10) (q0 := 0) rfl rfl) rfl hl.1 rfl (Nat.le_of_ble_eq_true rfl) dX12_starts_62 ⟨Nat.zero_le _, Nat.zero_le _⟩) ?_
        obtain ⟨hin, hm⟩ := gd hm
        refine va_iast (pc := 65) (D := D) hx hb hG.1 hP hD hS 2 0 rfl rfl hin dX12_starts_65 (fun H locs hP hD hS => ?_)
        have hP : va_P D vwCl (wd_X12_starts k this this_thrown this_tape this_taped this_size this_sort this_place this_value this_at this_fault this_words this_towns this_towns_f this_op this_arg this_codes this_names this_readNames this_namesMany this_readMany this_once this_lines this_facts this_pile this_state (upd (upd u_this_state_f ((q1 + 1) + x2).toNatClampNeg r5) ((q1 + 7) + x2).toNatClampNeg r6) this_undos this_isMarked this_weight this_rounding this_lacks this_alikes this_g) H := hP
        have hD : va_D A (wd_X12_starts k this this_thrown this_tape this_taped this_size this_sort this_place this_value this_at this_fault this_words this_towns this_towns_f this_op this_arg this_codes this_names this_readNames this_namesMany this_readMany this_once this_lines this_facts this_pile this_state (upd (upd u_this_state_f ((q1 + 1) + x2).toNatClampNeg r5) ((q1 + 7) + x2).toNatClampNeg r6) this_undos this_isMarked this_weight this_rounding this_lacks this_alikes this_g) := hD
        refine lv_iinc (k := 2) (v := x2 + 1) (lv' := [(2, .int (x2 + 1)), (0, .ref this), (1, .int q1)]) (pc := 66) hx hb dX12_starts_66 hl rfl rfl (Nat.le_of_ble_eq_true rfl) rfl (fun ls hl => ?_)
        refine lv_goto (tgt := 25) (pc := 69) hx hb dX12_starts_69 (by decide) ?_
        exact ih (x2 + 1) (upd (upd u_this_state_f ((q1 + 1) + x2).toNatClampNeg r5) ((q1 + 7) + x2).toNatClampNeg r6) H locs ls hP hD hS (lv_sub hl [1, 2, 0] rfl) hm
  have h_2 : ∀ (n : Nat), ∀ (x2 : Int32) (u_this_state_f : Nat → Int32) (H : Heap) (locs : List Loc) (ls : Array Slot), va_P D vwCl (wd_X12_starts k this this_thrown this_tape this_taped this_size this_sort this_place this_value this_at this_fault this_words this_towns this_towns_f this_op this_arg this_codes this_names this_readNames this_namesMany this_readMany this_once this_lines this_facts this_pile this_state u_this_state_f this_undos this_isMarked this_weight this_rounding this_lacks this_alikes this_g) H → va_D A (wd_X12_starts k this this_thrown this_tape this_taped this_size this_sort this_place this_value this_at this_fault this_words this_towns this_towns_f this_op this_arg this_codes this_names this_readNames this_namesMany this_readMany this_once this_lines this_facts this_pile this_state u_this_state_f this_undos this_isMarked this_weight this_rounding this_lacks this_alikes this_g) → va_S A s.heap H locs → lv_has ls 3 [(0, .ref this), (1, .int q1), (2, .int x2)] → m_X12_starts_2 this_towns_f q1 n x2 u_this_state_f = some R0 → W p l e (Rm 1 22) s m args below meth c H locs 0 0 (MQ below (QW D none (wd_X12_starts k this this_thrown this_tape this_taped this_size this_sort this_place this_value this_at this_fault this_words this_towns this_towns_f this_op this_arg this_codes this_names this_readNames this_namesMany this_readMany this_once this_lines this_facts this_pile this_state this_state_f this_undos this_isMarked this_weight this_rounding this_lacks this_alikes this_g) (wd_X12_starts k this this_thrown this_tape this_taped this_size this_sort this_place this_value this_at this_fault this_words this_towns this_towns_f this_op this_arg this_codes this_names this_readNames this_namesMany this_readMany this_once this_lines this_facts this_pile this_state R0 this_undos this_isMarked this_weight this_rounding this_lacks this_alikes this_g) s.heap.size) args s 0 0 A) (F0 m 2 ls []) := by
    intro n
    induction n with
    | zero => intro x2 u_this_state_f H locs ls hP hD hS hl hm; cases hm
    | succ n ih =>
      intro x2 u_this_state_f H locs ls hP hD hS hl hm
      unfold m_X12_starts_2 at hm
      refine lv_iload_n (pc := 2) hx hb dX12_starts_2 rfl (lv_at hl 2 rfl) ?_
      refine lv_bipush (v := 13) (pc := 3) hx hb dX12_starts_3 (by decide) ?_
      refine lv_icmp_ge (tgt := 23) (pc := 5) hx hb dX12_starts_5 (by decide) (fun hc => ?_) (fun hc => ?_)
      · rw [if_pos hc] at hm
        refine lv_iconst (v := 0) (pc := 23) hx hb dX12_starts_23 (by decide) ?_
        refine lv_istore_n (lv' := [(2, .int 0), (0, .ref this), (1, .int q1)]) (pc := 24) hx hb dX12_starts_24 rfl hl (Nat.le_of_ble_eq_true rfl) rfl (fun ls hl => ?_)
        exact h_25 FU 0 u_this_state_f H locs ls hP hD hS (lv_sub hl [1, 2, 0] rfl) hm
      · rw [if_neg hc] at hm
        refine lv_aload_n (pc := 8) hx hb dX12_starts_8 rfl (lv_at hl 0 rfl) ?_
        refine va_get (pc := 9) (D := D) (ci := 10) (C := RX12) (T := TX12) (N := 30) hx hb hts hiX12 hown hG.1 hP 0 rfl rfl 22 (Nat.le_of_ble_eq_true rfl) (hts _ kw_1279) (fun _ h9 => h9) rfl dX12_starts_9 ?_
        refine lv_iload_n (pc := 12) hx hb dX12_starts_12 rfl (lv_at hl 1 rfl) ?_
        refine lv_iload_n (pc := 13) hx hb dX12_starts_13 rfl (lv_at hl 2 rfl) ?_
        refine lv_iadd (pc := 14) hx hb dX12_starts_14 ?_
        refine lv_iconst (v := 0) (pc := 15) hx hb dX12_starts_15 (by decide) ?_
        obtain ⟨hin, hm⟩ := gd hm
        refine va_iast (pc := 16) (D := D) hx hb hG.1 hP hD hS 2 0 rfl rfl hin dX12_starts_16 (fun H locs hP hD hS => ?_)
        have hP : va_P D vwCl (wd_X12_starts k this this_thrown this_tape this_taped this_size this_sort this_place this_value this_at this_fault this_words this_towns this_towns_f this_op this_arg this_codes this_names this_readNames this_namesMany this_readMany this_once this_lines this_facts this_pile this_state (upd u_this_state_f (q1 + x2).toNatClampNeg 0) this_undos this_isMarked this_weight this_rounding this_lacks this_alikes this_g) H := hP
        have hD : va_D A (wd_X12_starts k this this_thrown this_tape this_taped this_size this_sort this_place this_value this_at this_fault this_words this_towns this_towns_f this_op this_arg this_codes this_names this_readNames this_namesMany this_readMany this_once this_lines this_facts this_pile this_state (upd u_this_state_f (q1 + x2).toNatClampNeg 0) this_undos this_isMarked this_weight this_rounding this_lacks this_alikes this_g) := hD
        refine lv_iinc (k := 2) (v := x2 + 1) (lv' := [(2, .int (x2 + 1)), (0, .ref this), (1, .int q1)]) (pc := 17) hx hb dX12_starts_17 hl rfl rfl (Nat.le_of_ble_eq_true rfl) rfl (fun ls hl => ?_)
        refine lv_goto (tgt := 2) (pc := 20) hx hb dX12_starts_20 (by decide) ?_
        exact ih (x2 + 1) (upd u_this_state_f (q1 + x2).toNatClampNeg 0) H locs ls hP hD hS (lv_sub hl [1, 2, 0] rfl) hm
  unfold m_X12_starts at hm
  suffices hgo : ∀ (H : Heap) (locs : List Loc), va_P D vwCl (wd_X12_starts k this this_thrown this_tape this_taped this_size this_sort this_place this_value this_at this_fault this_words this_towns this_towns_f this_op this_arg this_codes this_names this_readNames this_namesMany this_readMany this_once this_lines this_facts this_pile this_state this_state_f this_undos this_isMarked this_weight this_rounding this_lacks this_alikes this_g) H → va_D A (wd_X12_starts k this this_thrown this_tape this_taped this_size this_sort this_place this_value this_at this_fault this_words this_towns this_towns_f this_op this_arg this_codes this_names this_readNames this_namesMany this_readMany this_once this_lines this_facts this_pile this_state this_state_f this_undos this_isMarked this_weight this_rounding this_lacks this_alikes this_g) → va_S A s.heap H locs → W p l e (Rm 1 22) s m args below meth c H locs 0 0 (MQ below (QW D none (wd_X12_starts k this this_thrown this_tape this_taped this_size this_sort this_place this_value this_at this_fault this_words this_towns this_towns_f this_op this_arg this_codes this_names this_readNames this_namesMany this_readMany this_once this_lines this_facts this_pile this_state this_state_f this_undos this_isMarked this_weight this_rounding this_lacks this_alikes this_g) (wd_X12_starts k this this_thrown this_tape this_taped this_size this_sort this_place this_value this_at this_fault this_words this_towns this_towns_f this_op this_arg this_codes this_names this_readNames this_namesMany this_readMany this_once this_lines this_facts this_pile this_state R0 this_undos this_isMarked this_weight this_rounding this_lacks this_alikes this_g) s.heap.size) args s 0 0 A) (F0 m 0 ls []) from hgo _ _ hP hD hS
  clear hP hD hS
  intro H locs hP hD hS
  refine lv_iconst (v := 0) (pc := 0) hx hb dX12_starts_0 (by decide) ?_
  refine lv_istore_n (lv' := [(2, .int 0), (0, .ref this), (1, .int q1)]) (pc := 1) hx hb dX12_starts_1 rfl hl (Nat.le_of_ble_eq_true rfl) rfl (fun ls hl => ?_)
  exact h_2 FU 0 this_state_f H locs ls hP hD hS (lv_sub hl [1, 2, 0] rfl) hm
theorem dX12_begins_0 : decode cX12_begins 0 = .ok (.aload_n 0, 1) := by decide +kernel
theorem dX12_begins_1 : decode cX12_begins 1 = .ok (.invokevirtual 262, 3) := by decide +kernel
theorem dX12_begins_4 : decode cX12_begins 4 = .ok (.aload_n 0, 1) := by decide +kernel
theorem dX12_begins_5 : decode cX12_begins 5 = .ok (.iconst 0, 1) := by decide +kernel
theorem dX12_begins_6 : decode cX12_begins 6 = .ok (.invokevirtual 265, 3) := by decide +kernel
theorem dX12_begins_9 : decode cX12_begins 9 = .ok (.aload_n 0, 1) := by decide +kernel
theorem dX12_begins_10 : decode cX12_begins 10 = .ok (.getfield 113, 3) := by decide +kernel
theorem dX12_begins_13 : decode cX12_begins 13 = .ok (.bipush 13, 2) := by decide +kernel
theorem dX12_begins_15 : decode cX12_begins 15 = .ok (.iconst 0, 1) := by decide +kernel
theorem dX12_begins_16 : decode cX12_begins 16 = .ok (.iastore, 1) := by decide +kernel
theorem dX12_begins_17 : decode cX12_begins 17 = .ok (.aload_n 0, 1) := by decide +kernel
theorem dX12_begins_18 : decode cX12_begins 18 = .ok (.getfield 113, 3) := by decide +kernel
theorem dX12_begins_21 : decode cX12_begins 21 = .ok (.bipush 30, 2) := by decide +kernel
theorem dX12_begins_23 : decode cX12_begins 23 = .ok (.iconst 0, 1) := by decide +kernel
theorem dX12_begins_24 : decode cX12_begins 24 = .ok (.iastore, 1) := by decide +kernel
theorem dX12_begins_25 : decode cX12_begins 25 = .ok (.aload_n 0, 1) := by decide +kernel
theorem dX12_begins_26 : decode cX12_begins 26 = .ok (.getfield 104, 3) := by decide +kernel
theorem dX12_begins_29 : decode cX12_begins 29 = .ok (.iconst 0, 1) := by decide +kernel
theorem dX12_begins_30 : decode cX12_begins 30 = .ok (.iconst 0, 1) := by decide +kernel
theorem dX12_begins_31 : decode cX12_begins 31 = .ok (.iastore, 1) := by decide +kernel
theorem dX12_begins_32 : decode cX12_begins 32 = .ok (.aload_n 0, 1) := by decide +kernel
theorem dX12_begins_33 : decode cX12_begins 33 = .ok (.iconst 0, 1) := by decide +kernel
theorem dX12_begins_34 : decode cX12_begins 34 = .ok (.putfield 268, 3) := by decide +kernel
theorem dX12_begins_37 : decode cX12_begins 37 = .ok (.iconst 0, 1) := by decide +kernel
theorem dX12_begins_38 : decode cX12_begins 38 = .ok (.istore_n 1, 1) := by decide +kernel
theorem dX12_begins_39 : decode cX12_begins 39 = .ok (.iload_n 1, 1) := by decide +kernel
theorem dX12_begins_40 : decode cX12_begins 40 = .ok (.iconst 4, 1) := by decide +kernel
theorem dX12_begins_41 : decode cX12_begins 41 = .ok (.if_icmp .ge 16, 3) := by decide +kernel
theorem dX12_begins_44 : decode cX12_begins 44 = .ok (.aload_n 0, 1) := by decide +kernel
theorem dX12_begins_45 : decode cX12_begins 45 = .ok (.getfield 116, 3) := by decide +kernel
theorem dX12_begins_48 : decode cX12_begins 48 = .ok (.iload_n 1, 1) := by decide +kernel
theorem dX12_begins_49 : decode cX12_begins 49 = .ok (.iconst 0, 1) := by decide +kernel
theorem dX12_begins_50 : decode cX12_begins 50 = .ok (.bastore, 1) := by decide +kernel
theorem dX12_begins_51 : decode cX12_begins 51 = .ok (.iinc 1 1, 3) := by decide +kernel
theorem dX12_begins_54 : decode cX12_begins 54 = .ok (.goto (-15), 3) := by decide +kernel
theorem dX12_begins_57 : decode cX12_begins 57 = .ok (.return_, 1) := by decide +kernel
abbrev wd_X12_begins (k : Nat → ClassId) (this : Nat) (this_thrown : Int32) (this_tape : Nat) (this_taped : Int32) (this_size : Int32) (this_sort : Nat) (this_place : Nat) (this_value : Nat) (this_at : Int32) (this_fault : Int32) (this_words : Nat) (this_towns : Nat) (this_towns_f : Nat → Int32) (this_op : Nat) (this_arg : Nat) (this_codes : Int32) (this_names : Nat) (this_readNames : Nat) (this_namesMany : Int32) (this_readMany : Int32) (this_once : Int32) (this_lines : Nat) (this_lines_f : Nat → Int32) (this_facts : Nat) (this_pile : Nat) (this_state : Nat) (this_state_f : Nat → Int32) (this_undos : Int32) (this_isMarked : Nat) (this_isMarked_f : Nat → Int32) (this_weight : Int32) (this_rounding : Int32) (this_lacks : Nat) (this_alikes : Nat) (this_g : Int64) : va_W := [(this, .inr (10, [.int this_thrown, .ref this_tape, .int this_taped, .int this_size, .ref this_sort, .ref this_place, .ref this_value, .int this_at, .int this_fault, .ref this_words, .ref this_towns, .ref this_op, .ref this_arg, .int this_codes, .ref this_names, .ref this_readNames, .int this_namesMany, .int this_readMany, .int this_once, .ref this_lines, .ref this_facts, .ref this_pile, .ref this_state, .int this_undos, .ref this_isMarked, .int this_weight, .int this_rounding, .ref this_lacks, .ref this_alikes, .long this_g])), (this_towns, .inl (k 0, 60, .inl this_towns_f)), (this_lines, .inl (k 0, 250, .inl this_lines_f)), (this_state, .inl (k 0, 1104, .inl this_state_f)), (this_isMarked, .inl (k 3, 4, .inl this_isMarked_f))]
set_option maxHeartbeats 4000000 in
set_option maxRecDepth 100000 in
theorem c_X12_begins (l : Launch) (D : va_G) (k : Nat → ClassId) (this : Nat) (this_thrown : Int32) (this_tape : Nat) (this_taped : Int32) (this_size : Int32) (this_sort : Nat) (this_place : Nat) (this_value : Nat) (this_at : Int32) (this_fault : Int32) (this_words : Nat) (this_towns : Nat) (this_towns_f : Nat → Int32) (this_op : Nat) (this_arg : Nat) (this_codes : Int32) (this_names : Nat) (this_readNames : Nat) (this_namesMany : Int32) (this_readMany : Int32) (this_once : Int32) (this_lines : Nat) (this_lines_f : Nat → Int32) (this_facts : Nat) (this_pile : Nat) (this_state : Nat) (this_state_f : Nat → Int32) (this_undos : Int32) (this_isMarked : Nat) (this_isMarked_f : Nat → Int32) (this_weight : Int32) (this_rounding : Int32) (this_lacks : Nat) (this_alikes : Nat) (this_g : Int64) (R0 : Int32 × Int32 × Int32 × (Nat → Int32) × (Nat → Int32) × (Nat → Int32)) (hm : m_X12_begins this_towns_f this_lines_f this_state_f this_isMarked_f = some R0) : CW l D (TY k) yX12_begins cX12_begins 2 none 2 44 [.ref this] (wd_X12_begins k this this_thrown this_tape this_taped this_size this_sort this_place this_value this_at this_fault this_words this_towns this_towns_f this_op this_arg this_codes this_names this_readNames this_namesMany this_readMany this_once this_lines this_lines_f this_facts this_pile this_state this_state_f this_undos this_isMarked this_isMarked_f this_weight this_rounding this_lacks this_alikes this_g) none (wd_X12_begins k this this_thrown this_tape this_taped this_size this_sort this_place this_value this_at this_fault this_words this_towns this_towns_f this_op this_arg this_codes this_names this_readNames this_namesMany this_readMany this_once this_lines R0.2.2.2.1 this_facts this_pile this_state R0.2.2.2.2.1 R0.1 this_isMarked R0.2.2.2.2.2 R0.2.1 R0.2.2.1 this_lacks this_alikes this_g) := by
  refine CW.mk (by decide) (Nat.le_of_ble_eq_true rfl) ?_
  intro p e s m args below meth c ls A ⟨hx, hb, hr, hts, hown, hlocks, hml⟩ hP hG hD hA hl hS hq
  have hl : lv_has ls 2 [(0, .ref this)] := hl
  have h_39 : ∀ (n : Nat), ∀ (x1 : Int32) (u_this_undos : Int32) (u_this_weight : Int32) (u_this_rounding : Int32) (u_this_lines_f : Nat → Int32) (u_this_state_f : Nat → Int32) (u_this_isMarked_f : Nat → Int32) (H : Heap) (locs : List Loc) (ls : Array Slot), va_P D vwCl (wd_X12_begins k this this_thrown this_tape this_taped this_size this_sort this_place this_value this_at this_fault this_words this_towns this_towns_f this_op this_arg this_codes this_names this_readNames this_namesMany this_readMany this_once this_lines u_this_lines_f this_facts this_pile this_state u_this_state_f u_this_undos this_isMarked u_this_isMarked_f u_this_weight u_this_rounding this_lacks this_alikes this_g) H → va_D A (wd_X12_begins k this this_thrown this_tape this_taped this_size this_sort this_place this_value this_at this_fault this_words this_towns this_towns_f this_op this_arg this_codes this_names this_readNames this_namesMany this_readMany this_once this_lines u_this_lines_f this_facts this_pile this_state u_this_state_f u_this_undos this_isMarked u_this_isMarked_f u_this_weight u_this_rounding this_lacks this_alikes this_g) → va_S A s.heap H locs → lv_has ls 2 [(0, .ref this), (1, .int x1)] → m_X12_begins_39 this_towns_f n x1 u_this_undos u_this_weight u_this_rounding u_this_lines_f u_this_state_f u_this_isMarked_f = some R0 → W p l e (Rm 2 44) s m args below meth c H locs 0 0 (MQ below (QW D none (wd_X12_begins k this this_thrown this_tape this_taped this_size this_sort this_place this_value this_at this_fault this_words this_towns this_towns_f this_op this_arg this_codes this_names this_readNames this_namesMany this_readMany this_once this_lines this_lines_f this_facts this_pile this_state this_state_f this_undos this_isMarked this_isMarked_f this_weight this_rounding this_lacks this_alikes this_g) (wd_X12_begins k this this_thrown this_tape this_taped this_size this_sort this_place this_value this_at this_fault this_words this_towns this_towns_f this_op this_arg this_codes this_names this_readNames this_namesMany this_readMany this_once this_lines R0.2.2.2.1 this_facts this_pile this_state R0.2.2.2.2.1 R0.1 this_isMarked R0.2.2.2.2.2 R0.2.1 R0.2.2.1 this_lacks this_alikes this_g) s.heap.size) args s 0 0 A) (F0 m 39 ls []) := by
    intro n
    induction n with
    | zero => intro x1 u_this_undos u_this_weight u_this_rounding u_this_lines_f u_this_state_f u_this_isMarked_f H locs ls hP hD hS hl hm; cases hm
    | succ n ih =>
      intro x1 u_this_undos u_this_weight u_this_rounding u_this_lines_f u_this_state_f u_this_isMarked_f H locs ls hP hD hS hl hm
      unfold m_X12_begins_39 at hm
      refine lv_iload_n (pc := 39) hx hb dX12_begins_39 rfl (lv_at hl 1 rfl) ?_
      refine lv_iconst (v := 4) (pc := 40) hx hb dX12_begins_40 (by decide) ?_
      refine lv_icmp_ge (tgt := 57) (pc := 41) hx hb dX12_begins_41 (by decide) (fun hc => ?_) (fun hc => ?_)
      · rw [if_pos hc] at hm
        rw [← Option.some.inj hm]
        exact W.vret hx hb hr (fun t ht _ => hq _ _ H t ht hP hD locs hS) hS.2.2 dX12_begins_57 hlocks
      · rw [if_neg hc] at hm
        refine lv_aload_n (pc := 44) hx hb dX12_begins_44 rfl (lv_at hl 0 rfl) ?_
        refine va_get (pc := 45) (D := D) (ci := 10) (C := RX12) (T := TX12) (N := 30) hx hb hts hiX12 hown hG.1 hP 0 rfl rfl 24 (Nat.le_of_ble_eq_true rfl) (hts _ kw_1281) (fun _ h9 => h9) rfl dX12_begins_45 ?_
        refine lv_iload_n (pc := 48) hx hb dX12_begins_48 rfl (lv_at hl 1 rfl) ?_
        refine lv_iconst (v := 0) (pc := 49) hx hb dX12_begins_49 (by decide) ?_
        obtain ⟨hin, hm⟩ := gd hm
        refine va_zast (pc := 50) (D := D) hx hb hG.1 hP hD hS 4 3 rfl rfl hin dX12_begins_50 (fun H locs hP hD hS => ?_)
        have hP : va_P D vwCl (wd_X12_begins k this this_thrown this_tape this_taped this_size this_sort this_place this_value this_at this_fault this_words this_towns this_towns_f this_op this_arg this_codes this_names this_readNames this_namesMany this_readMany this_once this_lines u_this_lines_f this_facts this_pile this_state u_this_state_f u_this_undos this_isMarked (upd u_this_isMarked_f x1.toNatClampNeg (vp_nar .boolean 0)) u_this_weight u_this_rounding this_lacks this_alikes this_g) H := hP
        have hD : va_D A (wd_X12_begins k this this_thrown this_tape this_taped this_size this_sort this_place this_value this_at this_fault this_words this_towns this_towns_f this_op this_arg this_codes this_names this_readNames this_namesMany this_readMany this_once this_lines u_this_lines_f this_facts this_pile this_state u_this_state_f u_this_undos this_isMarked (upd u_this_isMarked_f x1.toNatClampNeg (vp_nar .boolean 0)) u_this_weight u_this_rounding this_lacks this_alikes this_g) := hD
        refine lv_iinc (k := 1) (v := x1 + 1) (lv' := [(1, .int (x1 + 1)), (0, .ref this)]) (pc := 51) hx hb dX12_begins_51 hl rfl rfl (Nat.le_of_ble_eq_true rfl) rfl (fun ls hl => ?_)
        refine lv_goto (tgt := 39) (pc := 54) hx hb dX12_begins_54 (by decide) ?_
        exact ih (x1 + 1) u_this_undos u_this_weight u_this_rounding u_this_lines_f u_this_state_f (upd u_this_isMarked_f x1.toNatClampNeg (vp_nar .boolean 0)) H locs ls hP hD hS (lv_sub hl [1, 0] rfl) hm
  unfold m_X12_begins at hm
  suffices hgo : ∀ (H : Heap) (locs : List Loc), va_P D vwCl (wd_X12_begins k this this_thrown this_tape this_taped this_size this_sort this_place this_value this_at this_fault this_words this_towns this_towns_f this_op this_arg this_codes this_names this_readNames this_namesMany this_readMany this_once this_lines this_lines_f this_facts this_pile this_state this_state_f this_undos this_isMarked this_isMarked_f this_weight this_rounding this_lacks this_alikes this_g) H → va_D A (wd_X12_begins k this this_thrown this_tape this_taped this_size this_sort this_place this_value this_at this_fault this_words this_towns this_towns_f this_op this_arg this_codes this_names this_readNames this_namesMany this_readMany this_once this_lines this_lines_f this_facts this_pile this_state this_state_f this_undos this_isMarked this_isMarked_f this_weight this_rounding this_lacks this_alikes this_g) → va_S A s.heap H locs → W p l e (Rm 2 44) s m args below meth c H locs 0 0 (MQ below (QW D none (wd_X12_begins k this this_thrown this_tape this_taped this_size this_sort this_place this_value this_at this_fault this_words this_towns this_towns_f this_op this_arg this_codes this_names this_readNames this_namesMany this_readMany this_once this_lines this_lines_f this_facts this_pile this_state this_state_f this_undos this_isMarked this_isMarked_f this_weight this_rounding this_lacks this_alikes this_g) (wd_X12_begins k this this_thrown this_tape this_taped this_size this_sort this_place this_value this_at this_fault this_words this_towns this_towns_f this_op this_arg this_codes this_names this_readNames this_namesMany this_readMany this_once this_lines R0.2.2.2.1 this_facts this_pile this_state R0.2.2.2.2.1 R0.1 this_isMarked R0.2.2.2.2.2 R0.2.1 R0.2.2.1 this_lacks this_alikes this_g) s.heap.size) args s 0 0 A) (F0 m 0 ls []) from hgo _ _ hP hD hS
  clear hP hD hS
  intro H locs hP hD hS
  refine lv_aload_n (pc := 0) hx hb dX12_begins_0 rfl (lv_at hl 0 rfl) ?_
  obtain ⟨r3, hcl, hm⟩ := bd hm
  refine cw_mask (ws' := (wd_X12_begins k this this_thrown this_tape this_taped this_size this_sort this_place this_value this_at this_fault this_words this_towns this_towns_f this_op this_arg this_codes this_names this_readNames this_namesMany this_readMany this_once this_lines this_lines_f this_facts this_pile this_state this_state_f this_undos this_isMarked this_isMarked_f r3.1 r3.2 this_lacks this_alikes this_g)) (run_V (pc := 1) (n := 0) (As := []) (rest := []) ⟨hx, hb, hml, hown, hts⟩ ((c_X12_rulesAsTold l D k this this_thrown this_tape this_taped this_size this_sort this_place this_value this_at this_fault this_words this_towns this_towns_f this_op this_arg this_codes this_names this_readNames this_namesMany this_readMany this_once this_lines this_facts this_pile this_state this_undos this_isMarked this_weight this_rounding this_lacks this_alikes this_g r3 hcl) H.size) ⟨kw_1244, kw_16, by decide +kernel⟩ kw_1241 kw_1243 ks_95 ⟨Nat.le_of_ble_eq_true rfl, Nat.le_of_ble_eq_true rfl⟩ pw_blind (prW (P_pick [true, true] rfl hP) hG (D_pick [true, true] rfl hD)) (va_recv hG.1 hP (ci := 10) (q0 := 0) rfl rfl) rfl hl.1 rfl (Nat.le_of_ble_eq_true rfl) dX12_begins_1 ⟨Nat.zero_le _, Nat.zero_le _⟩) hP hD hS hA [true, true] rfl rfl rfl (fun H locs hP hD hS => ?_)
  refine lv_aload_n (pc := 4) hx hb dX12_begins_4 rfl (lv_at hl 0 rfl) ?_
  refine lv_iconst (v := 0) (pc := 5) hx hb dX12_begins_5 (by decide) ?_
  obtain ⟨r4, hcl, hm⟩ := bd hm
  refine cw_mask (ws' := (wd_X12_begins k this this_thrown this_tape this_taped this_size this_sort this_place this_value this_at this_fault this_words this_towns this_towns_f this_op this_arg this_codes this_names this_readNames this_namesMany this_readMany this_once this_lines this_lines_f this_facts this_pile this_state r4 this_undos this_isMarked this_isMarked_f r3.1 r3.2 this_lacks this_alikes this_g)) (run_V (pc := 6) (n := 1) (As := [.int 0]) (rest := []) ⟨hx, hb, hml, hown, hts⟩ ((c_X12_starts l D k this this_thrown this_tape this_taped this_size this_sort this_place this_value this_at this_fault this_words this_towns this_towns_f this_op this_arg this_codes this_names this_readNames this_namesMany this_readMany this_once this_lines this_facts this_pile this_state this_state_f this_undos this_isMarked r3.1 r3.2 this_lacks this_alikes this_g 0 r4 hcl) H.size) ⟨kw_1248, kw_16, by decide +kernel⟩ kw_1245 kw_1247 ks_96 ⟨Nat.le_of_ble_eq_true rfl, Nat.le_of_ble_eq_true rfl⟩ pw_blind (prW (P_pick [true, true, false, true] rfl hP) hG (D_pick [true, true, false, true] rfl hD)) (va_recv hG.1 hP (ci := 10) (q0 := 0) rfl rfl) rfl hl.1 rfl (Nat.le_of_ble_eq_true rfl) dX12_begins_6 ⟨Nat.zero_le _, Nat.zero_le _⟩) hP hD hS hA [true, true, false, true] rfl rfl rfl (fun H locs hP hD hS => ?_)
  refine lv_aload_n (pc := 9) hx hb dX12_begins_9 rfl (lv_at hl 0 rfl) ?_
  refine va_get (pc := 10) (D := D) (ci := 10) (C := RX12) (T := TX12) (N := 30) hx hb hts hiX12 hown hG.1 hP 0 rfl rfl 22 (Nat.le_of_ble_eq_true rfl) (hts _ kw_1279) (fun _ h9 => h9) rfl dX12_begins_10 ?_
  refine lv_bipush (v := 13) (pc := 13) hx hb dX12_begins_13 (by decide) ?_
  refine lv_iconst (v := 0) (pc := 15) hx hb dX12_begins_15 (by decide) ?_
  refine va_iast (pc := 16) (D := D) hx hb hG.1 hP hD hS 3 0 rfl rfl (pn_in (Nat.le_of_ble_eq_true rfl) (Nat.le_of_ble_eq_true rfl)) dX12_begins_16 (fun H locs hP hD hS => ?_)
  have hP : va_P D vwCl (wd_X12_begins k this this_thrown this_tape this_taped this_size this_sort this_place this_value this_at this_fault this_words this_towns this_towns_f this_op this_arg this_codes this_names this_readNames this_namesMany this_readMany this_once this_lines this_lines_f this_facts this_pile this_state (upd r4 (13 : Int32).toNatClampNeg 0) this_undos this_isMarked this_isMarked_f r3.1 r3.2 this_lacks this_alikes this_g) H := hP
  have hD : va_D A (wd_X12_begins k this this_thrown this_tape this_taped this_size this_sort this_place this_value this_at this_fault this_words this_towns this_towns_f this_op this_arg this_codes this_names this_readNames this_namesMany this_readMany this_once this_lines this_lines_f this_facts this_pile this_state (upd r4 (13 : Int32).toNatClampNeg 0) this_undos this_isMarked this_isMarked_f r3.1 r3.2 this_lacks this_alikes this_g) := hD
  refine lv_aload_n (pc := 17) hx hb dX12_begins_17 rfl (lv_at hl 0 rfl) ?_
  refine va_get (pc := 18) (D := D) (ci := 10) (C := RX12) (T := TX12) (N := 30) hx hb hts hiX12 hown hG.1 hP 0 rfl rfl 22 (Nat.le_of_ble_eq_true rfl) (hts _ kw_1279) (fun _ h9 => h9) rfl dX12_begins_18 ?_
  refine lv_bipush (v := 30) (pc := 21) hx hb dX12_begins_21 (by decide) ?_
  refine lv_iconst (v := 0) (pc := 23) hx hb dX12_begins_23 (by decide) ?_
  refine va_iast (pc := 24) (D := D) hx hb hG.1 hP hD hS 3 0 rfl rfl (pn_in (Nat.le_of_ble_eq_true rfl) (Nat.le_of_ble_eq_true rfl)) dX12_begins_24 (fun H locs hP hD hS => ?_)
  have hP : va_P D vwCl (wd_X12_begins k this this_thrown this_tape this_taped this_size this_sort this_place this_value this_at this_fault this_words this_towns this_towns_f this_op this_arg this_codes this_names this_readNames this_namesMany this_readMany this_once this_lines this_lines_f this_facts this_pile this_state (upd (upd r4 (13 : Int32).toNatClampNeg 0) (30 : Int32).toNatClampNeg 0) this_undos this_isMarked this_isMarked_f r3.1 r3.2 this_lacks this_alikes this_g) H := hP
  have hD : va_D A (wd_X12_begins k this this_thrown this_tape this_taped this_size this_sort this_place this_value this_at this_fault this_words this_towns this_towns_f this_op this_arg this_codes this_names this_readNames this_namesMany this_readMany this_once this_lines this_lines_f this_facts this_pile this_state (upd (upd r4 (13 : Int32).toNatClampNeg 0) (30 : Int32).toNatClampNeg 0) this_undos this_isMarked this_isMarked_f r3.1 r3.2 this_lacks this_alikes this_g) := hD
  refine lv_aload_n (pc := 25) hx hb dX12_begins_25 rfl (lv_at hl 0 rfl) ?_
  refine va_get (pc := 26) (D := D) (ci := 10) (C := RX12) (T := TX12) (N := 30) hx hb hts hiX12 hown hG.1 hP 0 rfl rfl 19 (Nat.le_of_ble_eq_true rfl) (hts _ kw_1276) (fun _ h9 => h9) rfl dX12_begins_26 ?_
  refine lv_iconst (v := 0) (pc := 29) hx hb dX12_begins_29 (by decide) ?_
  refine lv_iconst (v := 0) (pc := 30) hx hb dX12_begins_30 (by decide) ?_
  refine va_iast (pc := 31) (D := D) hx hb hG.1 hP hD hS 2 0 rfl rfl (pn_in (Nat.le_of_ble_eq_true rfl) (Nat.le_of_ble_eq_true rfl)) dX12_begins_31 (fun H locs hP hD hS => ?_)
  have hP : va_P D vwCl (wd_X12_begins k this this_thrown this_tape this_taped this_size this_sort this_place this_value this_at this_fault this_words this_towns this_towns_f this_op this_arg this_codes this_names this_readNames this_namesMany this_readMany this_once this_lines (upd this_lines_f (0 : Int32).toNatClampNeg 0) this_facts this_pile this_state (upd (upd r4 (13 : Int32).toNatClampNeg 0) (30 : Int32).toNatClampNeg 0) this_undos this_isMarked this_isMarked_f r3.1 r3.2 this_lacks this_alikes this_g) H := hP
  have hD : va_D A (wd_X12_begins k this this_thrown this_tape this_taped this_size this_sort this_place this_value this_at this_fault this_words this_towns this_towns_f this_op this_arg this_codes this_names this_readNames this_namesMany this_readMany this_once this_lines (upd this_lines_f (0 : Int32).toNatClampNeg 0) this_facts this_pile this_state (upd (upd r4 (13 : Int32).toNatClampNeg 0) (30 : Int32).toNatClampNeg 0) this_undos this_isMarked this_isMarked_f r3.1 r3.2 this_lacks this_alikes this_g) := hD
  refine lv_aload_n (pc := 32) hx hb dX12_begins_32 rfl (lv_at hl 0 rfl) ?_
  refine lv_iconst (v := 0) (pc := 33) hx hb dX12_begins_33 (by decide) ?_
  refine va_put (pc := 34) (D := D) (ci := 10) (v := .int 0) (ty := .int) (C := RX12) (T := TX12) (N := 30) hx hb hts hiX12 tyX12 tyX12_ok nmX12 hown hG.1 hP hD hS 0 rfl rfl 23 (Nat.le_of_ble_eq_true rfl) (hts _ kw_1280) (fun _ h9 => h9) rfl (by decide +kernel) rfl rfl (Nat.le_of_ble_eq_true rfl) dX12_begins_34 (fun H locs hP hD hS => ?_)
  have hP : va_P D vwCl (wd_X12_begins k this this_thrown this_tape this_taped this_size this_sort this_place this_value this_at this_fault this_words this_towns this_towns_f this_op this_arg this_codes this_names this_readNames this_namesMany this_readMany this_once this_lines (upd this_lines_f (0 : Int32).toNatClampNeg 0) this_facts this_pile this_state (upd (upd r4 (13 : Int32).toNatClampNeg 0) (30 : Int32).toNatClampNeg 0) 0 this_isMarked this_isMarked_f r3.1 r3.2 this_lacks this_alikes this_g) H := hP
  have hD : va_D A (wd_X12_begins k this this_thrown this_tape this_taped this_size this_sort this_place this_value this_at this_fault this_words this_towns this_towns_f this_op this_arg this_codes this_names this_readNames this_namesMany this_readMany this_once this_lines (upd this_lines_f (0 : Int32).toNatClampNeg 0) this_facts this_pile this_state (upd (upd r4 (13 : Int32).toNatClampNeg 0) (30 : Int32).toNatClampNeg 0) 0 this_isMarked this_isMarked_f r3.1 r3.2 this_lacks this_alikes this_g) := hD
  refine lv_iconst (v := 0) (pc := 37) hx hb dX12_begins_37 (by decide) ?_
  refine lv_istore_n (lv' := [(1, .int 0), (0, .ref this)]) (pc := 38) hx hb dX12_begins_38 rfl hl (Nat.le_of_ble_eq_true rfl) rfl (fun ls hl => ?_)
  exact h_39 FU 0 0 r3.1 r3.2 (upd this_lines_f (0 : Int32).toNatClampNeg 0) (upd (upd r4 (13 : Int32).toNatClampNeg 0) (30 : Int32).toNatClampNeg 0) this_isMarked_f H locs ls hP hD hS (lv_sub hl [1, 0] rfl) hm
theorem dX12_isLetter_0 : decode cX12_isLetter 0 = .ok (.iload_n 0, 1) := by decide +kernel
theorem dX12_isLetter_1 : decode cX12_isLetter 1 = .ok (.bipush 97, 2) := by decide +kernel
theorem dX12_isLetter_3 : decode cX12_isLetter 3 = .ok (.if_icmp .lt 13, 3) := by decide +kernel
theorem dX12_isLetter_6 : decode cX12_isLetter 6 = .ok (.iload_n 0, 1) := by decide +kernel
theorem dX12_isLetter_7 : decode cX12_isLetter 7 = .ok (.bipush 122, 2) := by decide +kernel
theorem dX12_isLetter_9 : decode cX12_isLetter 9 = .ok (.if_icmp .gt 7, 3) := by decide +kernel
theorem dX12_isLetter_12 : decode cX12_isLetter 12 = .ok (.iconst 1, 1) := by decide +kernel
theorem dX12_isLetter_13 : decode cX12_isLetter 13 = .ok (.goto 4, 3) := by decide +kernel
theorem dX12_isLetter_16 : decode cX12_isLetter 16 = .ok (.iconst 0, 1) := by decide +kernel
theorem dX12_isLetter_17 : decode cX12_isLetter 17 = .ok (.ireturn, 1) := by decide +kernel
abbrev wd_X12_isLetter (k : Nat → ClassId) : va_W := []
set_option maxHeartbeats 4000000 in
set_option maxRecDepth 100000 in
theorem c_X12_isLetter (l : Launch) (D : va_G) (k : Nat → ClassId) (q1 : Int32) (R0 : Int32) (hm : m_X12_isLetter q1 = some R0) : CR l D (TY k) yX12_isLetter cX12_isLetter 1 (some .boolean) 0 0 [.int q1] (wd_X12_isLetter k ) (some (.int R0)) := by
  refine CR.mk (by decide) (Nat.le_of_ble_eq_true rfl) ?_
  intro p e s m args below meth c ls ⟨hx, hb, hr, hts, hown, hlocks, hml⟩ hP hG hl
  have hl : lv_has ls 1 [(0, .int q1)] := hl
  unfold m_X12_isLetter at hm
  refine lv_iload_n (pc := 0) hx hb dX12_isLetter_0 rfl (lv_at hl 0 rfl) ?_
  refine lv_bipush (v := 97) (pc := 1) hx hb dX12_isLetter_1 (by decide) ?_
  refine lv_icmp_lt (tgt := 16) (pc := 3) hx hb dX12_isLetter_3 (by decide) (fun hc => ?_) (fun hc => ?_)
  · rw [if_pos hc] at hm
    refine lv_iconst (v := 0) (pc := 16) hx hb dX12_isLetter_16 (by decide) ?_
    rw [← Option.some.inj hm]
    exact W.zret hx hb hr (nar_bool (Or.inl rfl)) (fun t ht _ => ⟨rfl, ht⟩) (fun _ h => by cases h) dX12_isLetter_17 hlocks
  · rw [if_neg hc] at hm
    refine lv_iload_n (pc := 6) hx hb dX12_isLetter_6 rfl (lv_at hl 0 rfl) ?_
    refine lv_bipush (v := 122) (pc := 7) hx hb dX12_isLetter_7 (by decide) ?_
    refine lv_icmp_gt (tgt := 16) (pc := 9) hx hb dX12_isLetter_9 (by decide) (fun hc => ?_) (fun hc => ?_)
    · rw [if_pos hc] at hm
      refine lv_iconst (v := 0) (pc := 16) hx hb dX12_isLetter_16 (by decide) ?_
      rw [← Option.some.inj hm]
      exact W.zret hx hb hr (nar_bool (Or.inl rfl)) (fun t ht _ => ⟨rfl, ht⟩) (fun _ h => by cases h) dX12_isLetter_17 hlocks
    · rw [if_neg hc] at hm
      refine lv_iconst (v := 1) (pc := 12) hx hb dX12_isLetter_12 (by decide) ?_
      refine lv_goto (tgt := 17) (pc := 13) hx hb dX12_isLetter_13 (by decide) ?_
      rw [← Option.some.inj hm]
      exact W.zret hx hb hr (nar_bool (Or.inr rfl)) (fun t ht _ => ⟨rfl, ht⟩) (fun _ h => by cases h) dX12_isLetter_17 hlocks
theorem dX12_isDigit_0 : decode cX12_isDigit 0 = .ok (.iload_n 0, 1) := by decide +kernel
theorem dX12_isDigit_1 : decode cX12_isDigit 1 = .ok (.bipush 48, 2) := by decide +kernel
theorem dX12_isDigit_3 : decode cX12_isDigit 3 = .ok (.if_icmp .lt 13, 3) := by decide +kernel
theorem dX12_isDigit_6 : decode cX12_isDigit 6 = .ok (.iload_n 0, 1) := by decide +kernel
theorem dX12_isDigit_7 : decode cX12_isDigit 7 = .ok (.bipush 57, 2) := by decide +kernel
theorem dX12_isDigit_9 : decode cX12_isDigit 9 = .ok (.if_icmp .gt 7, 3) := by decide +kernel
theorem dX12_isDigit_12 : decode cX12_isDigit 12 = .ok (.iconst 1, 1) := by decide +kernel
theorem dX12_isDigit_13 : decode cX12_isDigit 13 = .ok (.goto 4, 3) := by decide +kernel
theorem dX12_isDigit_16 : decode cX12_isDigit 16 = .ok (.iconst 0, 1) := by decide +kernel
theorem dX12_isDigit_17 : decode cX12_isDigit 17 = .ok (.ireturn, 1) := by decide +kernel
abbrev wd_X12_isDigit (k : Nat → ClassId) : va_W := []
set_option maxHeartbeats 4000000 in
set_option maxRecDepth 100000 in
theorem c_X12_isDigit (l : Launch) (D : va_G) (k : Nat → ClassId) (q1 : Int32) (R0 : Int32) (hm : m_X12_isDigit q1 = some R0) : CR l D (TY k) yX12_isDigit cX12_isDigit 1 (some .boolean) 0 0 [.int q1] (wd_X12_isDigit k ) (some (.int R0)) := by
  refine CR.mk (by decide) (Nat.le_of_ble_eq_true rfl) ?_
  intro p e s m args below meth c ls ⟨hx, hb, hr, hts, hown, hlocks, hml⟩ hP hG hl
  have hl : lv_has ls 1 [(0, .int q1)] := hl
  unfold m_X12_isDigit at hm
  refine lv_iload_n (pc := 0) hx hb dX12_isDigit_0 rfl (lv_at hl 0 rfl) ?_
  refine lv_bipush (v := 48) (pc := 1) hx hb dX12_isDigit_1 (by decide) ?_
  refine lv_icmp_lt (tgt := 16) (pc := 3) hx hb dX12_isDigit_3 (by decide) (fun hc => ?_) (fun hc => ?_)
  · rw [if_pos hc] at hm
    refine lv_iconst (v := 0) (pc := 16) hx hb dX12_isDigit_16 (by decide) ?_
    rw [← Option.some.inj hm]
    exact W.zret hx hb hr (nar_bool (Or.inl rfl)) (fun t ht _ => ⟨rfl, ht⟩) (fun _ h => by cases h) dX12_isDigit_17 hlocks
  · rw [if_neg hc] at hm
    refine lv_iload_n (pc := 6) hx hb dX12_isDigit_6 rfl (lv_at hl 0 rfl) ?_
    refine lv_bipush (v := 57) (pc := 7) hx hb dX12_isDigit_7 (by decide) ?_
    refine lv_icmp_gt (tgt := 16) (pc := 9) hx hb dX12_isDigit_9 (by decide) (fun hc => ?_) (fun hc => ?_)
    · rw [if_pos hc] at hm
      refine lv_iconst (v := 0) (pc := 16) hx hb dX12_isDigit_16 (by decide) ?_
      rw [← Option.some.inj hm]
      exact W.zret hx hb hr (nar_bool (Or.inl rfl)) (fun t ht _ => ⟨rfl, ht⟩) (fun _ h => by cases h) dX12_isDigit_17 hlocks
    · rw [if_neg hc] at hm
      refine lv_iconst (v := 1) (pc := 12) hx hb dX12_isDigit_12 (by decide) ?_
      refine lv_goto (tgt := 17) (pc := 13) hx hb dX12_isDigit_13 (by decide) ?_
      rw [← Option.some.inj hm]
      exact W.zret hx hb hr (nar_bool (Or.inr rfl)) (fun t ht _ => ⟨rfl, ht⟩) (fun _ h => by cases h) dX12_isDigit_17 hlocks
theorem dX12_rank_0 : decode cX12_rank 0 = .ok (.iload_n 0, 1) := by decide +kernel
theorem dX12_rank_1 : decode cX12_rank 1 = .ok (.invokestatic 133, 3) := by decide +kernel
theorem dX12_rank_4 : decode cX12_rank 4 = .ok (.ifCond .eq 10, 3) := by decide +kernel
theorem dX12_rank_7 : decode cX12_rank 7 = .ok (.iload_n 0, 1) := by decide +kernel
theorem dX12_rank_8 : decode cX12_rank 8 = .ok (.bipush 96, 2) := by decide +kernel
theorem dX12_rank_10 : decode cX12_rank 10 = .ok (.isub, 1) := by decide +kernel
theorem dX12_rank_11 : decode cX12_rank 11 = .ok (.goto 7, 3) := by decide +kernel
theorem dX12_rank_14 : decode cX12_rank 14 = .ok (.iload_n 0, 1) := by decide +kernel
theorem dX12_rank_15 : decode cX12_rank 15 = .ok (.bipush 21, 2) := by decide +kernel
theorem dX12_rank_17 : decode cX12_rank 17 = .ok (.isub, 1) := by decide +kernel
theorem dX12_rank_18 : decode cX12_rank 18 = .ok (.ireturn, 1) := by decide +kernel
abbrev wd_X12_rank (k : Nat → ClassId) : va_W := []
set_option maxHeartbeats 4000000 in
set_option maxRecDepth 100000 in
theorem c_X12_rank (l : Launch) (D : va_G) (k : Nat → ClassId) (q1 : Int32) (R0 : Int32) (hm : m_X12_rank q1 = some R0) : CR l D (TY k) yX12_rank cX12_rank 1 (some .int) 1 20 [.int q1] (wd_X12_rank k ) (some (.int R0)) := by
  refine CR.mk (by decide) (Nat.le_of_ble_eq_true rfl) ?_
  intro p e s m args below meth c ls ⟨hx, hb, hr, hts, hown, hlocks, hml⟩ hP hG hl
  have hl : lv_has ls 1 [(0, .int q1)] := hl
  unfold m_X12_rank at hm
  refine lv_iload_n (pc := 0) hx hb dX12_rank_0 rfl (lv_at hl 0 rfl) ?_
  obtain ⟨r2, hcl, hm⟩ := bd hm
  refine cr_back (run_S (pc := 1) (n := 1) (As := [.int q1]) (rest := []) ⟨hx, hb, hml, hown, hts⟩ (c_X12_isLetter l D k q1 r2 hcl) ⟨kw_1359, kw_16, by decide +kernel⟩ kw_1357 kw_1358 ⟨Nat.le_of_ble_eq_true rfl, Nat.le_of_ble_eq_true rfl⟩ pr_blind (prR (hP.sub [] rfl) hG) rfl hl.1 rfl (Nat.le_of_ble_eq_true rfl) dX12_rank_1 ⟨Nat.zero_le _, Nat.zero_le _⟩) ?_
  refine lv_if_eq (tgt := 14) (pc := 4) hx hb dX12_rank_4 (by decide) (fun hc => ?_) (fun hc => ?_)
  · rw [if_pos hc] at hm
    refine lv_iload_n (pc := 14) hx hb dX12_rank_14 rfl (lv_at hl 0 rfl) ?_
    refine lv_bipush (v := 21) (pc := 15) hx hb dX12_rank_15 (by decide) ?_
    refine lv_isub (pc := 17) hx hb dX12_rank_17 ?_
    rw [← Option.some.inj hm]
    exact W.iret hx hb hr (fun t ht _ => ⟨rfl, ht⟩) (fun _ h => by cases h) dX12_rank_18 hlocks
  · rw [if_neg hc] at hm
    refine lv_iload_n (pc := 7) hx hb dX12_rank_7 rfl (lv_at hl 0 rfl) ?_
    refine lv_bipush (v := 96) (pc := 8) hx hb dX12_rank_8 (by decide) ?_
    refine lv_isub (pc := 10) hx hb dX12_rank_10 ?_
    refine lv_goto (tgt := 18) (pc := 11) hx hb dX12_rank_11 (by decide) ?_
    rw [← Option.some.inj hm]
    exact W.iret hx hb hr (fun t ht _ => ⟨rfl, ht⟩) (fun _ h => by cases h) dX12_rank_18 hlocks
theorem dX12_isSignOf_0 : decode cX12_isSignOf 0 = .ok (.iload_n 0, 1) := by decide +kernel
theorem dX12_isSignOf_1 : decode cX12_isSignOf 1 = .ok (.bipush 40, 2) := by decide +kernel
theorem dX12_isSignOf_3 : decode cX12_isSignOf 3 = .ok (.if_icmp .eq 45, 3) := by decide +kernel
theorem dX12_isSignOf_6 : decode cX12_isSignOf 6 = .ok (.iload_n 0, 1) := by decide +kernel
theorem dX12_isSignOf_7 : decode cX12_isSignOf 7 = .ok (.bipush 41, 2) := by decide +kernel
theorem dX12_isSignOf_9 : decode cX12_isSignOf 9 = .ok (.if_icmp .eq 39, 3) := by decide +kernel
theorem dX12_isSignOf_12 : decode cX12_isSignOf 12 = .ok (.iload_n 0, 1) := by decide +kernel
theorem dX12_isSignOf_13 : decode cX12_isSignOf 13 = .ok (.bipush 59, 2) := by decide +kernel
theorem dX12_isSignOf_15 : decode cX12_isSignOf 15 = .ok (.if_icmp .eq 33, 3) := by decide +kernel
theorem dX12_isSignOf_18 : decode cX12_isSignOf 18 = .ok (.iload_n 0, 1) := by decide +kernel
theorem dX12_isSignOf_19 : decode cX12_isSignOf 19 = .ok (.bipush 61, 2) := by decide +kernel
theorem dX12_isSignOf_21 : decode cX12_isSignOf 21 = .ok (.if_icmp .eq 27, 3) := by decide +kernel
theorem dX12_isSignOf_24 : decode cX12_isSignOf 24 = .ok (.iload_n 0, 1) := by decide +kernel
theorem dX12_isSignOf_25 : decode cX12_isSignOf 25 = .ok (.bipush 60, 2) := by decide +kernel
theorem dX12_isSignOf_27 : decode cX12_isSignOf 27 = .ok (.if_icmp .eq 21, 3) := by decide +kernel
theorem dX12_isSignOf_30 : decode cX12_isSignOf 30 = .ok (.iload_n 0, 1) := by decide +kernel
theorem dX12_isSignOf_31 : decode cX12_isSignOf 31 = .ok (.bipush 43, 2) := by decide +kernel
theorem dX12_isSignOf_33 : decode cX12_isSignOf 33 = .ok (.if_icmp .eq 15, 3) := by decide +kernel
theorem dX12_isSignOf_36 : decode cX12_isSignOf 36 = .ok (.iload_n 0, 1) := by decide +kernel
theorem dX12_isSignOf_37 : decode cX12_isSignOf 37 = .ok (.bipush 45, 2) := by decide +kernel
theorem dX12_isSignOf_39 : decode cX12_isSignOf 39 = .ok (.if_icmp .eq 9, 3) := by decide +kernel
theorem dX12_isSignOf_42 : decode cX12_isSignOf 42 = .ok (.iload_n 0, 1) := by decide +kernel
theorem dX12_isSignOf_43 : decode cX12_isSignOf 43 = .ok (.bipush 42, 2) := by decide +kernel
theorem dX12_isSignOf_45 : decode cX12_isSignOf 45 = .ok (.if_icmp .ne 7, 3) := by decide +kernel
theorem dX12_isSignOf_48 : decode cX12_isSignOf 48 = .ok (.iconst 1, 1) := by decide +kernel
theorem dX12_isSignOf_49 : decode cX12_isSignOf 49 = .ok (.goto 4, 3) := by decide +kernel
theorem dX12_isSignOf_52 : decode cX12_isSignOf 52 = .ok (.iconst 0, 1) := by decide +kernel
theorem dX12_isSignOf_53 : decode cX12_isSignOf 53 = .ok (.ireturn, 1) := by decide +kernel
abbrev wd_X12_isSignOf (k : Nat → ClassId) : va_W := []
set_option maxHeartbeats 4000000 in
set_option maxRecDepth 100000 in
theorem c_X12_isSignOf (l : Launch) (D : va_G) (k : Nat → ClassId) (q1 : Int32) (R0 : Int32) (hm : m_X12_isSignOf q1 = some R0) : CR l D (TY k) yX12_isSignOf cX12_isSignOf 1 (some .boolean) 0 0 [.int q1] (wd_X12_isSignOf k ) (some (.int R0)) := by
  refine CR.mk (by decide) (Nat.le_of_ble_eq_true rfl) ?_
  intro p e s m args below meth c ls ⟨hx, hb, hr, hts, hown, hlocks, hml⟩ hP hG hl
  have hl : lv_has ls 1 [(0, .int q1)] := hl
  unfold m_X12_isSignOf at hm
  refine lv_iload_n (pc := 0) hx hb dX12_isSignOf_0 rfl (lv_at hl 0 rfl) ?_
  refine lv_bipush (v := 40) (pc := 1) hx hb dX12_isSignOf_1 (by decide) ?_
  refine lv_icmp_eq (tgt := 48) (pc := 3) hx hb dX12_isSignOf_3 (by decide) (fun hc => ?_) (fun hc => ?_)
  · rw [if_pos hc] at hm
    refine lv_iconst (v := 1) (pc := 48) hx hb dX12_isSignOf_48 (by decide) ?_
    refine lv_goto (tgt := 53) (pc := 49) hx hb dX12_isSignOf_49 (by decide) ?_
    rw [← Option.some.inj hm]
    exact W.zret hx hb hr (nar_bool (Or.inr rfl)) (fun t ht _ => ⟨rfl, ht⟩) (fun _ h => by cases h) dX12_isSignOf_53 hlocks
  · rw [if_neg hc] at hm
    refine lv_iload_n (pc := 6) hx hb dX12_isSignOf_6 rfl (lv_at hl 0 rfl) ?_
    refine lv_bipush (v := 41) (pc := 7) hx hb dX12_isSignOf_7 (by decide) ?_
    refine lv_icmp_eq (tgt := 48) (pc := 9) hx hb dX12_isSignOf_9 (by decide) (fun hc => ?_) (fun hc => ?_)
    · rw [if_pos hc] at hm
      refine lv_iconst (v := 1) (pc := 48) hx hb dX12_isSignOf_48 (by decide) ?_
      refine lv_goto (tgt := 53) (pc := 49) hx hb dX12_isSignOf_49 (by decide) ?_
      rw [← Option.some.inj hm]
      exact W.zret hx hb hr (nar_bool (Or.inr rfl)) (fun t ht _ => ⟨rfl, ht⟩) (fun _ h => by cases h) dX12_isSignOf_53 hlocks
    · rw [if_neg hc] at hm
      refine lv_iload_n (pc := 12) hx hb dX12_isSignOf_12 rfl (lv_at hl 0 rfl) ?_
      refine lv_bipush (v := 59) (pc := 13) hx hb dX12_isSignOf_13 (by decide) ?_
      refine lv_icmp_eq (tgt := 48) (pc := 15) hx hb dX12_isSignOf_15 (by decide) (fun hc => ?_) (fun hc => ?_)
      · rw [if_pos hc] at hm
        refine lv_iconst (v := 1) (pc := 48) hx hb dX12_isSignOf_48 (by decide) ?_
        refine lv_goto (tgt := 53) (pc := 49) hx hb dX12_isSignOf_49 (by decide) ?_
        rw [← Option.some.inj hm]
        exact W.zret hx hb hr (nar_bool (Or.inr rfl)) (fun t ht _ => ⟨rfl, ht⟩) (fun _ h => by cases h) dX12_isSignOf_53 hlocks
      · rw [if_neg hc] at hm
        refine lv_iload_n (pc := 18) hx hb dX12_isSignOf_18 rfl (lv_at hl 0 rfl) ?_
        refine lv_bipush (v := 61) (pc := 19) hx hb dX12_isSignOf_19 (by decide) ?_
        refine lv_icmp_eq (tgt := 48) (pc := 21) hx hb dX12_isSignOf_21 (by decide) (fun hc => ?_) (fun hc => ?_)
        · rw [if_pos hc] at hm
          refine lv_iconst (v := 1) (pc := 48) hx hb dX12_isSignOf_48 (by decide) ?_
          refine lv_goto (tgt := 53) (pc := 49) hx hb dX12_isSignOf_49 (by decide) ?_
          rw [← Option.some.inj hm]
          exact W.zret hx hb hr (nar_bool (Or.inr rfl)) (fun t ht _ => ⟨rfl, ht⟩) (fun _ h => by cases h) dX12_isSignOf_53 hlocks
        · rw [if_neg hc] at hm
          refine lv_iload_n (pc := 24) hx hb dX12_isSignOf_24 rfl (lv_at hl 0 rfl) ?_
          refine lv_bipush (v := 60) (pc := 25) hx hb dX12_isSignOf_25 (by decide) ?_
          refine lv_icmp_eq (tgt := 48) (pc := 27) hx hb dX12_isSignOf_27 (by decide) (fun hc => ?_) (fun hc => ?_)
          · rw [if_pos hc] at hm
            refine lv_iconst (v := 1) (pc := 48) hx hb dX12_isSignOf_48 (by decide) ?_
            refine lv_goto (tgt := 53) (pc := 49) hx hb dX12_isSignOf_49 (by decide) ?_
            rw [← Option.some.inj hm]
            exact W.zret hx hb hr (nar_bool (Or.inr rfl)) (fun t ht _ => ⟨rfl, ht⟩) (fun _ h => by cases h) dX12_isSignOf_53 hlocks
          · rw [if_neg hc] at hm
            refine lv_iload_n (pc := 30) hx hb dX12_isSignOf_30 rfl (lv_at hl 0 rfl) ?_
            refine lv_bipush (v := 43) (pc := 31) hx hb dX12_isSignOf_31 (by decide) ?_
            refine lv_icmp_eq (tgt := 48) (pc := 33) hx hb dX12_isSignOf_33 (by decide) (fun hc => ?_) (fun hc => ?_)
            · rw [if_pos hc] at hm
              refine lv_iconst (v := 1) (pc := 48) hx hb dX12_isSignOf_48 (by decide) ?_
              refine lv_goto (tgt := 53) (pc := 49) hx hb dX12_isSignOf_49 (by decide) ?_
              rw [← Option.some.inj hm]
              exact W.zret hx hb hr (nar_bool (Or.inr rfl)) (fun t ht _ => ⟨rfl, ht⟩) (fun _ h => by cases h) dX12_isSignOf_53 hlocks
            · rw [if_neg hc] at hm
              refine lv_iload_n (pc := 36) hx hb dX12_isSignOf_36 rfl (lv_at hl 0 rfl) ?_
              refine lv_bipush (v := 45) (pc := 37) hx hb dX12_isSignOf_37 (by decide) ?_
              refine lv_icmp_eq (tgt := 48) (pc := 39) hx hb dX12_isSignOf_39 (by decide) (fun hc => ?_) (fun hc => ?_)
              · rw [if_pos hc] at hm
                refine lv_iconst (v := 1) (pc := 48) hx hb dX12_isSignOf_48 (by decide) ?_
                refine lv_goto (tgt := 53) (pc := 49) hx hb dX12_isSignOf_49 (by decide) ?_
                rw [← Option.some.inj hm]
                exact W.zret hx hb hr (nar_bool (Or.inr rfl)) (fun t ht _ => ⟨rfl, ht⟩) (fun _ h => by cases h) dX12_isSignOf_53 hlocks
              · rw [if_neg hc] at hm
                refine lv_iload_n (pc := 42) hx hb dX12_isSignOf_42 rfl (lv_at hl 0 rfl) ?_
                refine lv_bipush (v := 42) (pc := 43) hx hb dX12_isSignOf_43 (by decide) ?_
                refine lv_icmp_ne (tgt := 52) (pc := 45) hx hb dX12_isSignOf_45 (by decide) (fun hc => ?_) (fun hc => ?_)
                · rw [if_neg hc] at hm
                  refine lv_iconst (v := 0) (pc := 52) hx hb dX12_isSignOf_52 (by decide) ?_
                  rw [← Option.some.inj hm]
                  exact W.zret hx hb hr (nar_bool (Or.inl rfl)) (fun t ht _ => ⟨rfl, ht⟩) (fun _ h => by cases h) dX12_isSignOf_53 hlocks
                · rw [if_pos hc] at hm
                  refine lv_iconst (v := 1) (pc := 48) hx hb dX12_isSignOf_48 (by decide) ?_
                  refine lv_goto (tgt := 53) (pc := 49) hx hb dX12_isSignOf_49 (by decide) ?_
                  rw [← Option.some.inj hm]
                  exact W.zret hx hb hr (nar_bool (Or.inr rfl)) (fun t ht _ => ⟨rfl, ht⟩) (fun _ h => by cases h) dX12_isSignOf_53 hlocks
theorem dX12_cutAll_0 : decode cX12_cutAll 0 = .ok (.aload_n 0, 1) := by decide +kernel
theorem dX12_cutAll_1 : decode cX12_cutAll 1 = .ok (.aload_n 0, 1) := by decide +kernel
theorem dX12_cutAll_2 : decode cX12_cutAll 2 = .ok (.getfield 11, 3) := by decide +kernel
theorem dX12_cutAll_5 : decode cX12_cutAll 5 = .ok (.putfield 137, 3) := by decide +kernel
theorem dX12_cutAll_8 : decode cX12_cutAll 8 = .ok (.aload_n 0, 1) := by decide +kernel
theorem dX12_cutAll_9 : decode cX12_cutAll 9 = .ok (.iconst 0, 1) := by decide +kernel
theorem dX12_cutAll_10 : decode cX12_cutAll 10 = .ok (.putfield 11, 3) := by decide +kernel
theorem dX12_cutAll_13 : decode cX12_cutAll 13 = .ok (.iconst 0, 1) := by decide +kernel
theorem dX12_cutAll_14 : decode cX12_cutAll 14 = .ok (.istore_n 1, 1) := by decide +kernel
theorem dX12_cutAll_15 : decode cX12_cutAll 15 = .ok (.iconst 0, 1) := by decide +kernel
theorem dX12_cutAll_16 : decode cX12_cutAll 16 = .ok (.istore_n 2, 1) := by decide +kernel
theorem dX12_cutAll_17 : decode cX12_cutAll 17 = .ok (.iload_n 2, 1) := by decide +kernel
theorem dX12_cutAll_18 : decode cX12_cutAll 18 = .ok (.aload_n 0, 1) := by decide +kernel
theorem dX12_cutAll_19 : decode cX12_cutAll 19 = .ok (.getfield 137, 3) := by decide +kernel
theorem dX12_cutAll_22 : decode cX12_cutAll 22 = .ok (.if_icmp .ge 257, 3) := by decide +kernel
theorem dX12_cutAll_25 : decode cX12_cutAll 25 = .ok (.aload_n 0, 1) := by decide +kernel
theorem dX12_cutAll_26 : decode cX12_cutAll 26 = .ok (.getfield 14, 3) := by decide +kernel
theorem dX12_cutAll_29 : decode cX12_cutAll 29 = .ok (.iload_n 2, 1) := by decide +kernel
theorem dX12_cutAll_30 : decode cX12_cutAll 30 = .ok (.iaload, 1) := by decide +kernel
theorem dX12_cutAll_31 : decode cX12_cutAll 31 = .ok (.istore_n 3, 1) := by decide +kernel
theorem dX12_cutAll_32 : decode cX12_cutAll 32 = .ok (.iload_n 3, 1) := by decide +kernel
theorem dX12_cutAll_33 : decode cX12_cutAll 33 = .ok (.bipush 10, 2) := by decide +kernel
theorem dX12_cutAll_35 : decode cX12_cutAll 35 = .ok (.if_icmp .eq 9, 3) := by decide +kernel
theorem dX12_cutAll_38 : decode cX12_cutAll 38 = .ok (.iload_n 3, 1) := by decide +kernel
theorem dX12_cutAll_39 : decode cX12_cutAll 39 = .ok (.bipush 32, 2) := by decide +kernel
theorem dX12_cutAll_41 : decode cX12_cutAll 41 = .ok (.if_icmp .ne 9, 3) := by decide +kernel
theorem dX12_cutAll_44 : decode cX12_cutAll 44 = .ok (.iinc 2 1, 3) := by decide +kernel
theorem dX12_cutAll_47 : decode cX12_cutAll 47 = .ok (.goto (-30), 3) := by decide +kernel
theorem dX12_cutAll_50 : decode cX12_cutAll 50 = .ok (.iload_n 2, 1) := by decide +kernel
theorem dX12_cutAll_51 : decode cX12_cutAll 51 = .ok (.istore 4, 2) := by decide +kernel
theorem dX12_cutAll_53 : decode cX12_cutAll 53 = .ok (.lconst 0, 1) := by decide +kernel
theorem dX12_cutAll_54 : decode cX12_cutAll 54 = .ok (.lstore 5, 2) := by decide +kernel
theorem dX12_cutAll_56 : decode cX12_cutAll 56 = .ok (.aload_n 0, 1) := by decide +kernel
theorem dX12_cutAll_57 : decode cX12_cutAll 57 = .ok (.getfield 27, 3) := by decide +kernel
theorem dX12_cutAll_60 : decode cX12_cutAll 60 = .ok (.iload_n 1, 1) := by decide +kernel
theorem dX12_cutAll_61 : decode cX12_cutAll 61 = .ok (.iload_n 2, 1) := by decide +kernel
theorem dX12_cutAll_62 : decode cX12_cutAll 62 = .ok (.iastore, 1) := by decide +kernel
theorem dX12_cutAll_63 : decode cX12_cutAll 63 = .ok (.iload_n 3, 1) := by decide +kernel
theorem dX12_cutAll_64 : decode cX12_cutAll 64 = .ok (.invokestatic 133, 3) := by decide +kernel
theorem dX12_cutAll_67 : decode cX12_cutAll 67 = .ok (.ifCond .eq 85, 3) := by decide +kernel
theorem dX12_cutAll_70 : decode cX12_cutAll 70 = .ok (.iload_n 2, 1) := by decide +kernel
theorem dX12_cutAll_71 : decode cX12_cutAll 71 = .ok (.aload_n 0, 1) := by decide +kernel
theorem dX12_cutAll_72 : decode cX12_cutAll 72 = .ok (.getfield 137, 3) := by decide +kernel
theorem dX12_cutAll_75 : decode cX12_cutAll 75 = .ok (.if_icmp .ge 54, 3) := by decide +kernel
theorem dX12_cutAll_78 : decode cX12_cutAll 78 = .ok (.aload_n 0, 1) := by decide +kernel
theorem dX12_cutAll_79 : decode cX12_cutAll 79 = .ok (.getfield 14, 3) := by decide +kernel
theorem dX12_cutAll_82 : decode cX12_cutAll 82 = .ok (.iload_n 2, 1) := by decide +kernel
theorem dX12_cutAll_83 : decode cX12_cutAll 83 = .ok (.iaload, 1) := by decide +kernel
theorem dX12_cutAll_84 : decode cX12_cutAll 84 = .ok (.invokestatic 133, 3) := by decide +kernel
theorem dX12_cutAll_87 : decode cX12_cutAll 87 = .ok (.ifCond .eq 42, 3) := by decide +kernel
theorem dX12_cutAll_90 : decode cX12_cutAll 90 = .ok (.iload_n 2, 1) := by decide +kernel
theorem dX12_cutAll_91 : decode cX12_cutAll 91 = .ok (.iload 4, 2) := by decide +kernel
theorem dX12_cutAll_93 : decode cX12_cutAll 93 = .ok (.isub, 1) := by decide +kernel
theorem dX12_cutAll_94 : decode cX12_cutAll 94 = .ok (.bipush 8, 2) := by decide +kernel
theorem dX12_cutAll_96 : decode cX12_cutAll 96 = .ok (.if_icmp .ge 23, 3) := by decide +kernel
theorem dX12_cutAll_99 : decode cX12_cutAll 99 = .ok (.ldc2_w 140, 3) := by decide +kernel
theorem dX12_cutAll_102 : decode cX12_cutAll 102 = .ok (.lload 5, 2) := by decide +kernel
theorem dX12_cutAll_104 : decode cX12_cutAll 104 = .ok (.lmul, 1) := by decide +kernel
theorem dX12_cutAll_105 : decode cX12_cutAll 105 = .ok (.aload_n 0, 1) := by decide +kernel
theorem dX12_cutAll_106 : decode cX12_cutAll 106 = .ok (.getfield 14, 3) := by decide +kernel
theorem dX12_cutAll_109 : decode cX12_cutAll 109 = .ok (.iload_n 2, 1) := by decide +kernel
theorem dX12_cutAll_110 : decode cX12_cutAll 110 = .ok (.iaload, 1) := by decide +kernel
theorem dX12_cutAll_111 : decode cX12_cutAll 111 = .ok (.invokestatic 142, 3) := by decide +kernel
theorem dX12_cutAll_114 : decode cX12_cutAll 114 = .ok (.i2l, 1) := by decide +kernel
theorem dX12_cutAll_115 : decode cX12_cutAll 115 = .ok (.ladd, 1) := by decide +kernel
theorem dX12_cutAll_116 : decode cX12_cutAll 116 = .ok (.goto 5, 3) := by decide +kernel
theorem dX12_cutAll_119 : decode cX12_cutAll 119 = .ok (.lload 5, 2) := by decide +kernel
theorem dX12_cutAll_121 : decode cX12_cutAll 121 = .ok (.lstore 5, 2) := by decide +kernel
theorem dX12_cutAll_123 : decode cX12_cutAll 123 = .ok (.iinc 2 1, 3) := by decide +kernel
theorem dX12_cutAll_126 : decode cX12_cutAll 126 = .ok (.goto (-56), 3) := by decide +kernel
theorem dX12_cutAll_129 : decode cX12_cutAll 129 = .ok (.aload_n 0, 1) := by decide +kernel
theorem dX12_cutAll_130 : decode cX12_cutAll 130 = .ok (.getfield 24, 3) := by decide +kernel
theorem dX12_cutAll_133 : decode cX12_cutAll 133 = .ok (.iload_n 1, 1) := by decide +kernel
theorem dX12_cutAll_134 : decode cX12_cutAll 134 = .ok (.iload_n 2, 1) := by decide +kernel
theorem dX12_cutAll_135 : decode cX12_cutAll 135 = .ok (.iload 4, 2) := by decide +kernel
theorem dX12_cutAll_137 : decode cX12_cutAll 137 = .ok (.isub, 1) := by decide +kernel
theorem dX12_cutAll_138 : decode cX12_cutAll 138 = .ok (.bipush 8, 2) := by decide +kernel
theorem dX12_cutAll_140 : decode cX12_cutAll 140 = .ok (.if_icmp .le 7, 3) := by decide +kernel
theorem dX12_cutAll_143 : decode cX12_cutAll 143 = .ok (.iconst 4, 1) := by decide +kernel
theorem dX12_cutAll_144 : decode cX12_cutAll 144 = .ok (.goto 4, 3) := by decide +kernel
theorem dX12_cutAll_147 : decode cX12_cutAll 147 = .ok (.iconst 1, 1) := by decide +kernel
theorem dX12_cutAll_148 : decode cX12_cutAll 148 = .ok (.iastore, 1) := by decide +kernel
theorem dX12_cutAll_149 : decode cX12_cutAll 149 = .ok (.goto 116, 3) := by decide +kernel
theorem dX12_cutAll_152 : decode cX12_cutAll 152 = .ok (.iload_n 3, 1) := by decide +kernel
theorem dX12_cutAll_153 : decode cX12_cutAll 153 = .ok (.invokestatic 146, 3) := by decide +kernel
theorem dX12_cutAll_156 : decode cX12_cutAll 156 = .ok (.ifCond .eq 84, 3) := by decide +kernel
theorem dX12_cutAll_159 : decode cX12_cutAll 159 = .ok (.iload_n 2, 1) := by decide +kernel
theorem dX12_cutAll_160 : decode cX12_cutAll 160 = .ok (.aload_n 0, 1) := by decide +kernel
theorem dX12_cutAll_161 : decode cX12_cutAll 161 = .ok (.getfield 137, 3) := by decide +kernel
theorem dX12_cutAll_164 : decode cX12_cutAll 164 = .ok (.if_icmp .ge 54, 3) := by decide +kernel
theorem dX12_cutAll_167 : decode cX12_cutAll 167 = .ok (.aload_n 0, 1) := by decide +kernel
theorem dX12_cutAll_168 : decode cX12_cutAll 168 = .ok (.getfield 14, 3) := by decide +kernel
theorem dX12_cutAll_171 : decode cX12_cutAll 171 = .ok (.iload_n 2, 1) := by decide +kernel
theorem dX12_cutAll_172 : decode cX12_cutAll 172 = .ok (.iaload, 1) := by decide +kernel
theorem dX12_cutAll_173 : decode cX12_cutAll 173 = .ok (.invokestatic 146, 3) := by decide +kernel
theorem dX12_cutAll_176 : decode cX12_cutAll 176 = .ok (.ifCond .eq 42, 3) := by decide +kernel
theorem dX12_cutAll_179 : decode cX12_cutAll 179 = .ok (.iload_n 2, 1) := by decide +kernel
theorem dX12_cutAll_180 : decode cX12_cutAll 180 = .ok (.iload 4, 2) := by decide +kernel
theorem dX12_cutAll_182 : decode cX12_cutAll 182 = .ok (.isub, 1) := by decide +kernel
theorem dX12_cutAll_183 : decode cX12_cutAll 183 = .ok (.iconst 4, 1) := by decide +kernel
theorem dX12_cutAll_184 : decode cX12_cutAll 184 = .ok (.if_icmp .ge 24, 3) := by decide +kernel
theorem dX12_cutAll_187 : decode cX12_cutAll 187 = .ok (.ldc2_w 149, 3) := by decide +kernel
theorem dX12_cutAll_190 : decode cX12_cutAll 190 = .ok (.lload 5, 2) := by decide +kernel
theorem dX12_cutAll_192 : decode cX12_cutAll 192 = .ok (.lmul, 1) := by decide +kernel
theorem dX12_cutAll_193 : decode cX12_cutAll 193 = .ok (.aload_n 0, 1) := by decide +kernel
theorem dX12_cutAll_194 : decode cX12_cutAll 194 = .ok (.getfield 14, 3) := by decide +kernel
theorem dX12_cutAll_197 : decode cX12_cutAll 197 = .ok (.iload_n 2, 1) := by decide +kernel
theorem dX12_cutAll_198 : decode cX12_cutAll 198 = .ok (.iaload, 1) := by decide +kernel
theorem dX12_cutAll_199 : decode cX12_cutAll 199 = .ok (.i2l, 1) := by decide +kernel
theorem dX12_cutAll_200 : decode cX12_cutAll 200 = .ok (.ladd, 1) := by decide +kernel
theorem dX12_cutAll_201 : decode cX12_cutAll 201 = .ok (.ldc2_w 151, 3) := by decide +kernel
theorem dX12_cutAll_204 : decode cX12_cutAll 204 = .ok (.lsub, 1) := by decide +kernel
theorem dX12_cutAll_205 : decode cX12_cutAll 205 = .ok (.goto 5, 3) := by decide +kernel
theorem dX12_cutAll_208 : decode cX12_cutAll 208 = .ok (.lload 5, 2) := by decide +kernel
theorem dX12_cutAll_210 : decode cX12_cutAll 210 = .ok (.lstore 5, 2) := by decide +kernel
theorem dX12_cutAll_212 : decode cX12_cutAll 212 = .ok (.iinc 2 1, 3) := by decide +kernel
theorem dX12_cutAll_215 : decode cX12_cutAll 215 = .ok (.goto (-56), 3) := by decide +kernel
theorem dX12_cutAll_218 : decode cX12_cutAll 218 = .ok (.aload_n 0, 1) := by decide +kernel
theorem dX12_cutAll_219 : decode cX12_cutAll 219 = .ok (.getfield 24, 3) := by decide +kernel
theorem dX12_cutAll_222 : decode cX12_cutAll 222 = .ok (.iload_n 1, 1) := by decide +kernel
theorem dX12_cutAll_223 : decode cX12_cutAll 223 = .ok (.iload_n 2, 1) := by decide +kernel
theorem dX12_cutAll_224 : decode cX12_cutAll 224 = .ok (.iload 4, 2) := by decide +kernel
theorem dX12_cutAll_226 : decode cX12_cutAll 226 = .ok (.isub, 1) := by decide +kernel
theorem dX12_cutAll_227 : decode cX12_cutAll 227 = .ok (.iconst 4, 1) := by decide +kernel
theorem dX12_cutAll_228 : decode cX12_cutAll 228 = .ok (.if_icmp .le 7, 3) := by decide +kernel
theorem dX12_cutAll_231 : decode cX12_cutAll 231 = .ok (.iconst 4, 1) := by decide +kernel
theorem dX12_cutAll_232 : decode cX12_cutAll 232 = .ok (.goto 4, 3) := by decide +kernel
theorem dX12_cutAll_235 : decode cX12_cutAll 235 = .ok (.iconst 2, 1) := by decide +kernel
theorem dX12_cutAll_236 : decode cX12_cutAll 236 = .ok (.iastore, 1) := by decide +kernel
theorem dX12_cutAll_237 : decode cX12_cutAll 237 = .ok (.goto 28, 3) := by decide +kernel
theorem dX12_cutAll_240 : decode cX12_cutAll 240 = .ok (.iload_n 3, 1) := by decide +kernel
theorem dX12_cutAll_241 : decode cX12_cutAll 241 = .ok (.i2l, 1) := by decide +kernel
theorem dX12_cutAll_242 : decode cX12_cutAll 242 = .ok (.lstore 5, 2) := by decide +kernel
theorem dX12_cutAll_244 : decode cX12_cutAll 244 = .ok (.aload_n 0, 1) := by decide +kernel
theorem dX12_cutAll_245 : decode cX12_cutAll 245 = .ok (.getfield 24, 3) := by decide +kernel
theorem dX12_cutAll_248 : decode cX12_cutAll 248 = .ok (.iload_n 1, 1) := by decide +kernel
theorem dX12_cutAll_249 : decode cX12_cutAll 249 = .ok (.iload_n 3, 1) := by decide +kernel
theorem dX12_cutAll_250 : decode cX12_cutAll 250 = .ok (.invokestatic 153, 3) := by decide +kernel
theorem dX12_cutAll_253 : decode cX12_cutAll 253 = .ok (.ifCond .eq 7, 3) := by decide +kernel
theorem dX12_cutAll_256 : decode cX12_cutAll 256 = .ok (.iconst 3, 1) := by decide +kernel
theorem dX12_cutAll_257 : decode cX12_cutAll 257 = .ok (.goto 4, 3) := by decide +kernel
theorem dX12_cutAll_260 : decode cX12_cutAll 260 = .ok (.iconst 4, 1) := by decide +kernel
theorem dX12_cutAll_261 : decode cX12_cutAll 261 = .ok (.iastore, 1) := by decide +kernel
theorem dX12_cutAll_262 : decode cX12_cutAll 262 = .ok (.iinc 2 1, 3) := by decide +kernel
theorem dX12_cutAll_265 : decode cX12_cutAll 265 = .ok (.aload_n 0, 1) := by decide +kernel
theorem dX12_cutAll_266 : decode cX12_cutAll 266 = .ok (.getfield 30, 3) := by decide +kernel
theorem dX12_cutAll_269 : decode cX12_cutAll 269 = .ok (.iload_n 1, 1) := by decide +kernel
theorem dX12_cutAll_270 : decode cX12_cutAll 270 = .ok (.lload 5, 2) := by decide +kernel
theorem dX12_cutAll_272 : decode cX12_cutAll 272 = .ok (.lastore, 1) := by decide +kernel
theorem dX12_cutAll_273 : decode cX12_cutAll 273 = .ok (.iinc 1 1, 3) := by decide +kernel
theorem dX12_cutAll_276 : decode cX12_cutAll 276 = .ok (.goto (-259), 3) := by decide +kernel
theorem dX12_cutAll_279 : decode cX12_cutAll 279 = .ok (.aload_n 0, 1) := by decide +kernel
theorem dX12_cutAll_280 : decode cX12_cutAll 280 = .ok (.getfield 24, 3) := by decide +kernel
theorem dX12_cutAll_283 : decode cX12_cutAll 283 = .ok (.iload_n 1, 1) := by decide +kernel
theorem dX12_cutAll_284 : decode cX12_cutAll 284 = .ok (.iconst 0, 1) := by decide +kernel
theorem dX12_cutAll_285 : decode cX12_cutAll 285 = .ok (.iastore, 1) := by decide +kernel
theorem dX12_cutAll_286 : decode cX12_cutAll 286 = .ok (.aload_n 0, 1) := by decide +kernel
theorem dX12_cutAll_287 : decode cX12_cutAll 287 = .ok (.getfield 27, 3) := by decide +kernel
theorem dX12_cutAll_290 : decode cX12_cutAll 290 = .ok (.iload_n 1, 1) := by decide +kernel
theorem dX12_cutAll_291 : decode cX12_cutAll 291 = .ok (.aload_n 0, 1) := by decide +kernel
theorem dX12_cutAll_292 : decode cX12_cutAll 292 = .ok (.getfield 137, 3) := by decide +kernel
theorem dX12_cutAll_295 : decode cX12_cutAll 295 = .ok (.iastore, 1) := by decide +kernel
theorem dX12_cutAll_296 : decode cX12_cutAll 296 = .ok (.aload_n 0, 1) := by decide +kernel
theorem dX12_cutAll_297 : decode cX12_cutAll 297 = .ok (.iconst 0, 1) := by decide +kernel
theorem dX12_cutAll_298 : decode cX12_cutAll 298 = .ok (.putfield 156, 3) := by decide +kernel
theorem dX12_cutAll_301 : decode cX12_cutAll 301 = .ok (.aload_n 0, 1) := by decide +kernel
theorem dX12_cutAll_302 : decode cX12_cutAll 302 = .ok (.iconst 0, 1) := by decide +kernel
theorem dX12_cutAll_303 : decode cX12_cutAll 303 = .ok (.putfield 159, 3) := by decide +kernel
theorem dX12_cutAll_306 : decode cX12_cutAll 306 = .ok (.return_, 1) := by decide +kernel
abbrev wd_X12_cutAll (k : Nat → ClassId) (this : Nat) (this_thrown : Int32) (this_tape : Nat) (this_tape_f : Nat → Int32) (this_taped : Int32) (this_size : Int32) (this_sort : Nat) (this_sort_f : Nat → Int32) (this_place : Nat) (this_place_f : Nat → Int32) (this_value : Nat) (this_value_f : Nat → Int64) (this_at : Int32) (this_fault : Int32) (this_words : Nat) (this_towns : Nat) (this_op : Nat) (this_arg : Nat) (this_codes : Int32) (this_names : Nat) (this_readNames : Nat) (this_namesMany : Int32) (this_readMany : Int32) (this_once : Int32) (this_lines : Nat) (this_facts : Nat) (this_pile : Nat) (this_state : Nat) (this_undos : Int32) (this_isMarked : Nat) (this_weight : Int32) (this_rounding : Int32) (this_lacks : Nat) (this_alikes : Nat) (this_g : Int64) : va_W := [(this, .inr (10, [.int this_thrown, .ref this_tape, .int this_taped, .int this_size, .ref this_sort, .ref this_place, .ref this_value, .int this_at, .int this_fault, .ref this_words, .ref this_towns, .ref this_op, .ref this_arg, .int this_codes, .ref this_names, .ref this_readNames, .int this_namesMany, .int this_readMany, .int this_once, .ref this_lines, .ref this_facts, .ref this_pile, .ref this_state, .int this_undos, .ref this_isMarked, .int this_weight, .int this_rounding, .ref this_lacks, .ref this_alikes, .long this_g])), (this_tape, .inl (k 0, 1000, .inl this_tape_f)), (this_sort, .inl (k 0, 1002, .inl this_sort_f)), (this_place, .inl (k 0, 1002, .inl this_place_f)), (this_value, .inl (k 1, 1002, .inr (.inl this_value_f)))]
set_option maxHeartbeats 4000000 in
set_option maxRecDepth 100000 in
theorem c_X12_cutAll (l : Launch) (D : va_G) (k : Nat → ClassId) (this : Nat) (this_thrown : Int32) (this_tape : Nat) (this_tape_f : Nat → Int32) (this_taped : Int32) (this_size : Int32) (this_sort : Nat) (this_sort_f : Nat → Int32) (this_place : Nat) (this_place_f : Nat → Int32) (this_value : Nat) (this_value_f : Nat → Int64) (this_at : Int32) (this_fault : Int32) (this_words : Nat) (this_towns : Nat) (this_op : Nat) (this_arg : Nat) (this_codes : Int32) (this_names : Nat) (this_readNames : Nat) (this_namesMany : Int32) (this_readMany : Int32) (this_once : Int32) (this_lines : Nat) (this_facts : Nat) (this_pile : Nat) (this_state : Nat) (this_undos : Int32) (this_isMarked : Nat) (this_weight : Int32) (this_rounding : Int32) (this_lacks : Nat) (this_alikes : Nat) (this_g : Int64) (R0 : Int32 × Int32 × Int32 × Int32 × (Nat → Int32) × (Nat → Int32) × (Nat → Int64)) (hm : m_X12_cutAll this_tape_f this_taped this_sort_f this_place_f this_value_f this_at this_fault = some R0) : CW l D (TY k) yX12_cutAll cX12_cutAll 7 none 2 40 [.ref this] (wd_X12_cutAll k this this_thrown this_tape this_tape_f this_taped this_size this_sort this_sort_f this_place this_place_f this_value this_value_f this_at this_fault this_words this_towns this_op this_arg this_codes this_names this_readNames this_namesMany this_readMany this_once this_lines this_facts this_pile this_state this_undos this_isMarked this_weight this_rounding this_lacks this_alikes this_g) none (wd_X12_cutAll k this this_thrown this_tape this_tape_f R0.1 R0.2.1 this_sort R0.2.2.2.2.1 this_place R0.2.2.2.2.2.1 this_value R0.2.2.2.2.2.2 R0.2.2.1 R0.2.2.2.1 this_words this_towns this_op this_arg this_codes this_names this_readNames this_namesMany this_readMany this_once this_lines this_facts this_pile this_state this_undos this_isMarked this_weight this_rounding this_lacks this_alikes this_g) := by
  refine CW.mk (by decide) (Nat.le_of_ble_eq_true rfl) ?_
  intro p e s m args below meth c ls A ⟨hx, hb, hr, hts, hown, hlocks, hml⟩ hP hG hD hA hl hS hq
  have hl : lv_has ls 7 [(0, .ref this)] := hl
  have h_265 : ∀ (K17 : Int32 → Int32 → Int32 → Int32 → Int32 → Int32 → (Nat → Int32) → (Nat → Int32) → (Nat → Int64) → Option (Int32 × Int32 × Int32 × Int32 × (Nat → Int32) × (Nat → Int32) × (Nat → Int64))) (hK17 : ∀ (x1 : Int32) (x2 : Int32) (u_this_taped : Int32) (u_this_size : Int32) (u_this_at : Int32) (u_this_fault : Int32) (u_this_sort_f : Nat → Int32) (u_this_place_f : Nat → Int32) (u_this_value_f : Nat → Int64) (H : Heap) (locs : List Loc) (ls : Array Slot), va_P D vwCl (wd_X12_cutAll k this this_thrown this_tape this_tape_f u_this_taped u_this_size this_sort u_this_sort_f this_place u_this_place_f this_value u_this_value_f u_this_at u_this_fault this_words this_towns this_op this_arg this_codes this_names this_readNames this_namesMany this_readMany this_once this_lines this_facts this_pile this_state this_undos this_isMarked this_weight this_rounding this_lacks this_alikes this_g) H → va_D A (wd_X12_cutAll k this this_thrown this_tape this_tape_f u_this_taped u_this_size this_sort u_this_sort_f this_place u_this_place_f this_value u_this_value_f u_this_at u_this_fault this_words this_towns this_op this_arg this_codes this_names this_readNames this_namesMany this_readMany this_once this_lines this_facts this_pile this_state this_undos this_isMarked this_weight this_rounding this_lacks this_alikes this_g) → va_S A s.heap H locs → lv_has ls 7 [(0, .ref this), (1, .int x1), (2, .int x2)] → K17 x1 x2 u_this_taped u_this_size u_this_at u_this_fault u_this_sort_f u_this_place_f u_this_value_f = some R0 → W p l e (Rm 2 40) s m args below meth c H locs 0 0 (MQ below (QW D none (wd_X12_cutAll k this this_thrown this_tape this_tape_f this_taped this_size this_sort this_sort_f this_place this_place_f this_value this_value_f this_at this_fault this_words this_towns this_op this_arg this_codes this_names this_readNames this_namesMany this_readMany this_once this_lines this_facts this_pile this_state this_undos this_isMarked this_weight this_rounding this_lacks this_alikes this_g) (wd_X12_cutAll k this this_thrown this_tape this_tape_f R0.1 R0.2.1 this_sort R0.2.2.2.2.1 this_place R0.2.2.2.2.2.1 this_value R0.2.2.2.2.2.2 R0.2.2.1 R0.2.2.2.1 this_words this_towns this_op this_arg this_codes this_names this_readNames this_namesMany this_readMany this_once this_lines this_facts this_pile this_state this_undos this_isMarked this_weight this_rounding this_lacks this_alikes this_g) s.heap.size) args s 0 0 A) (F0 m 17 ls [])), ∀ (x1 : Int32) (x2 : Int32) (x5 : Int64) (u_this_taped : Int32) (u_this_size : Int32) (u_this_at : Int32) (u_this_fault : Int32) (u_this_sort_f : Nat → Int32) (u_this_place_f : Nat → Int32) (u_this_value_f : Nat → Int64) (H : Heap) (locs : List Loc) (ls : Array Slot), va_P D vwCl (wd_X12_cutAll k this this_thrown this_tape this_tape_f u_this_taped u_this_size this_sort u_this_sort_f this_place u_this_place_f this_value u_this_value_f u_this_at u_this_fault this_words this_towns this_op this_arg this_codes this_names this_readNames this_namesMany this_readMany this_once this_lines this_facts this_pile this_state this_undos this_isMarked this_weight this_rounding this_lacks this_alikes this_g) H → va_D A (wd_X12_cutAll k this this_thrown this_tape this_tape_f u_this_taped u_this_size this_sort u_this_sort_f this_place u_this_place_f this_value u_this_value_f u_this_at u_this_fault this_words this_towns this_op this_arg this_codes this_names this_readNames this_namesMany this_readMany this_once this_lines this_facts this_pile this_state this_undos this_isMarked this_weight this_rounding this_lacks this_alikes this_g) → va_S A s.heap H locs → lv_has ls 7 [(0, .ref this), (1, .int x1), (2, .int x2), (5, .long x5)] → m_X12_cutAll_265 this_tape_f K17 x1 x2 x5 u_this_taped u_this_size u_this_at u_this_fault u_this_sort_f u_this_place_f u_this_value_f = some R0 → W p l e (Rm 2 40) s m args below meth c H locs 0 0 (MQ below (QW D none (wd_X12_cutAll k this this_thrown this_tape this_tape_f this_taped this_size this_sort this_sort_f this_place this_place_f this_value this_value_f this_at this_fault this_words this_towns this_op this_arg this_codes this_names this_readNames this_namesMany this_readMany this_once this_lines this_facts this_pile this_state this_undos this_isMarked this_weight this_rounding this_lacks this_alikes this_g) (wd_X12_cutAll k this this_thrown this_tape this_tape_f R0.1 R0.2.1 this_sort R0.2.2.2.2.1 this_place R0.2.2.2.2.2.1 this_value R0.2.2.2.2.2.2 R0.2.2.1 R0.2.2.2.1 this_words this_towns this_op this_arg this_codes this_names this_readNames this_namesMany this_readMany this_once this_lines this_facts this_pile this_state this_undos this_isMarked this_weight this_rounding this_lacks this_alikes this_g) s.heap.size) args s 0 0 A) (F0 m 265 ls []) := by
    intro K17 hK17 x1 x2 x5 u_this_taped u_this_size u_this_at u_this_fault u_this_sort_f u_this_place_f u_this_value_f H locs ls hP hD hS hl hm
    unfold m_X12_cutAll_265 at hm
    refine lv_aload_n (pc := 265) hx hb dX12_cutAll_265 rfl (lv_at hl 0 rfl) ?_
    refine va_get (pc := 266) (D := D) (ci := 10) (C := RX12) (T := TX12) (N := 30) hx hb hts hiX12 hown hG.1 hP 0 rfl rfl 6 (Nat.le_of_ble_eq_true rfl) (hts _ kw_1263) (fun _ h9 => h9) rfl dX12_cutAll_266 ?_
    refine lv_iload_n (pc := 269) hx hb dX12_cutAll_269 rfl (lv_at hl 1 rfl) ?_
    refine lv_lload (pc := 270) hx hb dX12_cutAll_270 (lv_at hl 3 rfl) ?_
    obtain ⟨hin, hm⟩ := gd hm
    refine va_last (pc := 272) (D := D) hx hb hG.1 hP hD hS 4 1 rfl rfl hin dX12_cutAll_272 (fun H locs hP hD hS => ?_)
    have hP : va_P D vwCl (wd_X12_cutAll k this this_thrown this_tape this_tape_f u_this_taped u_this_size this_sort u_this_sort_f this_place u_this_place_f this_value (vp_updL u_this_value_f x1.toNatClampNeg x5) u_this_at u_this_fault this_words this_towns this_op this_arg this_codes this_names this_readNames this_namesMany this_readMany this_once this_lines this_facts this_pile this_state this_undos this_isMarked this_weight this_rounding this_lacks this_alikes this_g) H := hP
    have hD : va_D A (wd_X12_cutAll k this this_thrown this_tape this_tape_f u_this_taped u_this_size this_sort u_this_sort_f this_place u_this_place_f this_value (vp_updL u_this_value_f x1.toNatClampNeg x5) u_this_at u_this_fault this_words this_towns this_op this_arg this_codes this_names this_readNames this_namesMany this_readMany this_once this_lines this_facts this_pile this_state this_undos this_isMarked this_weight this_rounding this_lacks this_alikes this_g) := hD
    refine lv_iinc (k := 1) (v := x1 + 1) (lv' := [(1, .int (x1 + 1)), (0, .ref this), (2, .int x2), (5, .long x5)]) (pc := 273) hx hb dX12_cutAll_273 hl rfl rfl (Nat.le_of_ble_eq_true rfl) rfl (fun ls hl => ?_)
    refine lv_goto (tgt := 17) (pc := 276) hx hb dX12_cutAll_276 (by decide) ?_
    exact hK17 (x1 + 1) x2 u_this_taped u_this_size u_this_at u_this_fault u_this_sort_f u_this_place_f (vp_updL u_this_value_f x1.toNatClampNeg x5) H locs ls hP hD hS (lv_sub hl [1, 0, 2] rfl) hm
  have h_261 : ∀ (K17 : Int32 → Int32 → Int32 → Int32 → Int32 → Int32 → (Nat → Int32) → (Nat → Int32) → (Nat → Int64) → Option (Int32 × Int32 × Int32 × Int32 × (Nat → Int32) × (Nat → Int32) × (Nat → Int64))) (hK17 : ∀ (x1 : Int32) (x2 : Int32) (u_this_taped : Int32) (u_this_size : Int32) (u_this_at : Int32) (u_this_fault : Int32) (u_this_sort_f : Nat → Int32) (u_this_place_f : Nat → Int32) (u_this_value_f : Nat → Int64) (H : Heap) (locs : List Loc) (ls : Array Slot), va_P D vwCl (wd_X12_cutAll k this this_thrown this_tape this_tape_f u_this_taped u_this_size this_sort u_this_sort_f this_place u_this_place_f this_value u_this_value_f u_this_at u_this_fault this_words this_towns this_op this_arg this_codes this_names this_readNames this_namesMany this_readMany this_once this_lines this_facts this_pile this_state this_undos this_isMarked this_weight this_rounding this_lacks this_alikes this_g) H → va_D A (wd_X12_cutAll k this this_thrown this_tape this_tape_f u_this_taped u_this_size this_sort u_this_sort_f this_place u_this_place_f this_value u_this_value_f u_this_at u_this_fault this_words this_towns this_op this_arg this_codes this_names this_readNames this_namesMany this_readMany this_once this_lines this_facts this_pile this_state this_undos this_isMarked this_weight this_rounding this_lacks this_alikes this_g) → va_S A s.heap H locs → lv_has ls 7 [(0, .ref this), (1, .int x1), (2, .int x2)] → K17 x1 x2 u_this_taped u_this_size u_this_at u_this_fault u_this_sort_f u_this_place_f u_this_value_f = some R0 → W p l e (Rm 2 40) s m args below meth c H locs 0 0 (MQ below (QW D none (wd_X12_cutAll k this this_thrown this_tape this_tape_f this_taped this_size this_sort this_sort_f this_place this_place_f this_value this_value_f this_at this_fault this_words this_towns this_op this_arg this_codes this_names this_readNames this_namesMany this_readMany this_once this_lines this_facts this_pile this_state this_undos this_isMarked this_weight this_rounding this_lacks this_alikes this_g) (wd_X12_cutAll k this this_thrown this_tape this_tape_f R0.1 R0.2.1 this_sort R0.2.2.2.2.1 this_place R0.2.2.2.2.2.1 this_value R0.2.2.2.2.2.2 R0.2.2.1 R0.2.2.2.1 this_words this_towns this_op this_arg this_codes this_names this_readNames this_namesMany this_readMany this_once this_lines this_facts this_pile this_state this_undos this_isMarked this_weight this_rounding this_lacks this_alikes this_g) s.heap.size) args s 0 0 A) (F0 m 17 ls [])), ∀ (x1 : Int32) (x2 : Int32) (x5 : Int64) (t0 : Int32) (t1 : Int32) (u_this_taped : Int32) (u_this_size : Int32) (u_this_at : Int32) (u_this_fault : Int32) (u_this_sort_f : Nat → Int32) (u_this_place_f : Nat → Int32) (u_this_value_f : Nat → Int64) (H : Heap) (locs : List Loc) (ls : Array Slot), va_P D vwCl (wd_X12_cutAll k this this_thrown this_tape this_tape_f u_this_taped u_this_size this_sort u_this_sort_f this_place u_this_place_f this_value u_this_value_f u_this_at u_this_fault this_words this_towns this_op this_arg this_codes this_names this_readNames this_namesMany this_readMany this_once this_lines this_facts this_pile this_state this_undos this_isMarked this_weight this_rounding this_lacks this_alikes this_g) H → va_D A (wd_X12_cutAll k this this_thrown this_tape this_tape_f u_this_taped u_this_size this_sort u_this_sort_f this_place u_this_place_f this_value u_this_value_f u_this_at u_this_fault this_words this_towns this_op this_arg this_codes this_names this_readNames this_namesMany this_readMany this_once this_lines this_facts this_pile this_state this_undos this_isMarked this_weight this_rounding this_lacks this_alikes this_g) → va_S A s.heap H locs → lv_has ls 7 [(0, .ref this), (1, .int x1), (2, .int x2), (5, .long x5)] → m_X12_cutAll_261 this_tape_f K17 x1 x2 x5 t0 t1 u_this_taped u_this_size u_this_at u_this_fault u_this_sort_f u_this_place_f u_this_value_f = some R0 → W p l e (Rm 2 40) s m args below meth c H locs 0 0 (MQ below (QW D none (wd_X12_cutAll k this this_thrown this_tape this_tape_f this_taped this_size this_sort this_sort_f this_place this_place_f this_value this_value_f this_at this_fault this_words this_towns this_op this_arg this_codes this_names this_readNames this_namesMany this_readMany this_once this_lines this_facts this_pile this_state this_undos this_isMarked this_weight this_rounding this_lacks this_alikes this_g) (wd_X12_cutAll k this this_thrown this_tape this_tape_f R0.1 R0.2.1 this_sort R0.2.2.2.2.1 this_place R0.2.2.2.2.2.1 this_value R0.2.2.2.2.2.2 R0.2.2.1 R0.2.2.2.1 this_words this_towns this_op this_arg this_codes this_names this_readNames this_namesMany this_readMany this_once this_lines this_facts this_pile this_state this_undos this_isMarked this_weight this_rounding this_lacks this_alikes this_g) s.heap.size) args s 0 0 A) (F0 m 261 ls [.int t0, .int t1, .ref this_sort]) := by
    intro K17 hK17 x1 x2 x5 t0 t1 u_this_taped u_this_size u_this_at u_this_fault u_this_sort_f u_this_place_f u_this_value_f H locs ls hP hD hS hl hm
    unfold m_X12_cutAll_261 at hm
    obtain ⟨hin, hm⟩ := gd hm
    refine va_iast (pc := 261) (D := D) hx hb hG.1 hP hD hS 2 0 rfl rfl hin dX12_cutAll_261 (fun H locs hP hD hS => ?_)
    have hP : va_P D vwCl (wd_X12_cutAll k this this_thrown this_tape this_tape_f u_this_taped u_this_size this_sort (upd u_this_sort_f t1.toNatClampNeg t0) this_place u_this_place_f this_value u_this_value_f u_this_at u_this_fault this_words this_towns this_op this_arg this_codes this_names this_readNames this_namesMany this_readMany this_once this_lines this_facts this_pile this_state this_undos this_isMarked this_weight this_rounding this_lacks this_alikes this_g) H := hP
    have hD : va_D A (wd_X12_cutAll k this this_thrown this_tape this_tape_f u_this_taped u_this_size this_sort (upd u_this_sort_f t1.toNatClampNeg t0) this_place u_this_place_f this_value u_this_value_f u_this_at u_this_fault this_words this_towns this_op this_arg this_codes this_names this_readNames this_namesMany this_readMany this_once this_lines this_facts this_pile this_state this_undos this_isMarked this_weight this_rounding this_lacks this_alikes this_g) := hD
    refine lv_iinc (k := 2) (v := x2 + 1) (lv' := [(2, .int (x2 + 1)), (0, .ref this), (1, .int x1), (5, .long x5)]) (pc := 262) hx hb dX12_cutAll_262 hl rfl rfl (Nat.le_of_ble_eq_true rfl) rfl (fun ls hl => ?_)
    exact h_265 K17 hK17 x1 (x2 + 1) x5 u_this_taped u_this_size u_this_at u_this_fault (upd u_this_sort_f t1.toNatClampNeg t0) u_this_place_f u_this_value_f H locs ls hP hD hS (lv_sub hl [1, 2, 0, 3] rfl) hm
  have h_236 : ∀ (K17 : Int32 → Int32 → Int32 → Int32 → Int32 → Int32 → (Nat → Int32) → (Nat → Int32) → (Nat → Int64) → Option (Int32 × Int32 × Int32 × Int32 × (Nat → Int32) × (Nat → Int32) × (Nat → Int64))) (hK17 : ∀ (x1 : Int32) (x2 : Int32) (u_this_taped : Int32) (u_this_size : Int32) (u_this_at : Int32) (u_this_fault : Int32) (u_this_sort_f : Nat → Int32) (u_this_place_f : Nat → Int32) (u_this_value_f : Nat → Int64) (H : Heap) (locs : List Loc) (ls : Array Slot), va_P D vwCl (wd_X12_cutAll k this this_thrown this_tape this_tape_f u_this_taped u_this_size this_sort u_this_sort_f this_place u_this_place_f this_value u_this_value_f u_this_at u_this_fault this_words this_towns this_op this_arg this_codes this_names this_readNames this_namesMany this_readMany this_once this_lines this_facts this_pile this_state this_undos this_isMarked this_weight this_rounding this_lacks this_alikes this_g) H → va_D A (wd_X12_cutAll k this this_thrown this_tape this_tape_f u_this_taped u_this_size this_sort u_this_sort_f this_place u_this_place_f this_value u_this_value_f u_this_at u_this_fault this_words this_towns this_op this_arg this_codes this_names this_readNames this_namesMany this_readMany this_once this_lines this_facts this_pile this_state this_undos this_isMarked this_weight this_rounding this_lacks this_alikes this_g) → va_S A s.heap H locs → lv_has ls 7 [(0, .ref this), (1, .int x1), (2, .int x2)] → K17 x1 x2 u_this_taped u_this_size u_this_at u_this_fault u_this_sort_f u_this_place_f u_this_value_f = some R0 → W p l e (Rm 2 40) s m args below meth c H locs 0 0 (MQ below (QW D none (wd_X12_cutAll k this this_thrown this_tape this_tape_f this_taped this_size this_sort this_sort_f this_place this_place_f this_value this_value_f this_at this_fault this_words this_towns this_op this_arg this_codes this_names this_readNames this_namesMany this_readMany this_once this_lines this_facts this_pile this_state this_undos this_isMarked this_weight this_rounding this_lacks this_alikes this_g) (wd_X12_cutAll k this this_thrown this_tape this_tape_f R0.1 R0.2.1 this_sort R0.2.2.2.2.1 this_place R0.2.2.2.2.2.1 this_value R0.2.2.2.2.2.2 R0.2.2.1 R0.2.2.2.1 this_words this_towns this_op this_arg this_codes this_names this_readNames this_namesMany this_readMany this_once this_lines this_facts this_pile this_state this_undos this_isMarked this_weight this_rounding this_lacks this_alikes this_g) s.heap.size) args s 0 0 A) (F0 m 17 ls [])), ∀ (x1 : Int32) (x2 : Int32) (x5 : Int64) (t0 : Int32) (t1 : Int32) (u_this_taped : Int32) (u_this_size : Int32) (u_this_at : Int32) (u_this_fault : Int32) (u_this_sort_f : Nat → Int32) (u_this_place_f : Nat → Int32) (u_this_value_f : Nat → Int64) (H : Heap) (locs : List Loc) (ls : Array Slot), va_P D vwCl (wd_X12_cutAll k this this_thrown this_tape this_tape_f u_this_taped u_this_size this_sort u_this_sort_f this_place u_this_place_f this_value u_this_value_f u_this_at u_this_fault this_words this_towns this_op this_arg this_codes this_names this_readNames this_namesMany this_readMany this_once this_lines this_facts this_pile this_state this_undos this_isMarked this_weight this_rounding this_lacks this_alikes this_g) H → va_D A (wd_X12_cutAll k this this_thrown this_tape this_tape_f u_this_taped u_this_size this_sort u_this_sort_f this_place u_this_place_f this_value u_this_value_f u_this_at u_this_fault this_words this_towns this_op this_arg this_codes this_names this_readNames this_namesMany this_readMany this_once this_lines this_facts this_pile this_state this_undos this_isMarked this_weight this_rounding this_lacks this_alikes this_g) → va_S A s.heap H locs → lv_has ls 7 [(0, .ref this), (1, .int x1), (2, .int x2), (5, .long x5)] → m_X12_cutAll_236 this_tape_f K17 x1 x2 x5 t0 t1 u_this_taped u_this_size u_this_at u_this_fault u_this_sort_f u_this_place_f u_this_value_f = some R0 → W p l e (Rm 2 40) s m args below meth c H locs 0 0 (MQ below (QW D none (wd_X12_cutAll k this this_thrown this_tape this_tape_f this_taped this_size this_sort this_sort_f this_place this_place_f this_value this_value_f this_at this_fault this_words this_towns this_op this_arg this_codes this_names this_readNames this_namesMany this_readMany this_once this_lines this_facts this_pile this_state this_undos this_isMarked this_weight this_rounding this_lacks this_alikes this_g) (wd_X12_cutAll k this this_thrown this_tape this_tape_f R0.1 R0.2.1 this_sort R0.2.2.2.2.1 this_place R0.2.2.2.2.2.1 this_value R0.2.2.2.2.2.2 R0.2.2.1 R0.2.2.2.1 this_words this_towns this_op this_arg this_codes this_names this_readNames this_namesMany this_readMany this_once this_lines this_facts this_pile this_state this_undos this_isMarked this_weight this_rounding this_lacks this_alikes this_g) s.heap.size) args s 0 0 A) (F0 m 236 ls [.int t0, .int t1, .ref this_sort]) := by
    intro K17 hK17 x1 x2 x5 t0 t1 u_this_taped u_this_size u_this_at u_this_fault u_this_sort_f u_this_place_f u_this_value_f H locs ls hP hD hS hl hm
    unfold m_X12_cutAll_236 at hm
    obtain ⟨hin, hm⟩ := gd hm
    refine va_iast (pc := 236) (D := D) hx hb hG.1 hP hD hS 2 0 rfl rfl hin dX12_cutAll_236 (fun H locs hP hD hS => ?_)
    have hP : va_P D vwCl (wd_X12_cutAll k this this_thrown this_tape this_tape_f u_this_taped u_this_size this_sort (upd u_this_sort_f t1.toNatClampNeg t0) this_place u_this_place_f this_value u_this_value_f u_this_at u_this_fault this_words this_towns this_op this_arg this_codes this_names this_readNames this_namesMany this_readMany this_once this_lines this_facts this_pile this_state this_undos this_isMarked this_weight this_rounding this_lacks this_alikes this_g) H := hP
    have hD : va_D A (wd_X12_cutAll k this this_thrown this_tape this_tape_f u_this_taped u_this_size this_sort (upd u_this_sort_f t1.toNatClampNeg t0) this_place u_this_place_f this_value u_this_value_f u_this_at u_this_fault this_words this_towns this_op this_arg this_codes this_names this_readNames this_namesMany this_readMany this_once this_lines this_facts this_pile this_state this_undos this_isMarked this_weight this_rounding this_lacks this_alikes this_g) := hD
    refine lv_goto (tgt := 265) (pc := 237) hx hb dX12_cutAll_237 (by decide) ?_
    exact h_265 K17 hK17 x1 x2 x5 u_this_taped u_this_size u_this_at u_this_fault (upd u_this_sort_f t1.toNatClampNeg t0) u_this_place_f u_this_value_f H locs ls hP hD hS (lv_sub hl [0, 1, 2, 3] rfl) hm
  have h_218 : ∀ (K17 : Int32 → Int32 → Int32 → Int32 → Int32 → Int32 → (Nat → Int32) → (Nat → Int32) → (Nat → Int64) → Option (Int32 × Int32 × Int32 × Int32 × (Nat → Int32) × (Nat → Int32) × (Nat → Int64))) (hK17 : ∀ (x1 : Int32) (x2 : Int32) (u_this_taped : Int32) (u_this_size : Int32) (u_this_at : Int32) (u_this_fault : Int32) (u_this_sort_f : Nat → Int32) (u_this_place_f : Nat → Int32) (u_this_value_f : Nat → Int64) (H : Heap) (locs : List Loc) (ls : Array Slot), va_P D vwCl (wd_X12_cutAll k this this_thrown this_tape this_tape_f u_this_taped u_this_size this_sort u_this_sort_f this_place u_this_place_f this_value u_this_value_f u_this_at u_this_fault this_words this_towns this_op this_arg this_codes this_names this_readNames this_namesMany this_readMany this_once this_lines this_facts this_pile this_state this_undos this_isMarked this_weight this_rounding this_lacks this_alikes this_g) H → va_D A (wd_X12_cutAll k this this_thrown this_tape this_tape_f u_this_taped u_this_size this_sort u_this_sort_f this_place u_this_place_f this_value u_this_value_f u_this_at u_this_fault this_words this_towns this_op this_arg this_codes this_names this_readNames this_namesMany this_readMany this_once this_lines this_facts this_pile this_state this_undos this_isMarked this_weight this_rounding this_lacks this_alikes this_g) → va_S A s.heap H locs → lv_has ls 7 [(0, .ref this), (1, .int x1), (2, .int x2)] → K17 x1 x2 u_this_taped u_this_size u_this_at u_this_fault u_this_sort_f u_this_place_f u_this_value_f = some R0 → W p l e (Rm 2 40) s m args below meth c H locs 0 0 (MQ below (QW D none (wd_X12_cutAll k this this_thrown this_tape this_tape_f this_taped this_size this_sort this_sort_f this_place this_place_f this_value this_value_f this_at this_fault this_words this_towns this_op this_arg this_codes this_names this_readNames this_namesMany this_readMany this_once this_lines this_facts this_pile this_state this_undos this_isMarked this_weight this_rounding this_lacks this_alikes this_g) (wd_X12_cutAll k this this_thrown this_tape this_tape_f R0.1 R0.2.1 this_sort R0.2.2.2.2.1 this_place R0.2.2.2.2.2.1 this_value R0.2.2.2.2.2.2 R0.2.2.1 R0.2.2.2.1 this_words this_towns this_op this_arg this_codes this_names this_readNames this_namesMany this_readMany this_once this_lines this_facts this_pile this_state this_undos this_isMarked this_weight this_rounding this_lacks this_alikes this_g) s.heap.size) args s 0 0 A) (F0 m 17 ls [])), ∀ (x1 : Int32) (x2 : Int32) (x4 : Int32) (x5 : Int64) (u_this_taped : Int32) (u_this_size : Int32) (u_this_at : Int32) (u_this_fault : Int32) (u_this_sort_f : Nat → Int32) (u_this_place_f : Nat → Int32) (u_this_value_f : Nat → Int64) (H : Heap) (locs : List Loc) (ls : Array Slot), va_P D vwCl (wd_X12_cutAll k this this_thrown this_tape this_tape_f u_this_taped u_this_size this_sort u_this_sort_f this_place u_this_place_f this_value u_this_value_f u_this_at u_this_fault this_words this_towns this_op this_arg this_codes this_names this_readNames this_namesMany this_readMany this_once this_lines this_facts this_pile this_state this_undos this_isMarked this_weight this_rounding this_lacks this_alikes this_g) H → va_D A (wd_X12_cutAll k this this_thrown this_tape this_tape_f u_this_taped u_this_size this_sort u_this_sort_f this_place u_this_place_f this_value u_this_value_f u_this_at u_this_fault this_words this_towns this_op this_arg this_codes this_names this_readNames this_namesMany this_readMany this_once this_lines this_facts this_pile this_state this_undos this_isMarked this_weight this_rounding this_lacks this_alikes this_g) → va_S A s.heap H locs → lv_has ls 7 [(0, .ref this), (1, .int x1), (2, .int x2), (4, .int x4), (5, .long x5)] → m_X12_cutAll_218 this_tape_f K17 x1 x2 x4 x5 u_this_taped u_this_size u_this_at u_this_fault u_this_sort_f u_this_place_f u_this_value_f = some R0 → W p l e (Rm 2 40) s m args below meth c H locs 0 0 (MQ below (QW D none (wd_X12_cutAll k this this_thrown this_tape this_tape_f this_taped this_size this_sort this_sort_f this_place this_place_f this_value this_value_f this_at this_fault this_words this_towns this_op this_arg this_codes this_names this_readNames this_namesMany this_readMany this_once this_lines this_facts this_pile this_state this_undos this_isMarked this_weight this_rounding this_lacks this_alikes this_g) (wd_X12_cutAll k this this_thrown this_tape this_tape_f R0.1 R0.2.1 this_sort R0.2.2.2.2.1 this_place R0.2.2.2.2.2.1 this_value R0.2.2.2.2.2.2 R0.2.2.1 R0.2.2.2.1 this_words this_towns this_op this_arg this_codes this_names this_readNames this_namesMany this_readMany this_once this_lines this_facts this_pile this_state this_undos this_isMarked this_weight this_rounding this_lacks this_alikes this_g) s.heap.size) args s 0 0 A) (F0 m 218 ls []) := by
    intro K17 hK17 x1 x2 x4 x5 u_this_taped u_this_size u_this_at u_this_fault u_this_sort_f u_this_place_f u_this_value_f H locs ls hP hD hS hl hm
    unfold m_X12_cutAll_218 at hm
    refine lv_aload_n (pc := 218) hx hb dX12_cutAll_218 rfl (lv_at hl 0 rfl) ?_
    refine va_get (pc := 219) (D := D) (ci := 10) (C := RX12) (T := TX12) (N := 30) hx hb hts hiX12 hown hG.1 hP 0 rfl rfl 4 (Nat.le_of_ble_eq_true rfl) (hts _ kw_1261) (fun _ h9 => h9) rfl dX12_cutAll_219 ?_
    refine lv_iload_n (pc := 222) hx hb dX12_cutAll_222 rfl (lv_at hl 1 rfl) ?_
    refine lv_iload_n (pc := 223) hx hb dX12_cutAll_223 rfl (lv_at hl 2 rfl) ?_
    refine lv_iload (pc := 224) hx hb dX12_cutAll_224 (lv_at hl 3 rfl) ?_
    refine lv_isub (pc := 226) hx hb dX12_cutAll_226 ?_
    refine lv_iconst (v := 4) (pc := 227) hx hb dX12_cutAll_227 (by decide) ?_
    refine lv_icmp_le (tgt := 235) (pc := 228) hx hb dX12_cutAll_228 (by decide) (fun hc => ?_) (fun hc => ?_)
    · rw [if_pos hc] at hm
      refine lv_iconst (v := 2) (pc := 235) hx hb dX12_cutAll_235 (by decide) ?_
      exact h_236 K17 hK17 x1 x2 x5 2 x1 u_this_taped u_this_size u_this_at u_this_fault u_this_sort_f u_this_place_f u_this_value_f H locs ls hP hD hS (lv_sub hl [0, 1, 2, 4] rfl) hm
    · rw [if_neg hc] at hm
      refine lv_iconst (v := 4) (pc := 231) hx hb dX12_cutAll_231 (by decide) ?_
      refine lv_goto (tgt := 236) (pc := 232) hx hb dX12_cutAll_232 (by decide) ?_
      exact h_236 K17 hK17 x1 x2 x5 4 x1 u_this_taped u_this_size u_this_at u_this_fault u_this_sort_f u_this_place_f u_this_value_f H locs ls hP hD hS (lv_sub hl [0, 1, 2, 4] rfl) hm
  have h_159 : ∀ (K17 : Int32 → Int32 → Int32 → Int32 → Int32 → Int32 → (Nat → Int32) → (Nat → Int32) → (Nat → Int64) → Option (Int32 × Int32 × Int32 × Int32 × (Nat → Int32) × (Nat → Int32) × (Nat → Int64))) (hK17 : ∀ (x1 : Int32) (x2 : Int32) (u_this_taped : Int32) (u_this_size : Int32) (u_this_at : Int32) (u_this_fault : Int32) (u_this_sort_f : Nat → Int32) (u_this_place_f : Nat → Int32) (u_this_value_f : Nat → Int64) (H : Heap) (locs : List Loc) (ls : Array Slot), va_P D vwCl (wd_X12_cutAll k this this_thrown this_tape this_tape_f u_this_taped u_this_size this_sort u_this_sort_f this_place u_this_place_f this_value u_this_value_f u_this_at u_this_fault this_words this_towns this_op this_arg this_codes this_names this_readNames this_namesMany this_readMany this_once this_lines this_facts this_pile this_state this_undos this_isMarked this_weight this_rounding this_lacks this_alikes this_g) H → va_D A (wd_X12_cutAll k this this_thrown this_tape this_tape_f u_this_taped u_this_size this_sort u_this_sort_f this_place u_this_place_f this_value u_this_value_f u_this_at u_this_fault this_words this_towns this_op this_arg this_codes this_names this_readNames this_namesMany this_readMany this_once this_lines this_facts this_pile this_state this_undos this_isMarked this_weight this_rounding this_lacks this_alikes this_g) → va_S A s.heap H locs → lv_has ls 7 [(0, .ref this), (1, .int x1), (2, .int x2)] → K17 x1 x2 u_this_taped u_this_size u_this_at u_this_fault u_this_sort_f u_this_place_f u_this_value_f = some R0 → W p l e (Rm 2 40) s m args below meth c H locs 0 0 (MQ below (QW D none (wd_X12_cutAll k this this_thrown this_tape this_tape_f this_taped this_size this_sort this_sort_f this_place this_place_f this_value this_value_f this_at this_fault this_words this_towns this_op this_arg this_codes this_names this_readNames this_namesMany this_readMany this_once this_lines this_facts this_pile this_state this_undos this_isMarked this_weight this_rounding this_lacks this_alikes this_g) (wd_X12_cutAll k this this_thrown this_tape this_tape_f R0.1 R0.2.1 this_sort R0.2.2.2.2.1 this_place R0.2.2.2.2.2.1 this_value R0.2.2.2.2.2.2 R0.2.2.1 R0.2.2.2.1 this_words this_towns this_op this_arg this_codes this_names this_readNames this_namesMany this_readMany this_once this_lines this_facts this_pile this_state this_undos this_isMarked this_weight this_rounding this_lacks this_alikes this_g) s.heap.size) args s 0 0 A) (F0 m 17 ls [])), ∀ (n : Nat), ∀ (x1 : Int32) (x2 : Int32) (x4 : Int32) (x5 : Int64) (u_this_taped : Int32) (u_this_size : Int32) (u_this_at : Int32) (u_this_fault : Int32) (u_this_sort_f : Nat → Int32) (u_this_place_f : Nat → Int32) (u_this_value_f : Nat → Int64) (H : Heap) (locs : List Loc) (ls : Array Slot), va_P D vwCl (wd_X12_cutAll k this this_thrown this_tape this_tape_f u_this_taped u_this_size this_sort u_this_sort_f this_place u_this_place_f this_value u_this_value_f u_this_at u_this_fault this_words this_towns this_op this_arg this_codes this_names this_readNames this_namesMany this_readMany this_once this_lines this_facts this_pile this_state this_undos this_isMarked this_weight this_rounding this_lacks this_alikes this_g) H → va_D A (wd_X12_cutAll k this this_thrown this_tape this_tape_f u_this_taped u_this_size this_sort u_this_sort_f this_place u_this_place_f this_value u_this_value_f u_this_at u_this_fault this_words this_towns this_op this_arg this_codes this_names this_readNames this_namesMany this_readMany this_once this_lines this_facts this_pile this_state this_undos this_isMarked this_weight this_rounding this_lacks this_alikes this_g) → va_S A s.heap H locs → lv_has ls 7 [(0, .ref this), (1, .int x1), (2, .int x2), (4, .int x4), (5, .long x5)] → m_X12_cutAll_159 this_tape_f K17 n x1 x2 x4 x5 u_this_taped u_this_size u_this_at u_this_fault u_this_sort_f u_this_place_f u_this_value_f = some R0 → W p l e (Rm 2 40) s m args below meth c H locs 0 0 (MQ below (QW D none (wd_X12_cutAll k this this_thrown this_tape this_tape_f this_taped this_size this_sort this_sort_f this_place this_place_f this_value this_value_f this_at this_fault this_words this_towns this_op this_arg this_codes this_names this_readNames this_namesMany this_readMany this_once this_lines this_facts this_pile this_state this_undos this_isMarked this_weight this_rounding this_lacks this_alikes this_g) (wd_X12_cutAll k this this_thrown this_tape this_tape_f R0.1 R0.2.1 this_sort R0.2.2.2.2.1 this_place R0.2.2.2.2.2.1 this_value R0.2.2.2.2.2.2 R0.2.2.1 R0.2.2.2.1 this_words this_towns this_op this_arg this_codes this_names this_readNames this_namesMany this_readMany this_once this_lines this_facts this_pile this_state this_undos this_isMarked this_weight this_rounding this_lacks this_alikes this_g) s.heap.size) args s 0 0 A) (F0 m 159 ls []) := by
    intro K17 hK17
    intro n
    induction n with
    | zero => intro x1 x2 x4 x5 u_this_taped u_this_size u_this_at u_this_fault u_this_sort_f u_this_place_f u_this_value_f H locs ls hP hD hS hl hm; cases hm
    | succ n ih =>
      intro x1 x2 x4 x5 u_this_taped u_this_size u_this_at u_this_fault u_this_sort_f u_this_place_f u_this_value_f H locs ls hP hD hS hl hm
      unfold m_X12_cutAll_159 at hm
      refine lv_iload_n (pc := 159) hx hb dX12_cutAll_159 rfl (lv_at hl 2 rfl) ?_
      refine lv_aload_n (pc := 160) hx hb dX12_cutAll_160 rfl (lv_at hl 0 rfl) ?_
      refine va_get (pc := 161) (D := D) (ci := 10) (C := RX12) (T := TX12) (N := 30) hx hb hts hiX12 hown hG.1 hP 0 rfl rfl 3 (Nat.le_of_ble_eq_true rfl) (hts _ kw_1260) (fun _ h9 => h9) rfl dX12_cutAll_161 ?_
      refine lv_icmp_ge (tgt := 218) (pc := 164) hx hb dX12_cutAll_164 (by decide) (fun hc => ?_) (fun hc => ?_)
      · rw [if_pos hc] at hm
        exact h_218 K17 hK17 x1 x2 x4 x5 u_this_taped u_this_size u_this_at u_this_fault u_this_sort_f u_this_place_f u_this_value_f H locs ls hP hD hS (lv_sub hl [0, 1, 2, 3, 4] rfl) hm
      · rw [if_neg hc] at hm
        refine lv_aload_n (pc := 167) hx hb dX12_cutAll_167 rfl (lv_at hl 0 rfl) ?_
        refine va_get (pc := 168) (D := D) (ci := 10) (C := RX12) (T := TX12) (N := 30) hx hb hts hiX12 hown hG.1 hP 0 rfl rfl 1 (Nat.le_of_ble_eq_true rfl) (hts _ kw_1258) (fun _ h9 => h9) rfl dX12_cutAll_168 ?_
        refine lv_iload_n (pc := 171) hx hb dX12_cutAll_171 rfl (lv_at hl 2 rfl) ?_
        obtain ⟨hin, hm⟩ := gd hm
        refine va_iald (pc := 172) (D := D) hx hb hG.1 hP 1 0 rfl rfl hin dX12_cutAll_172 ?_
        obtain ⟨r8, hcl, hm⟩ := bd hm
        refine cr_back (run_S (pc := 173) (n := 1) (As := [.int (this_tape_f x2.toNatClampNeg)]) (rest := []) ⟨hx, hb, hml, hown, hts⟩ (c_X12_isDigit l D k (this_tape_f x2.toNatClampNeg) r8 hcl) ⟨kw_1366, kw_16, by decide +kernel⟩ kw_1364 kw_1365 ⟨Nat.le_of_ble_eq_true rfl, Nat.le_of_ble_eq_true rfl⟩ pr_blind (prR (hP.sub [] rfl) hG) rfl hl.1 rfl (Nat.le_of_ble_eq_true rfl) dX12_cutAll_173 ⟨Nat.zero_le _, Nat.zero_le _⟩) ?_
        refine lv_if_eq (tgt := 218) (pc := 176) hx hb dX12_cutAll_176 (by decide) (fun hc => ?_) (fun hc => ?_)
        · rw [if_pos hc] at hm
          exact h_218 K17 hK17 x1 x2 x4 x5 u_this_taped u_this_size u_this_at u_this_fault u_this_sort_f u_this_place_f u_this_value_f H locs ls hP hD hS (lv_sub hl [0, 1, 2, 3, 4] rfl) hm
        · rw [if_neg hc] at hm
          refine lv_iload_n (pc := 179) hx hb dX12_cutAll_179 rfl (lv_at hl 2 rfl) ?_
          refine lv_iload (pc := 180) hx hb dX12_cutAll_180 (lv_at hl 3 rfl) ?_
          refine lv_isub (pc := 182) hx hb dX12_cutAll_182 ?_
          refine lv_iconst (v := 4) (pc := 183) hx hb dX12_cutAll_183 (by decide) ?_
          refine lv_icmp_ge (tgt := 208) (pc := 184) hx hb dX12_cutAll_184 (by decide) (fun hc => ?_) (fun hc => ?_)
          · rw [if_pos hc] at hm
            refine lv_lload (pc := 208) hx hb dX12_cutAll_208 (lv_at hl 4 rfl) ?_
            refine lv_lstore (lv' := [(5, .long x5), (0, .ref this), (1, .int x1), (2, .int x2), (4, .int x4)]) (pc := 210) hx hb dX12_cutAll_210 hl (Nat.le_of_ble_eq_true rfl) rfl (fun ls hl => ?_)
            refine lv_iinc (k := 3) (v := x2 + 1) (lv' := [(2, .int (x2 + 1)), (5, .long x5), (0, .ref this), (1, .int x1), (4, .int x4)]) (pc := 212) hx hb dX12_cutAll_212 hl rfl rfl (Nat.le_of_ble_eq_true rfl) rfl (fun ls hl => ?_)
            refine lv_goto (tgt := 159) (pc := 215) hx hb dX12_cutAll_215 (by decide) ?_
            exact ih x1 (x2 + 1) x4 x5 u_this_taped u_this_size u_this_at u_this_fault u_this_sort_f u_this_place_f u_this_value_f H locs ls hP hD hS (lv_sub hl [2, 3, 0, 4, 1] rfl) hm
          · rw [if_neg hc] at hm
            refine lv_ldc2 (pc := 187) (own := RX12) hx hb hown (hts _ kw_1367) dX12_cutAll_187 ?_
            refine lv_lload (pc := 190) hx hb dX12_cutAll_190 (lv_at hl 4 rfl) ?_
            refine lv_lmul (pc := 192) hx hb dX12_cutAll_192 ?_
            refine lv_aload_n (pc := 193) hx hb dX12_cutAll_193 rfl (lv_at hl 0 rfl) ?_
            refine va_get (pc := 194) (D := D) (ci := 10) (C := RX12) (T := TX12) (N := 30) hx hb hts hiX12 hown hG.1 hP 0 rfl rfl 1 (Nat.le_of_ble_eq_true rfl) (hts _ kw_1258) (fun _ h9 => h9) rfl dX12_cutAll_194 ?_
            refine lv_iload_n (pc := 197) hx hb dX12_cutAll_197 rfl (lv_at hl 2 rfl) ?_
            obtain ⟨hin, hm⟩ := gd hm
            refine va_iald (pc := 198) (D := D) hx hb hG.1 hP 1 0 rfl rfl hin dX12_cutAll_198 ?_
            refine lv_i2l (pc := 199) hx hb dX12_cutAll_199 rfl ?_
            refine lv_ladd (pc := 200) hx hb dX12_cutAll_200 ?_
            refine lv_ldc2 (pc := 201) (own := RX12) hx hb hown (hts _ kw_1368) dX12_cutAll_201 ?_
            refine lv_lsub (pc := 204) hx hb dX12_cutAll_204 ?_
            refine lv_goto (tgt := 210) (pc := 205) hx hb dX12_cutAll_205 (by decide) ?_
            obtain ⟨z9, hv, hm⟩ := bd hm
            refine lv_topl (fun w ew => ?_)
            obtain rfl : z9 = w := (Option.some.inj hv).symm.trans ew.symm
            refine lv_lstore (lv' := [(5, .long z9), (0, .ref this), (1, .int x1), (2, .int x2), (4, .int x4)]) (pc := 210) hx hb dX12_cutAll_210 hl (Nat.le_of_ble_eq_true rfl) rfl (fun ls hl => ?_)
            refine lv_iinc (k := 3) (v := x2 + 1) (lv' := [(2, .int (x2 + 1)), (5, .long z9), (0, .ref this), (1, .int x1), (4, .int x4)]) (pc := 212) hx hb dX12_cutAll_212 hl rfl rfl (Nat.le_of_ble_eq_true rfl) rfl (fun ls hl => ?_)
            refine lv_goto (tgt := 159) (pc := 215) hx hb dX12_cutAll_215 (by decide) ?_
            exact ih x1 (x2 + 1) x4 z9 u_this_taped u_this_size u_this_at u_this_fault u_this_sort_f u_this_place_f u_this_value_f H locs ls hP hD hS (lv_sub hl [2, 3, 0, 4, 1] rfl) hm
  have h_148 : ∀ (K17 : Int32 → Int32 → Int32 → Int32 → Int32 → Int32 → (Nat → Int32) → (Nat → Int32) → (Nat → Int64) → Option (Int32 × Int32 × Int32 × Int32 × (Nat → Int32) × (Nat → Int32) × (Nat → Int64))) (hK17 : ∀ (x1 : Int32) (x2 : Int32) (u_this_taped : Int32) (u_this_size : Int32) (u_this_at : Int32) (u_this_fault : Int32) (u_this_sort_f : Nat → Int32) (u_this_place_f : Nat → Int32) (u_this_value_f : Nat → Int64) (H : Heap) (locs : List Loc) (ls : Array Slot), va_P D vwCl (wd_X12_cutAll k this this_thrown this_tape this_tape_f u_this_taped u_this_size this_sort u_this_sort_f this_place u_this_place_f this_value u_this_value_f u_this_at u_this_fault this_words this_towns this_op this_arg this_codes this_names this_readNames this_namesMany this_readMany this_once this_lines this_facts this_pile this_state this_undos this_isMarked this_weight this_rounding this_lacks this_alikes this_g) H → va_D A (wd_X12_cutAll k this this_thrown this_tape this_tape_f u_this_taped u_this_size this_sort u_this_sort_f this_place u_this_place_f this_value u_this_value_f u_this_at u_this_fault this_words this_towns this_op this_arg this_codes this_names this_readNames this_namesMany this_readMany this_once this_lines this_facts this_pile this_state this_undos this_isMarked this_weight this_rounding this_lacks this_alikes this_g) → va_S A s.heap H locs → lv_has ls 7 [(0, .ref this), (1, .int x1), (2, .int x2)] → K17 x1 x2 u_this_taped u_this_size u_this_at u_this_fault u_this_sort_f u_this_place_f u_this_value_f = some R0 → W p l e (Rm 2 40) s m args below meth c H locs 0 0 (MQ below (QW D none (wd_X12_cutAll k this this_thrown this_tape this_tape_f this_taped this_size this_sort this_sort_f this_place this_place_f this_value this_value_f this_at this_fault this_words this_towns this_op this_arg this_codes this_names this_readNames this_namesMany this_readMany this_once this_lines this_facts this_pile this_state this_undos this_isMarked this_weight this_rounding this_lacks this_alikes this_g) (wd_X12_cutAll k this this_thrown this_tape this_tape_f R0.1 R0.2.1 this_sort R0.2.2.2.2.1 this_place R0.2.2.2.2.2.1 this_value R0.2.2.2.2.2.2 R0.2.2.1 R0.2.2.2.1 this_words this_towns this_op this_arg this_codes this_names this_readNames this_namesMany this_readMany this_once this_lines this_facts this_pile this_state this_undos this_isMarked this_weight this_rounding this_lacks this_alikes this_g) s.heap.size) args s 0 0 A) (F0 m 17 ls [])), ∀ (x1 : Int32) (x2 : Int32) (x5 : Int64) (t0 : Int32) (t1 : Int32) (u_this_taped : Int32) (u_this_size : Int32) (u_this_at : Int32) (u_this_fault : Int32) (u_this_sort_f : Nat → Int32) (u_this_place_f : Nat → Int32) (u_this_value_f : Nat → Int64) (H : Heap) (locs : List Loc) (ls : Array Slot), va_P D vwCl (wd_X12_cutAll k this this_thrown this_tape this_tape_f u_this_taped u_this_size this_sort u_this_sort_f this_place u_this_place_f this_value u_this_value_f u_this_at u_this_fault this_words this_towns this_op this_arg this_codes this_names this_readNames this_namesMany this_readMany this_once this_lines this_facts this_pile this_state this_undos this_isMarked this_weight this_rounding this_lacks this_alikes this_g) H → va_D A (wd_X12_cutAll k this this_thrown this_tape this_tape_f u_this_taped u_this_size this_sort u_this_sort_f this_place u_this_place_f this_value u_this_value_f u_this_at u_this_fault this_words this_towns this_op this_arg this_codes this_names this_readNames this_namesMany this_readMany this_once this_lines this_facts this_pile this_state this_undos this_isMarked this_weight this_rounding this_lacks this_alikes this_g) → va_S A s.heap H locs → lv_has ls 7 [(0, .ref this), (1, .int x1), (2, .int x2), (5, .long x5)] → m_X12_cutAll_148 this_tape_f K17 x1 x2 x5 t0 t1 u_this_taped u_this_size u_this_at u_this_fault u_this_sort_f u_this_place_f u_this_value_f = some R0 → W p l e (Rm 2 40) s m args below meth c H locs 0 0 (MQ below (QW D none (wd_X12_cutAll k this this_thrown this_tape this_tape_f this_taped this_size this_sort this_sort_f this_place this_place_f this_value this_value_f this_at this_fault this_words this_towns this_op this_arg this_codes this_names this_readNames this_namesMany this_readMany this_once this_lines this_facts this_pile this_state this_undos this_isMarked this_weight this_rounding this_lacks this_alikes this_g) (wd_X12_cutAll k this this_thrown this_tape this_tape_f R0.1 R0.2.1 this_sort R0.2.2.2.2.1 this_place R0.2.2.2.2.2.1 this_value R0.2.2.2.2.2.2 R0.2.2.1 R0.2.2.2.1 this_words this_towns this_op this_arg this_codes this_names this_readNames this_namesMany this_readMany this_once this_lines this_facts this_pile this_state this_undos this_isMarked this_weight this_rounding this_lacks this_alikes this_g) s.heap.size) args s 0 0 A) (F0 m 148 ls [.int t0, .int t1, .ref this_sort]) := by
    intro K17 hK17 x1 x2 x5 t0 t1 u_this_taped u_this_size u_this_at u_this_fault u_this_sort_f u_this_place_f u_this_value_f H locs ls hP hD hS hl hm
    unfold m_X12_cutAll_148 at hm
    obtain ⟨hin, hm⟩ := gd hm
    refine va_iast (pc := 148) (D := D) hx hb hG.1 hP hD hS 2 0 rfl rfl hin dX12_cutAll_148 (fun H locs hP hD hS => ?_)
    have hP : va_P D vwCl (wd_X12_cutAll k this this_thrown this_tape this_tape_f u_this_taped u_this_size this_sort (upd u_this_sort_f t1.toNatClampNeg t0) this_place u_this_place_f this_value u_this_value_f u_this_at u_this_fault this_words this_towns this_op this_arg this_codes this_names this_readNames this_namesMany this_readMany this_once this_lines this_facts this_pile this_state this_undos this_isMarked this_weight this_rounding this_lacks this_alikes this_g) H := hP
    have hD : va_D A (wd_X12_cutAll k this this_thrown this_tape this_tape_f u_this_taped u_this_size this_sort (upd u_this_sort_f t1.toNatClampNeg t0) this_place u_this_place_f this_value u_this_value_f u_this_at u_this_fault this_words this_towns this_op this_arg this_codes this_names this_readNames this_namesMany this_readMany this_once this_lines this_facts this_pile this_state this_undos this_isMarked this_weight this_rounding this_lacks this_alikes this_g) := hD
    refine lv_goto (tgt := 265) (pc := 149) hx hb dX12_cutAll_149 (by decide) ?_
    exact h_265 K17 hK17 x1 x2 x5 u_this_taped u_this_size u_this_at u_this_fault (upd u_this_sort_f t1.toNatClampNeg t0) u_this_place_f u_this_value_f H locs ls hP hD hS (lv_sub hl [0, 1, 2, 3] rfl) hm
  have h_129 : ∀ (K17 : Int32 → Int32 → Int32 → Int32 → Int32 → Int32 → (Nat → Int32) → (Nat → Int32) → (Nat → Int64) → Option (Int32 × Int32 × Int32 × Int32 × (Nat → Int32) × (Nat → Int32) × (Nat → Int64))) (hK17 : ∀ (x1 : Int32) (x2 : Int32) (u_this_taped : Int32) (u_this_size : Int32) (u_this_at : Int32) (u_this_fault : Int32) (u_this_sort_f : Nat → Int32) (u_this_place_f : Nat → Int32) (u_this_value_f : Nat → Int64) (H : Heap) (locs : List Loc) (ls : Array Slot), va_P D vwCl (wd_X12_cutAll k this this_thrown this_tape this_tape_f u_this_taped u_this_size this_sort u_this_sort_f this_place u_this_place_f this_value u_this_value_f u_this_at u_this_fault this_words this_towns this_op this_arg this_codes this_names this_readNames this_namesMany this_readMany this_once this_lines this_facts this_pile this_state this_undos this_isMarked this_weight this_rounding this_lacks this_alikes this_g) H → va_D A (wd_X12_cutAll k this this_thrown this_tape this_tape_f u_this_taped u_this_size this_sort u_this_sort_f this_place u_this_place_f this_value u_this_value_f u_this_at u_this_fault this_words this_towns this_op this_arg this_codes this_names this_readNames this_namesMany this_readMany this_once this_lines this_facts this_pile this_state this_undos this_isMarked this_weight this_rounding this_lacks this_alikes this_g) → va_S A s.heap H locs → lv_has ls 7 [(0, .ref this), (1, .int x1), (2, .int x2)] → K17 x1 x2 u_this_taped u_this_size u_this_at u_this_fault u_this_sort_f u_this_place_f u_this_value_f = some R0 → W p l e (Rm 2 40) s m args below meth c H locs 0 0 (MQ below (QW D none (wd_X12_cutAll k this this_thrown this_tape this_tape_f this_taped this_size this_sort this_sort_f this_place this_place_f this_value this_value_f this_at this_fault this_words this_towns this_op this_arg this_codes this_names this_readNames this_namesMany this_readMany this_once this_lines this_facts this_pile this_state this_undos this_isMarked this_weight this_rounding this_lacks this_alikes this_g) (wd_X12_cutAll k this this_thrown this_tape this_tape_f R0.1 R0.2.1 this_sort R0.2.2.2.2.1 this_place R0.2.2.2.2.2.1 this_value R0.2.2.2.2.2.2 R0.2.2.1 R0.2.2.2.1 this_words this_towns this_op this_arg this_codes this_names this_readNames this_namesMany this_readMany this_once this_lines this_facts this_pile this_state this_undos this_isMarked this_weight this_rounding this_lacks this_alikes this_g) s.heap.size) args s 0 0 A) (F0 m 17 ls [])), ∀ (x1 : Int32) (x2 : Int32) (x4 : Int32) (x5 : Int64) (u_this_taped : Int32) (u_this_size : Int32) (u_this_at : Int32) (u_this_fault : Int32) (u_this_sort_f : Nat → Int32) (u_this_place_f : Nat → Int32) (u_this_value_f : Nat → Int64) (H : Heap) (locs : List Loc) (ls : Array Slot), va_P D vwCl (wd_X12_cutAll k this this_thrown this_tape this_tape_f u_this_taped u_this_size this_sort u_this_sort_f this_place u_this_place_f this_value u_this_value_f u_this_at u_this_fault this_words this_towns this_op this_arg this_codes this_names this_readNames this_namesMany this_readMany this_once this_lines this_facts this_pile this_state this_undos this_isMarked this_weight this_rounding this_lacks this_alikes this_g) H → va_D A (wd_X12_cutAll k this this_thrown this_tape this_tape_f u_this_taped u_this_size this_sort u_this_sort_f this_place u_this_place_f this_value u_this_value_f u_this_at u_this_fault this_words this_towns this_op this_arg this_codes this_names this_readNames this_namesMany this_readMany this_once this_lines this_facts this_pile this_state this_undos this_isMarked this_weight this_rounding this_lacks this_alikes this_g) → va_S A s.heap H locs → lv_has ls 7 [(0, .ref this), (1, .int x1), (2, .int x2), (4, .int x4), (5, .long x5)] → m_X12_cutAll_129 this_tape_f K17 x1 x2 x4 x5 u_this_taped u_this_size u_this_at u_this_fault u_this_sort_f u_this_place_f u_this_value_f = some R0 → W p l e (Rm 2 40) s m args below meth c H locs 0 0 (MQ below (QW D none (wd_X12_cutAll k this this_thrown this_tape this_tape_f this_taped this_size this_sort this_sort_f this_place this_place_f this_value this_value_f this_at this_fault this_words this_towns this_op this_arg this_codes this_names this_readNames this_namesMany this_readMany this_once this_lines this_facts this_pile this_state this_undos this_isMarked this_weight this_rounding this_lacks this_alikes this_g) (wd_X12_cutAll k this this_thrown this_tape this_tape_f R0.1 R0.2.1 this_sort R0.2.2.2.2.1 this_place R0.2.2.2.2.2.1 this_value R0.2.2.2.2.2.2 R0.2.2.1 R0.2.2.2.1 this_words this_towns this_op this_arg this_codes this_names this_readNames this_namesMany this_readMany this_once this_lines this_facts this_pile this_state this_undos this_isMarked this_weight this_rounding this_lacks this_alikes this_g) s.heap.size) args s 0 0 A) (F0 m 129 ls []) := by
    intro K17 hK17 x1 x2 x4 x5 u_this_taped u_this_size u_this_at u_this_fault u_this_sort_f u_this_place_f u_this_value_f H locs ls hP hD hS hl hm
    unfold m_X12_cutAll_129 at hm
    refine lv_aload_n (pc := 129) hx hb dX12_cutAll_129 rfl (lv_at hl 0 rfl) ?_
    refine va_get (pc := 130) (D := D) (ci := 10) (C := RX12) (T := TX12) (N := 30) hx hb hts hiX12 hown hG.1 hP 0 rfl rfl 4 (Nat.le_of_ble_eq_true rfl) (hts _ kw_1261) (fun _ h9 => h9) rfl dX12_cutAll_130 ?_
    refine lv_iload_n (pc := 133) hx hb dX12_cutAll_133 rfl (lv_at hl 1 rfl) ?_
    refine lv_iload_n (pc := 134) hx hb dX12_cutAll_134 rfl (lv_at hl 2 rfl) ?_
    refine lv_iload (pc := 135) hx hb dX12_cutAll_135 (lv_at hl 3 rfl) ?_
    refine lv_isub (pc := 137) hx hb dX12_cutAll_137 ?_
    refine lv_bipush (v := 8) (pc := 138) hx hb dX12_cutAll_138 (by decide) ?_
    refine lv_icmp_le (tgt := 147) (pc := 140) hx hb dX12_cutAll_140 (by decide) (fun hc => ?_) (fun hc => ?_)
    · rw [if_pos hc] at hm
      refine lv_iconst (v := 1) (pc := 147) hx hb dX12_cutAll_147 (by decide) ?_
      exact h_148 K17 hK17 x1 x2 x5 1 x1 u_this_taped u_this_size u_this_at u_this_fault u_this_sort_f u_this_place_f u_this_value_f H locs ls hP hD hS (lv_sub hl [0, 1, 2, 4] rfl) hm
    · rw [if_neg hc] at hm
      refine lv_iconst (v := 4) (pc := 143) hx hb dX12_cutAll_143 (by decide) ?_
      refine lv_goto (tgt := 148) (pc := 144) hx hb dX12_cutAll_144 (by decide) ?_
      exact h_148 K17 hK17 x1 x2 x5 4 x1 u_this_taped u_this_size u_this_at u_this_fault u_this_sort_f u_this_place_f u_this_value_f H locs ls hP hD hS (lv_sub hl [0, 1, 2, 4] rfl) hm
  have h_70 : ∀ (K17 : Int32 → Int32 → Int32 → Int32 → Int32 → Int32 → (Nat → Int32) → (Nat → Int32) → (Nat → Int64) → Option (Int32 × Int32 × Int32 × Int32 × (Nat → Int32) × (Nat → Int32) × (Nat → Int64))) (hK17 : ∀ (x1 : Int32) (x2 : Int32) (u_this_taped : Int32) (u_this_size : Int32) (u_this_at : Int32) (u_this_fault : Int32) (u_this_sort_f : Nat → Int32) (u_this_place_f : Nat → Int32) (u_this_value_f : Nat → Int64) (H : Heap) (locs : List Loc) (ls : Array Slot), va_P D vwCl (wd_X12_cutAll k this this_thrown this_tape this_tape_f u_this_taped u_this_size this_sort u_this_sort_f this_place u_this_place_f this_value u_this_value_f u_this_at u_this_fault this_words this_towns this_op this_arg this_codes this_names this_readNames this_namesMany this_readMany this_once this_lines this_facts this_pile this_state this_undos this_isMarked this_weight this_rounding this_lacks this_alikes this_g) H → va_D A (wd_X12_cutAll k this this_thrown this_tape this_tape_f u_this_taped u_this_size this_sort u_this_sort_f this_place u_this_place_f this_value u_this_value_f u_this_at u_this_fault this_words this_towns this_op this_arg this_codes this_names this_readNames this_namesMany this_readMany this_once this_lines this_facts this_pile this_state this_undos this_isMarked this_weight this_rounding this_lacks this_alikes this_g) → va_S A s.heap H locs → lv_has ls 7 [(0, .ref this), (1, .int x1), (2, .int x2)] → K17 x1 x2 u_this_taped u_this_size u_this_at u_this_fault u_this_sort_f u_this_place_f u_this_value_f = some R0 → W p l e (Rm 2 40) s m args below meth c H locs 0 0 (MQ below (QW D none (wd_X12_cutAll k this this_thrown this_tape this_tape_f this_taped this_size this_sort this_sort_f this_place this_place_f this_value this_value_f this_at this_fault this_words this_towns this_op this_arg this_codes this_names this_readNames this_namesMany this_readMany this_once this_lines this_facts this_pile this_state this_undos this_isMarked this_weight this_rounding this_lacks this_alikes this_g) (wd_X12_cutAll k this this_thrown this_tape this_tape_f R0.1 R0.2.1 this_sort R0.2.2.2.2.1 this_place R0.2.2.2.2.2.1 this_value R0.2.2.2.2.2.2 R0.2.2.1 R0.2.2.2.1 this_words this_towns this_op this_arg this_codes this_names this_readNames this_namesMany this_readMany this_once this_lines this_facts this_pile this_state this_undos this_isMarked this_weight this_rounding this_lacks this_alikes this_g) s.heap.size) args s 0 0 A) (F0 m 17 ls [])), ∀ (n : Nat), ∀ (x1 : Int32) (x2 : Int32) (x4 : Int32) (x5 : Int64) (u_this_taped : Int32) (u_this_size : Int32) (u_this_at : Int32) (u_this_fault : Int32) (u_this_sort_f : Nat → Int32) (u_this_place_f : Nat → Int32) (u_this_value_f : Nat → Int64) (H : Heap) (locs : List Loc) (ls : Array Slot), va_P D vwCl (wd_X12_cutAll k this this_thrown this_tape this_tape_f u_this_taped u_this_size this_sort u_this_sort_f this_place u_this_place_f this_value u_this_value_f u_this_at u_this_fault this_words this_towns this_op this_arg this_codes this_names this_readNames this_namesMany this_readMany this_once this_lines this_facts this_pile this_state this_undos this_isMarked this_weight this_rounding this_lacks this_alikes this_g) H → va_D A (wd_X12_cutAll k this this_thrown this_tape this_tape_f u_this_taped u_this_size this_sort u_this_sort_f this_place u_this_place_f this_value u_this_value_f u_this_at u_this_fault this_words this_towns this_op this_arg this_codes this_names this_readNames this_namesMany this_readMany this_once this_lines this_facts this_pile this_state this_undos this_isMarked this_weight this_rounding this_lacks this_alikes this_g) → va_S A s.heap H locs → lv_has ls 7 [(0, .ref this), (1, .int x1), (2, .int x2), (4, .int x4), (5, .long x5)] → m_X12_cutAll_70 this_tape_f K17 n x1 x2 x4 x5 u_this_taped u_this_size u_this_at u_this_fault u_this_sort_f u_this_place_f u_this_value_f = some R0 → W p l e (Rm 2 40) s m args below meth c H locs 0 0 (MQ below (QW D none (wd_X12_cutAll k this this_thrown this_tape this_tape_f this_taped this_size this_sort this_sort_f this_place this_place_f this_value this_value_f this_at this_fault this_words this_towns this_op this_arg this_codes this_names this_readNames this_namesMany this_readMany this_once this_lines this_facts this_pile this_state this_undos this_isMarked this_weight this_rounding this_lacks this_alikes this_g) (wd_X12_cutAll k this this_thrown this_tape this_tape_f R0.1 R0.2.1 this_sort R0.2.2.2.2.1 this_place R0.2.2.2.2.2.1 this_value R0.2.2.2.2.2.2 R0.2.2.1 R0.2.2.2.1 this_words this_towns this_op this_arg this_codes this_names this_readNames this_namesMany this_readMany this_once this_lines this_facts this_pile this_state this_undos this_isMarked this_weight this_rounding this_lacks this_alikes this_g) s.heap.size) args s 0 0 A) (F0 m 70 ls []) := by
    intro K17 hK17
    intro n
    induction n with
    | zero => intro x1 x2 x4 x5 u_this_taped u_this_size u_this_at u_this_fault u_this_sort_f u_this_place_f u_this_value_f H locs ls hP hD hS hl hm; cases hm
    | succ n ih =>
      intro x1 x2 x4 x5 u_this_taped u_this_size u_this_at u_this_fault u_this_sort_f u_this_place_f u_this_value_f H locs ls hP hD hS hl hm
      unfold m_X12_cutAll_70 at hm
      refine lv_iload_n (pc := 70) hx hb dX12_cutAll_70 rfl (lv_at hl 2 rfl) ?_
      refine lv_aload_n (pc := 71) hx hb dX12_cutAll_71 rfl (lv_at hl 0 rfl) ?_
      refine va_get (pc := 72) (D := D) (ci := 10) (C := RX12) (T := TX12) (N := 30) hx hb hts hiX12 hown hG.1 hP 0 rfl rfl 3 (Nat.le_of_ble_eq_true rfl) (hts _ kw_1260) (fun _ h9 => h9) rfl dX12_cutAll_72 ?_
      refine lv_icmp_ge (tgt := 129) (pc := 75) hx hb dX12_cutAll_75 (by decide) (fun hc => ?_) (fun hc => ?_)
      · rw [if_pos hc] at hm
        exact h_129 K17 hK17 x1 x2 x4 x5 u_this_taped u_this_size u_this_at u_this_fault u_this_sort_f u_this_place_f u_this_value_f H locs ls hP hD hS (lv_sub hl [0, 1, 2, 3, 4] rfl) hm
      · rw [if_neg hc] at hm
        refine lv_aload_n (pc := 78) hx hb dX12_cutAll_78 rfl (lv_at hl 0 rfl) ?_
        refine va_get (pc := 79) (D := D) (ci := 10) (C := RX12) (T := TX12) (N := 30) hx hb hts hiX12 hown hG.1 hP 0 rfl rfl 1 (Nat.le_of_ble_eq_true rfl) (hts _ kw_1258) (fun _ h9 => h9) rfl dX12_cutAll_79 ?_
        refine lv_iload_n (pc := 82) hx hb dX12_cutAll_82 rfl (lv_at hl 2 rfl) ?_
        obtain ⟨hin, hm⟩ := gd hm
        refine va_iald (pc := 83) (D := D) hx hb hG.1 hP 1 0 rfl rfl hin dX12_cutAll_83 ?_
        obtain ⟨r10, hcl, hm⟩ := bd hm
        refine cr_back (run_S (pc := 84) (n := 1) (As := [.int (this_tape_f x2.toNatClampNeg)]) (rest := []) ⟨hx, hb, hml, hown, hts⟩ (c_X12_isLetter l D k (this_tape_f x2.toNatClampNeg) r10 hcl) ⟨kw_1359, kw_16, by decide +kernel⟩ kw_1357 kw_1358 ⟨Nat.le_of_ble_eq_true rfl, Nat.le_of_ble_eq_true rfl⟩ pr_blind (prR (hP.sub [] rfl) hG) rfl hl.1 rfl (Nat.le_of_ble_eq_true rfl) dX12_cutAll_84 ⟨Nat.zero_le _, Nat.zero_le _⟩) ?_
        refine lv_if_eq (tgt := 129) (pc := 87) hx hb dX12_cutAll_87 (by decide) (fun hc => ?_) (fun hc => ?_)
        · rw [if_pos hc] at hm
          exact h_129 K17 hK17 x1 x2 x4 x5 u_this_taped u_this_size u_this_at u_this_fault u_this_sort_f u_this_place_f u_this_value_f H locs ls hP hD hS (lv_sub hl [0, 1, 2, 3, 4] rfl) hm
        · rw [if_neg hc] at hm
          refine lv_iload_n (pc := 90) hx hb dX12_cutAll_90 rfl (lv_at hl 2 rfl) ?_
          refine lv_iload (pc := 91) hx hb dX12_cutAll_91 (lv_at hl 3 rfl) ?_
          refine lv_isub (pc := 93) hx hb dX12_cutAll_93 ?_
          refine lv_bipush (v := 8) (pc := 94) hx hb dX12_cutAll_94 (by decide) ?_
          refine lv_icmp_ge (tgt := 119) (pc := 96) hx hb dX12_cutAll_96 (by decide) (fun hc => ?_) (fun hc => ?_)
          · rw [if_pos hc] at hm
            refine lv_lload (pc := 119) hx hb dX12_cutAll_119 (lv_at hl 4 rfl) ?_
            refine lv_lstore (lv' := [(5, .long x5), (0, .ref this), (1, .int x1), (2, .int x2), (4, .int x4)]) (pc := 121) hx hb dX12_cutAll_121 hl (Nat.le_of_ble_eq_true rfl) rfl (fun ls hl => ?_)
            refine lv_iinc (k := 3) (v := x2 + 1) (lv' := [(2, .int (x2 + 1)), (5, .long x5), (0, .ref this), (1, .int x1), (4, .int x4)]) (pc := 123) hx hb dX12_cutAll_123 hl rfl rfl (Nat.le_of_ble_eq_true rfl) rfl (fun ls hl => ?_)
            refine lv_goto (tgt := 70) (pc := 126) hx hb dX12_cutAll_126 (by decide) ?_
            exact ih x1 (x2 + 1) x4 x5 u_this_taped u_this_size u_this_at u_this_fault u_this_sort_f u_this_place_f u_this_value_f H locs ls hP hD hS (lv_sub hl [2, 3, 0, 4, 1] rfl) hm
          · rw [if_neg hc] at hm
            refine lv_ldc2 (pc := 99) (own := RX12) hx hb hown (hts _ kw_1360) dX12_cutAll_99 ?_
            refine lv_lload (pc := 102) hx hb dX12_cutAll_102 (lv_at hl 4 rfl) ?_
            refine lv_lmul (pc := 104) hx hb dX12_cutAll_104 ?_
            refine lv_aload_n (pc := 105) hx hb dX12_cutAll_105 rfl (lv_at hl 0 rfl) ?_
            refine va_get (pc := 106) (D := D) (ci := 10) (C := RX12) (T := TX12) (N := 30) hx hb hts hiX12 hown hG.1 hP 0 rfl rfl 1 (Nat.le_of_ble_eq_true rfl) (hts _ kw_1258) (fun _ h9 => h9) rfl dX12_cutAll_106 ?_
            refine lv_iload_n (pc := 109) hx hb dX12_cutAll_109 rfl (lv_at hl 2 rfl) ?_
            obtain ⟨hin, hm⟩ := gd hm
            refine va_iald (pc := 110) (D := D) hx hb hG.1 hP 1 0 rfl rfl hin dX12_cutAll_110 ?_
            obtain ⟨r11, hcl, hm⟩ := bd hm
            refine cr_back (run_S (pc := 111) (n := 1) (As := [.int (this_tape_f x2.toNatClampNeg)]) (rest := [.long (37 * x5)]) ⟨hx, hb, hml, hown, hts⟩ (c_X12_rank l D k (this_tape_f x2.toNatClampNeg) r11 hcl) ⟨kw_1363, kw_16, by decide +kernel⟩ kw_1361 kw_1362 ⟨Nat.le_of_ble_eq_true rfl, Nat.le_of_ble_eq_true rfl⟩ pr_blind (prR (hP.sub [] rfl) hG) rfl hl.1 rfl (Nat.le_of_ble_eq_true rfl) dX12_cutAll_111 ⟨Nat.zero_le _, Nat.zero_le _⟩) ?_
            refine lv_i2l (pc := 114) hx hb dX12_cutAll_114 rfl ?_
            refine lv_ladd (pc := 115) hx hb dX12_cutAll_115 ?_
            refine lv_goto (tgt := 121) (pc := 116) hx hb dX12_cutAll_116 (by decide) ?_
            refine lv_lstore (lv' := [(5, .long ((37 * x5) + r11.toInt64)), (0, .ref this), (1, .int x1), (2, .int x2), (4, .int x4)]) (pc := 121) hx hb dX12_cutAll_121 hl (Nat.le_of_ble_eq_true rfl) rfl (fun ls hl => ?_)
            refine lv_iinc (k := 3) (v := x2 + 1) (lv' := [(2, .int (x2 + 1)), (5, .long ((37 * x5) + r11.toInt64)), (0, .ref this), (1, .int x1), (4, .int x4)]) (pc := 123) hx hb dX12_cutAll_123 hl rfl rfl (Nat.le_of_ble_eq_true rfl) rfl (fun ls hl => ?_)
            refine lv_goto (tgt := 70) (pc := 126) hx hb dX12_cutAll_126 (by decide) ?_
            exact ih x1 (x2 + 1) x4 ((37 * x5) + r11.toInt64) u_this_taped u_this_size u_this_at u_this_fault u_this_sort_f u_this_place_f u_this_value_f H locs ls hP hD hS (lv_sub hl [2, 3, 0, 4, 1] rfl) hm
  have h_17 : ∀ (n : Nat), ∀ (x1 : Int32) (x2 : Int32) (u_this_taped : Int32) (u_this_size : Int32) (u_this_at : Int32) (u_this_fault : Int32) (u_this_sort_f : Nat → Int32) (u_this_place_f : Nat → Int32) (u_this_value_f : Nat → Int64) (H : Heap) (locs : List Loc) (ls : Array Slot), va_P D vwCl (wd_X12_cutAll k this this_thrown this_tape this_tape_f u_this_taped u_this_size this_sort u_this_sort_f this_place u_this_place_f this_value u_this_value_f u_this_at u_this_fault this_words this_towns this_op this_arg this_codes this_names this_readNames this_namesMany this_readMany this_once this_lines this_facts this_pile this_state this_undos this_isMarked this_weight this_rounding this_lacks this_alikes this_g) H → va_D A (wd_X12_cutAll k this this_thrown this_tape this_tape_f u_this_taped u_this_size this_sort u_this_sort_f this_place u_this_place_f this_value u_this_value_f u_this_at u_this_fault this_words this_towns this_op this_arg this_codes this_names this_readNames this_namesMany this_readMany this_once this_lines this_facts this_pile this_state this_undos this_isMarked this_weight this_rounding this_lacks this_alikes this_g) → va_S A s.heap H locs → lv_has ls 7 [(0, .ref this), (1, .int x1), (2, .int x2)] → m_X12_cutAll_17 this_tape_f n x1 x2 u_this_taped u_this_size u_this_at u_this_fault u_this_sort_f u_this_place_f u_this_value_f = some R0 → W p l e (Rm 2 40) s m args below meth c H locs 0 0 (MQ below (QW D none (wd_X12_cutAll k this this_thrown this_tape this_tape_f this_taped this_size this_sort this_sort_f this_place this_place_f this_value this_value_f this_at this_fault this_words this_towns this_op this_arg this_codes this_names this_readNames this_namesMany this_readMany this_once this_lines this_facts this_pile this_state this_undos this_isMarked this_weight this_rounding this_lacks this_alikes this_g) (wd_X12_cutAll k this this_thrown this_tape this_tape_f R0.1 R0.2.1 this_sort R0.2.2.2.2.1 this_place R0.2.2.2.2.2.1 this_value R0.2.2.2.2.2.2 R0.2.2.1 R0.2.2.2.1 this_words this_towns this_op this_arg this_codes this_names this_readNames this_namesMany this_readMany this_once this_lines this_facts this_pile this_state this_undos this_isMarked this_weight this_rounding this_lacks this_alikes this_g) s.heap.size) args s 0 0 A) (F0 m 17 ls []) := by
    intro n
    induction n with
    | zero => intro x1 x2 u_this_taped u_this_size u_this_at u_this_fault u_this_sort_f u_this_place_f u_this_value_f H locs ls hP hD hS hl hm; cases hm
    | succ n ih =>
      intro x1 x2 u_this_taped u_this_size u_this_at u_this_fault u_this_sort_f u_this_place_f u_this_value_f H locs ls hP hD hS hl hm
      unfold m_X12_cutAll_17 at hm
      refine lv_iload_n (pc := 17) hx hb dX12_cutAll_17 rfl (lv_at hl 2 rfl) ?_
      refine lv_aload_n (pc := 18) hx hb dX12_cutAll_18 rfl (lv_at hl 0 rfl) ?_
      refine va_get (pc := 19) (D := D) (ci := 10) (C := RX12) (T := TX12) (N := 30) hx hb hts hiX12 hown hG.1 hP 0 rfl rfl 3 (Nat.le_of_ble_eq_true rfl) (hts _ kw_1260) (fun _ h9 => h9) rfl dX12_cutAll_19 ?_
      refine lv_icmp_ge (tgt := 279) (pc := 22) hx hb dX12_cutAll_22 (by decide) (fun hc => ?_) (fun hc => ?_)
      · rw [if_pos hc] at hm
        refine lv_aload_n (pc := 279) hx hb dX12_cutAll_279 rfl (lv_at hl 0 rfl) ?_
        refine va_get (pc := 280) (D := D) (ci := 10) (C := RX12) (T := TX12) (N := 30) hx hb hts hiX12 hown hG.1 hP 0 rfl rfl 4 (Nat.le_of_ble_eq_true rfl) (hts _ kw_1261) (fun _ h9 => h9) rfl dX12_cutAll_280 ?_
        refine lv_iload_n (pc := 283) hx hb dX12_cutAll_283 rfl (lv_at hl 1 rfl) ?_
        refine lv_iconst (v := 0) (pc := 284) hx hb dX12_cutAll_284 (by decide) ?_
        obtain ⟨hin, hm⟩ := gd hm
        refine va_iast (pc := 285) (D := D) hx hb hG.1 hP hD hS 2 0 rfl rfl hin dX12_cutAll_285 (fun H locs hP hD hS => ?_)
        have hP : va_P D vwCl (wd_X12_cutAll k this this_thrown this_tape this_tape_f u_this_taped u_this_size this_sort (upd u_this_sort_f x1.toNatClampNeg 0) this_place u_this_place_f this_value u_this_value_f u_this_at u_this_fault this_words this_towns this_op this_arg this_codes this_names this_readNames this_namesMany this_readMany this_once this_lines this_facts this_pile this_state this_undos this_isMarked this_weight this_rounding this_lacks this_alikes this_g) H := hP
        have hD : va_D A (wd_X12_cutAll k this this_thrown this_tape this_tape_f u_this_taped u_this_size this_sort (upd u_this_sort_f x1.toNatClampNeg 0) this_place u_this_place_f this_value u_this_value_f u_this_at u_this_fault this_words this_towns this_op this_arg this_codes this_names this_readNames this_namesMany this_readMany this_once this_lines this_facts this_pile this_state this_undos this_isMarked this_weight this_rounding this_lacks this_alikes this_g) := hD
        refine lv_aload_n (pc := 286) hx hb dX12_cutAll_286 rfl (lv_at hl 0 rfl) ?_
        refine va_get (pc := 287) (D := D) (ci := 10) (C := RX12) (T := TX12) (N := 30) hx hb hts hiX12 hown hG.1 hP 0 rfl rfl 5 (Nat.le_of_ble_eq_true rfl) (hts _ kw_1262) (fun _ h9 => h9) rfl dX12_cutAll_287 ?_
        refine lv_iload_n (pc := 290) hx hb dX12_cutAll_290 rfl (lv_at hl 1 rfl) ?_
        refine lv_aload_n (pc := 291) hx hb dX12_cutAll_291 rfl (lv_at hl 0 rfl) ?_
        refine va_get (pc := 292) (D := D) (ci := 10) (C := RX12) (T := TX12) (N := 30) hx hb hts hiX12 hown hG.1 hP 0 rfl rfl 3 (Nat.le_of_ble_eq_true rfl) (hts _ kw_1260) (fun _ h9 => h9) rfl dX12_cutAll_292 ?_
        obtain ⟨hin, hm⟩ := gd hm
        refine va_iast (pc := 295) (D := D) hx hb hG.1 hP hD hS 3 0 rfl rfl hin dX12_cutAll_295 (fun H locs hP hD hS => ?_)
        have hP : va_P D vwCl (wd_X12_cutAll k this this_thrown this_tape this_tape_f u_this_taped u_this_size this_sort (upd u_this_sort_f x1.toNatClampNeg 0) this_place (upd u_this_place_f x1.toNatClampNeg u_this_size) this_value u_this_value_f u_this_at u_this_fault this_words this_towns this_op this_arg this_codes this_names this_readNames this_namesMany this_readMany this_once this_lines this_facts this_pile this_state this_undos this_isMarked this_weight this_rounding this_lacks this_alikes this_g) H := hP
        have hD : va_D A (wd_X12_cutAll k this this_thrown this_tape this_tape_f u_this_taped u_this_size this_sort (upd u_this_sort_f x1.toNatClampNeg 0) this_place (upd u_this_place_f x1.toNatClampNeg u_this_size) this_value u_this_value_f u_this_at u_this_fault this_words this_towns this_op this_arg this_codes this_names this_readNames this_namesMany this_readMany this_once this_lines this_facts this_pile this_state this_undos this_isMarked this_weight this_rounding this_lacks this_alikes this_g) := hD
        refine lv_aload_n (pc := 296) hx hb dX12_cutAll_296 rfl (lv_at hl 0 rfl) ?_
        refine lv_iconst (v := 0) (pc := 297) hx hb dX12_cutAll_297 (by decide) ?_
        refine va_put (pc := 298) (D := D) (ci := 10) (v := .int 0) (ty := .int) (C := RX12) (T := TX12) (N := 30) hx hb hts hiX12 tyX12 tyX12_ok nmX12 hown hG.1 hP hD hS 0 rfl rfl 7 (Nat.le_of_ble_eq_true rfl) (hts _ kw_1264) (fun _ h9 => h9) rfl (by decide +kernel) rfl rfl (Nat.le_of_ble_eq_true rfl) dX12_cutAll_298 (fun H locs hP hD hS => ?_)
        have hP : va_P D vwCl (wd_X12_cutAll k this this_thrown this_tape this_tape_f u_this_taped u_this_size this_sort (upd u_this_sort_f x1.toNatClampNeg 0) this_place (upd u_this_place_f x1.toNatClampNeg u_this_size) this_value u_this_value_f 0 u_this_fault this_words this_towns this_op this_arg this_codes this_names this_readNames this_namesMany this_readMany this_once this_lines this_facts this_pile this_state this_undos this_isMarked this_weight this_rounding this_lacks this_alikes this_g) H := hP
        have hD : va_D A (wd_X12_cutAll k this this_thrown this_tape this_tape_f u_this_taped u_this_size this_sort (upd u_this_sort_f x1.toNatClampNeg 0) this_place (upd u_this_place_f x1.toNatClampNeg u_this_size) this_value u_this_value_f 0 u_this_fault this_words this_towns this_op this_arg this_codes this_names this_readNames this_namesMany this_readMany this_once this_lines this_facts this_pile this_state this_undos this_isMarked this_weight this_rounding this_lacks this_alikes this_g) := hD
        refine lv_aload_n (pc := 301) hx hb dX12_cutAll_301 rfl (lv_at hl 0 rfl) ?_
        refine lv_iconst (v := 0) (pc := 302) hx hb dX12_cutAll_302 (by decide) ?_
        refine va_put (pc := 303) (D := D) (ci := 10) (v := .int 0) (ty := .int) (C := RX12) (T := TX12) (N := 30) hx hb hts hiX12 tyX12 tyX12_ok nmX12 hown hG.1 hP hD hS 0 rfl rfl 8 (Nat.le_of_ble_eq_true rfl) (hts _ kw_1265) (fun _ h9 => h9) rfl (by decide +kernel) rfl rfl (Nat.le_of_ble_eq_true rfl) dX12_cutAll_303 (fun H locs hP hD hS => ?_)
        have hP : va_P D vwCl (wd_X12_cutAll k this this_thrown this_tape this_tape_f u_this_taped u_this_size this_sort (upd u_this_sort_f x1.toNatClampNeg 0) this_place (upd u_this_place_f x1.toNatClampNeg u_this_size) this_value u_this_value_f 0 0 this_words this_towns this_op this_arg this_codes this_names this_readNames this_namesMany this_readMany this_once this_lines this_facts this_pile this_state this_undos this_isMarked this_weight this_rounding this_lacks this_alikes this_g) H := hP
        have hD : va_D A (wd_X12_cutAll k this this_thrown this_tape this_tape_f u_this_taped u_this_size this_sort (upd u_this_sort_f x1.toNatClampNeg 0) this_place (upd u_this_place_f x1.toNatClampNeg u_this_size) this_value u_this_value_f 0 0 this_words this_towns this_op this_arg this_codes this_names this_readNames this_namesMany this_readMany this_once this_lines this_facts this_pile this_state this_undos this_isMarked this_weight this_rounding this_lacks this_alikes this_g) := hD
        rw [← Option.some.inj hm]
        exact W.vret hx hb hr (fun t ht _ => hq _ _ H t ht hP hD locs hS) hS.2.2 dX12_cutAll_306 hlocks
      · rw [if_neg hc] at hm
        refine lv_aload_n (pc := 25) hx hb dX12_cutAll_25 rfl (lv_at hl 0 rfl) ?_
        refine va_get (pc := 26) (D := D) (ci := 10) (C := RX12) (T := TX12) (N := 30) hx hb hts hiX12 hown hG.1 hP 0 rfl rfl 1 (Nat.le_of_ble_eq_true rfl) (hts _ kw_1258) (fun _ h9 => h9) rfl dX12_cutAll_26 ?_
        refine lv_iload_n (pc := 29) hx hb dX12_cutAll_29 rfl (lv_at hl 2 rfl) ?_
        obtain ⟨hin, hm⟩ := gd hm
        refine va_iald (pc := 30) (D := D) hx hb hG.1 hP 1 0 rfl rfl hin dX12_cutAll_30 ?_
        refine lv_istore_n (lv' := [(3, .int (this_tape_f x2.toNatClampNeg)), (0, .ref this), (1, .int x1), (2, .int x2)]) (pc := 31) hx hb dX12_cutAll_31 rfl hl (Nat.le_of_ble_eq_true rfl) rfl (fun ls hl => ?_)
        refine lv_iload_n (pc := 32) hx hb dX12_cutAll_32 rfl (lv_at hl 0 rfl) ?_
        refine lv_bipush (v := 10) (pc := 33) hx hb dX12_cutAll_33 (by decide) ?_
        refine lv_icmp_eq (tgt := 44) (pc := 35) hx hb dX12_cutAll_35 (by decide) (fun hc => ?_) (fun hc => ?_)
        · rw [if_pos hc] at hm
          refine lv_iinc (k := 3) (v := x2 + 1) (lv' := [(2, .int (x2 + 1)), (3, .int (this_tape_f x2.toNatClampNeg)), (0, .ref this), (1, .int x1)]) (pc := 44) hx hb dX12_cutAll_44 hl rfl rfl (Nat.le_of_ble_eq_true rfl) rfl (fun ls hl => ?_)
          refine lv_goto (tgt := 17) (pc := 47) hx hb dX12_cutAll_47 (by decide) ?_
          exact ih x1 (x2 + 1) u_this_taped u_this_size u_this_at u_this_fault u_this_sort_f u_this_place_f u_this_value_f H locs ls hP hD hS (lv_sub hl [2, 3, 0] rfl) hm
        · rw [if_neg hc] at hm
          refine lv_iload_n (pc := 38) hx hb dX12_cutAll_38 rfl (lv_at hl 0 rfl) ?_
          refine lv_bipush (v := 32) (pc := 39) hx hb dX12_cutAll_39 (by decide) ?_
          refine lv_icmp_ne (tgt := 50) (pc := 41) hx hb dX12_cutAll_41 (by decide) (fun hc => ?_) (fun hc => ?_)
          · rw [if_neg hc] at hm
            refine lv_iload_n (pc := 50) hx hb dX12_cutAll_50 rfl (lv_at hl 3 rfl) ?_
            refine lv_istore (lv' := [(4, .int x2), (3, .int (this_tape_f x2.toNatClampNeg)), (0, .ref this), (1, .int x1), (2, .int x2)]) (pc := 51) hx hb dX12_cutAll_51 hl (Nat.le_of_ble_eq_true rfl) rfl (fun ls hl => ?_)
            refine lv_lconst (v := 0) (pc := 53) hx hb dX12_cutAll_53 (by decide) ?_
            refine lv_lstore (lv' := [(5, .long 0), (4, .int x2), (3, .int (this_tape_f x2.toNatClampNeg)), (0, .ref this), (1, .int x1), (2, .int x2)]) (pc := 54) hx hb dX12_cutAll_54 hl (Nat.le_of_ble_eq_true rfl) rfl (fun ls hl => ?_)
            refine lv_aload_n (pc := 56) hx hb dX12_cutAll_56 rfl (lv_at hl 3 rfl) ?_
            refine va_get (pc := 57) (D := D) (ci := 10) (C := RX12) (T := TX12) (N := 30) hx hb hts hiX12 hown hG.1 hP 0 rfl rfl 5 (Nat.le_of_ble_eq_true rfl) (hts _ kw_1262) (fun _ h9 => h9) rfl dX12_cutAll_57 ?_
            refine lv_iload_n (pc := 60) hx hb dX12_cutAll_60 rfl (lv_at hl 4 rfl) ?_
            refine lv_iload_n (pc := 61) hx hb dX12_cutAll_61 rfl (lv_at hl 5 rfl) ?_
            obtain ⟨hin, hm⟩ := gd hm
            refine va_iast (pc := 62) (D := D) hx hb hG.1 hP hD hS 3 0 rfl rfl hin dX12_cutAll_62 (fun H locs hP hD hS => ?_)
            have hP : va_P D vwCl (wd_X12_cutAll k this this_thrown this_tape this_tape_f u_this_taped u_this_size this_sort u_this_sort_f this_place (upd u_this_place_f x1.toNatClampNeg x2) this_value u_this_value_f u_this_at u_this_fault this_words this_towns this_op this_arg this_codes this_names this_readNames this_namesMany this_readMany this_once this_lines this_facts this_pile this_state this_undos this_isMarked this_weight this_rounding this_lacks this_alikes this_g) H := hP
            have hD : va_D A (wd_X12_cutAll k this this_thrown this_tape this_tape_f u_this_taped u_this_size this_sort u_this_sort_f this_place (upd u_this_place_f x1.toNatClampNeg x2) this_value u_this_value_f u_this_at u_this_fault this_words this_towns this_op this_arg this_codes this_names this_readNames this_namesMany this_readMany this_once this_lines this_facts this_pile this_state this_undos this_isMarked this_weight this_rounding this_lacks this_alikes this_g) := hD
            refine lv_iload_n (pc := 63) hx hb dX12_cutAll_63 rfl (lv_at hl 2 rfl) ?_
            obtain ⟨r12, hcl, hm⟩ := bd hm
            refine cr_back (run_S (pc := 64) (n := 1) (As := [.int (this_tape_f x2.toNatClampNeg)]) (rest := []) ⟨hx, hb, hml, hown, hts⟩ (c_X12_isLetter l D k (this_tape_f x2.toNatClampNeg) r12 hcl) ⟨kw_1359, kw_16, by decide +kernel⟩ kw_1357 kw_1358 ⟨Nat.le_of_ble_eq_true rfl, Nat.le_of_ble_eq_true rfl⟩ pr_blind (prR (hP.sub [] rfl) hG) rfl hl.1 rfl (Nat.le_of_ble_eq_true rfl) dX12_cutAll_64 ⟨Nat.zero_le _, Nat.zero_le _⟩) ?_
            refine lv_if_eq (tgt := 152) (pc := 67) hx hb dX12_cutAll_67 (by decide) (fun hc => ?_) (fun hc => ?_)
            · rw [if_pos hc] at hm
              refine lv_iload_n (pc := 152) hx hb dX12_cutAll_152 rfl (lv_at hl 2 rfl) ?_
              obtain ⟨r13, hcl, hm⟩ := bd hm
              refine cr_back (run_S (pc := 153) (n := 1) (As := [.int (this_tape_f x2.toNatClampNeg)]) (rest := []) ⟨hx, hb, hml, hown, hts⟩ (c_X12_isDigit l D k (this_tape_f x2.toNatClampNeg) r13 hcl) ⟨kw_1366, kw_16, by decide +kernel⟩ kw_1364 kw_1365 ⟨Nat.le_of_ble_eq_true rfl, Nat.le_of_ble_eq_true rfl⟩ pr_blind (prR (hP.sub [] rfl) hG) rfl hl.1 rfl (Nat.le_of_ble_eq_true rfl) dX12_cutAll_153 ⟨Nat.zero_le _, Nat.zero_le _⟩) ?_
              refine lv_if_eq (tgt := 240) (pc := 156) hx hb dX12_cutAll_156 (by decide) (fun hc => ?_) (fun hc => ?_)
              · rw [if_pos hc] at hm
                refine lv_iload_n (pc := 240) hx hb dX12_cutAll_240 rfl (lv_at hl 2 rfl) ?_
                refine lv_i2l (pc := 241) hx hb dX12_cutAll_241 rfl ?_
                refine lv_lstore (lv' := [(5, .long ((this_tape_f x2.toNatClampNeg).toInt64)), (4, .int x2), (3, .int (this_tape_f x2.toNatClampNeg)), (0, .ref this), (1, .int x1), (2, .int x2)]) (pc := 242) hx hb dX12_cutAll_242 hl (Nat.le_of_ble_eq_true rfl) rfl (fun ls hl => ?_)
                refine lv_aload_n (pc := 244) hx hb dX12_cutAll_244 rfl (lv_at hl 3 rfl) ?_
                refine va_get (pc := 245) (D := D) (ci := 10) (C := RX12) (T := TX12) (N := 30) hx hb hts hiX12 hown hG.1 hP 0 rfl rfl 4 (Nat.le_of_ble_eq_true rfl) (hts _ kw_1261) (fun _ h9 => h9) rfl dX12_cutAll_245 ?_
                refine lv_iload_n (pc := 248) hx hb dX12_cutAll_248 rfl (lv_at hl 4 rfl) ?_
                refine lv_iload_n (pc := 249) hx hb dX12_cutAll_249 rfl (lv_at hl 2 rfl) ?_
                obtain ⟨r14, hcl, hm⟩ := bd hm
                refine cr_back (run_S (pc := 250) (n := 1) (As := [.int (this_tape_f x2.toNatClampNeg)]) (rest := [.int x1, .ref this_sort]) ⟨hx, hb, hml, hown, hts⟩ (c_X12_isSignOf l D k (this_tape_f x2.toNatClampNeg) r14 hcl) ⟨kw_1371, kw_16, by decide +kernel⟩ kw_1369 kw_1370 ⟨Nat.le_of_ble_eq_true rfl, Nat.le_of_ble_eq_true rfl⟩ pr_blind (prR (hP.sub [] rfl) hG) rfl hl.1 rfl (Nat.le_of_ble_eq_true rfl) dX12_cutAll_250 ⟨Nat.zero_le _, Nat.zero_le _⟩) ?_
                refine lv_if_eq (tgt := 260) (pc := 253) hx hb dX12_cutAll_253 (by decide) (fun hc => ?_) (fun hc => ?_)
                · rw [if_pos hc] at hm
                  refine lv_iconst (v := 4) (pc := 260) hx hb dX12_cutAll_260 (by decide) ?_
                  exact h_261 (m_X12_cutAll_17 this_tape_f n) ih x1 x2 ((this_tape_f x2.toNatClampNeg).toInt64) 4 x1 u_this_taped u_this_size u_this_at u_this_fault u_this_sort_f (upd u_this_place_f x1.toNatClampNeg x2) u_this_value_f H locs ls hP hD hS (lv_sub hl [3, 4, 5, 0] rfl) hm
                · rw [if_neg hc] at hm
                  refine lv_iconst (v := 3) (pc := 256) hx hb dX12_cutAll_256 (by decide) ?_
                  refine lv_goto (tgt := 261) (pc := 257) hx hb dX12_cutAll_257 (by decide) ?_
                  exact h_261 (m_X12_cutAll_17 this_tape_f n) ih x1 x2 ((this_tape_f x2.toNatClampNeg).toInt64) 3 x1 u_this_taped u_this_size u_this_at u_this_fault u_this_sort_f (upd u_this_place_f x1.toNatClampNeg x2) u_this_value_f H locs ls hP hD hS (lv_sub hl [3, 4, 5, 0] rfl) hm
              · rw [if_neg hc] at hm
                exact h_159 (m_X12_cutAll_17 this_tape_f n) ih FU x1 x2 x2 0 u_this_taped u_this_size u_this_at u_this_fault u_this_sort_f (upd u_this_place_f x1.toNatClampNeg x2) u_this_value_f H locs ls hP hD hS (lv_sub hl [3, 4, 5, 1, 0] rfl) hm
            · rw [if_neg hc] at hm
              exact h_70 (m_X12_cutAll_17 this_tape_f n) ih FU x1 x2 x2 0 u_this_taped u_this_size u_this_at u_this_fault u_this_sort_f (upd u_this_place_f x1.toNatClampNeg x2) u_this_value_f H locs ls hP hD hS (lv_sub hl [3, 4, 5, 1, 0] rfl) hm
          · rw [if_pos hc] at hm
            refine lv_iinc (k := 3) (v := x2 + 1) (lv' := [(2, .int (x2 + 1)), (3, .int (this_tape_f x2.toNatClampNeg)), (0, .ref this), (1, .int x1)]) (pc := 44) hx hb dX12_cutAll_44 hl rfl rfl (Nat.le_of_ble_eq_true rfl) rfl (fun ls hl => ?_)
            refine lv_goto (tgt := 17) (pc := 47) hx hb dX12_cutAll_47 (by decide) ?_
            exact ih x1 (x2 + 1) u_this_taped u_this_size u_this_at u_this_fault u_this_sort_f u_this_place_f u_this_value_f H locs ls hP hD hS (lv_sub hl [2, 3, 0] rfl) hm
  unfold m_X12_cutAll at hm
  suffices hgo : ∀ (H : Heap) (locs : List Loc), va_P D vwCl (wd_X12_cutAll k this this_thrown this_tape this_tape_f this_taped this_size this_sort this_sort_f this_place this_place_f this_value this_value_f this_at this_fault this_words this_towns this_op this_arg this_codes this_names this_readNames this_namesMany this_readMany this_once this_lines this_facts this_pile this_state this_undos this_isMarked this_weight this_rounding this_lacks this_alikes this_g) H → va_D A (wd_X12_cutAll k this this_thrown this_tape this_tape_f this_taped this_size this_sort this_sort_f this_place this_place_f this_value this_value_f this_at this_fault this_words this_towns this_op this_arg this_codes this_names this_readNames this_namesMany this_readMany this_once this_lines this_facts this_pile this_state this_undos this_isMarked this_weight this_rounding this_lacks this_alikes this_g) → va_S A s.heap H locs → W p l e (Rm 2 40) s m args below meth c H locs 0 0 (MQ below (QW D none (wd_X12_cutAll k this this_thrown this_tape this_tape_f this_taped this_size this_sort this_sort_f this_place this_place_f this_value this_value_f this_at this_fault this_words this_towns this_op this_arg this_codes this_names this_readNames this_namesMany this_readMany this_once this_lines this_facts this_pile this_state this_undos this_isMarked this_weight this_rounding this_lacks this_alikes this_g) (wd_X12_cutAll k this this_thrown this_tape this_tape_f R0.1 R0.2.1 this_sort R0.2.2.2.2.1 this_place R0.2.2.2.2.2.1 this_value R0.2.2.2.2.2.2 R0.2.2.1 R0.2.2.2.1 this_words this_towns this_op this_arg this_codes this_names this_readNames this_namesMany this_readMany this_once this_lines this_facts this_pile this_state this_undos this_isMarked this_weight this_rounding this_lacks this_alikes this_g) s.heap.size) args s 0 0 A) (F0 m 0 ls []) from hgo _ _ hP hD hS
  clear hP hD hS
  intro H locs hP hD hS
  refine lv_aload_n (pc := 0) hx hb dX12_cutAll_0 rfl (lv_at hl 0 rfl) ?_
  refine lv_aload_n (pc := 1) hx hb dX12_cutAll_1 rfl (lv_at hl 0 rfl) ?_
  refine va_get (pc := 2) (D := D) (ci := 10) (C := RX12) (T := TX12) (N := 30) hx hb hts hiX12 hown hG.1 hP 0 rfl rfl 2 (Nat.le_of_ble_eq_true rfl) (hts _ kw_1259) (fun _ h9 => h9) rfl dX12_cutAll_2 ?_
  refine va_put (pc := 5) (D := D) (ci := 10) (v := .int this_taped) (ty := .int) (C := RX12) (T := TX12) (N := 30) hx hb hts hiX12 tyX12 tyX12_ok nmX12 hown hG.1 hP hD hS 0 rfl rfl 3 (Nat.le_of_ble_eq_true rfl) (hts _ kw_1260) (fun _ h9 => h9) rfl (by decide +kernel) rfl rfl (Nat.le_of_ble_eq_true rfl) dX12_cutAll_5 (fun H locs hP hD hS => ?_)
  have hP : va_P D vwCl (wd_X12_cutAll k this this_thrown this_tape this_tape_f this_taped this_taped this_sort this_sort_f this_place this_place_f this_value this_value_f this_at this_fault this_words this_towns this_op this_arg this_codes this_names this_readNames this_namesMany this_readMany this_once this_lines this_facts this_pile this_state this_undos this_isMarked this_weight this_rounding this_lacks this_alikes this_g) H := hP
  have hD : va_D A (wd_X12_cutAll k this this_thrown this_tape this_tape_f this_taped this_taped this_sort this_sort_f this_place this_place_f this_value this_value_f this_at this_fault this_words this_towns this_op this_arg this_codes this_names this_readNames this_namesMany this_readMany this_once this_lines this_facts this_pile this_state this_undos this_isMarked this_weight this_rounding this_lacks this_alikes this_g) := hD
  refine lv_aload_n (pc := 8) hx hb dX12_cutAll_8 rfl (lv_at hl 0 rfl) ?_
  refine lv_iconst (v := 0) (pc := 9) hx hb dX12_cutAll_9 (by decide) ?_
  refine va_put (pc := 10) (D := D) (ci := 10) (v := .int 0) (ty := .int) (C := RX12) (T := TX12) (N := 30) hx hb hts hiX12 tyX12 tyX12_ok nmX12 hown hG.1 hP hD hS 0 rfl rfl 2 (Nat.le_of_ble_eq_true rfl) (hts _ kw_1259) (fun _ h9 => h9) rfl (by decide +kernel) rfl rfl (Nat.le_of_ble_eq_true rfl) dX12_cutAll_10 (fun H locs hP hD hS => ?_)
  have hP : va_P D vwCl (wd_X12_cutAll k this this_thrown this_tape this_tape_f 0 this_taped this_sort this_sort_f this_place this_place_f this_value this_value_f this_at this_fault this_words this_towns this_op this_arg this_codes this_names this_readNames this_namesMany this_readMany this_once this_lines this_facts this_pile this_state this_undos this_isMarked this_weight this_rounding this_lacks this_alikes this_g) H := hP
  have hD : va_D A (wd_X12_cutAll k this this_thrown this_tape this_tape_f 0 this_taped this_sort this_sort_f this_place this_place_f this_value this_value_f this_at this_fault this_words this_towns this_op this_arg this_codes this_names this_readNames this_namesMany this_readMany this_once this_lines this_facts this_pile this_state this_undos this_isMarked this_weight this_rounding this_lacks this_alikes this_g) := hD
  refine lv_iconst (v := 0) (pc := 13) hx hb dX12_cutAll_13 (by decide) ?_
  refine lv_istore_n (lv' := [(1, .int 0), (0, .ref this)]) (pc := 14) hx hb dX12_cutAll_14 rfl hl (Nat.le_of_ble_eq_true rfl) rfl (fun ls hl => ?_)
  refine lv_iconst (v := 0) (pc := 15) hx hb dX12_cutAll_15 (by decide) ?_
  refine lv_istore_n (lv' := [(2, .int 0), (1, .int 0), (0, .ref this)]) (pc := 16) hx hb dX12_cutAll_16 rfl hl (Nat.le_of_ble_eq_true rfl) rfl (fun ls hl => ?_)
  exact h_17 FU 0 0 0 this_taped this_at this_fault this_sort_f this_place_f this_value_f H locs ls hP hD hS (lv_sub hl [2, 1, 0] rfl) hm
