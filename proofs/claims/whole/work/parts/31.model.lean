theorem dX12_wrong_0 : decode cX12_wrong 0 = .ok (.aload_n 0, 1) := by decide +kernel
theorem dX12_wrong_1 : decode cX12_wrong 1 = .ok (.getfield 159, 3) := by decide +kernel
theorem dX12_wrong_4 : decode cX12_wrong 4 = .ok (.ifCond .ne 21, 3) := by decide +kernel
theorem dX12_wrong_7 : decode cX12_wrong 7 = .ok (.aload_n 0, 1) := by decide +kernel
theorem dX12_wrong_8 : decode cX12_wrong 8 = .ok (.iload_n 1, 1) := by decide +kernel
theorem dX12_wrong_9 : decode cX12_wrong 9 = .ok (.bipush 16, 2) := by decide +kernel
theorem dX12_wrong_11 : decode cX12_wrong 11 = .ok (.aload_n 0, 1) := by decide +kernel
theorem dX12_wrong_12 : decode cX12_wrong 12 = .ok (.getfield 27, 3) := by decide +kernel
theorem dX12_wrong_15 : decode cX12_wrong 15 = .ok (.aload_n 0, 1) := by decide +kernel
theorem dX12_wrong_16 : decode cX12_wrong 16 = .ok (.getfield 156, 3) := by decide +kernel
theorem dX12_wrong_19 : decode cX12_wrong 19 = .ok (.iaload, 1) := by decide +kernel
theorem dX12_wrong_20 : decode cX12_wrong 20 = .ok (.imul, 1) := by decide +kernel
theorem dX12_wrong_21 : decode cX12_wrong 21 = .ok (.iadd, 1) := by decide +kernel
theorem dX12_wrong_22 : decode cX12_wrong 22 = .ok (.putfield 159, 3) := by decide +kernel
theorem dX12_wrong_25 : decode cX12_wrong 25 = .ok (.return_, 1) := by decide +kernel
abbrev wd_X12_wrong (k : Nat → ClassId) (this : Nat) (this_thrown : Int32) (this_tape : Nat) (this_taped : Int32) (this_size : Int32) (this_sort : Nat) (this_place : Nat) (this_place_f : Nat → Int32) (this_value : Nat) (this_at : Int32) (this_fault : Int32) (this_words : Nat) (this_towns : Nat) (this_op : Nat) (this_arg : Nat) (this_codes : Int32) (this_names : Nat) (this_readNames : Nat) (this_namesMany : Int32) (this_readMany : Int32) (this_once : Int32) (this_lines : Nat) (this_facts : Nat) (this_pile : Nat) (this_state : Nat) (this_undos : Int32) (this_isMarked : Nat) (this_weight : Int32) (this_rounding : Int32) (this_lacks : Nat) (this_alikes : Nat) (this_g : Int64) : va_W := [(this, .inr (10, [.int this_thrown, .ref this_tape, .int this_taped, .int this_size, .ref this_sort, .ref this_place, .ref this_value, .int this_at, .int this_fault, .ref this_words, .ref this_towns, .ref this_op, .ref this_arg, .int this_codes, .ref this_names, .ref this_readNames, .int this_namesMany, .int this_readMany, .int this_once, .ref this_lines, .ref this_facts, .ref this_pile, .ref this_state, .int this_undos, .ref this_isMarked, .int this_weight, .int this_rounding, .ref this_lacks, .ref this_alikes, .long this_g])), (this_place, .inl (k 0, 1002, .inl this_place_f))]
set_option maxHeartbeats 4000000 in
set_option maxRecDepth 100000 in
theorem c_X12_wrong (l : Launch) (D : va_G) (k : Nat → ClassId) (this : Nat) (this_thrown : Int32) (this_tape : Nat) (this_taped : Int32) (this_size : Int32) (this_sort : Nat) (this_place : Nat) (this_place_f : Nat → Int32) (this_value : Nat) (this_at : Int32) (this_fault : Int32) (this_words : Nat) (this_towns : Nat) (this_op : Nat) (this_arg : Nat) (this_codes : Int32) (this_names : Nat) (this_readNames : Nat) (this_namesMany : Int32) (this_readMany : Int32) (this_once : Int32) (this_lines : Nat) (this_facts : Nat) (this_pile : Nat) (this_state : Nat) (this_undos : Int32) (this_isMarked : Nat) (this_weight : Int32) (this_rounding : Int32) (this_lacks : Nat) (this_alikes : Nat) (this_g : Int64) (q1 : Int32) (R0 : Int32) (hm : m_X12_wrong this_place_f this_at this_fault q1 = some R0) : CW l D (TY k) yX12_wrong cX12_wrong 2 none 0 0 [.ref this, .int q1] (wd_X12_wrong k this this_thrown this_tape this_taped this_size this_sort this_place this_place_f this_value this_at this_fault this_words this_towns this_op this_arg this_codes this_names this_readNames this_namesMany this_readMany this_once this_lines this_facts this_pile this_state this_undos this_isMarked this_weight this_rounding this_lacks this_alikes this_g) none (wd_X12_wrong k this this_thrown this_tape this_taped this_size this_sort this_place this_place_f this_value this_at R0 this_words this_towns this_op this_arg this_codes this_names this_readNames this_namesMany this_readMany this_once this_lines this_facts this_pile this_state this_undos this_isMarked this_weight this_rounding this_lacks this_alikes this_g) := by
  refine CW.mk (by decide) (Nat.le_of_ble_eq_true rfl) ?_
  intro p e s m args below meth c ls A ⟨hx, hb, hr, hts, hown, hlocks, hml⟩ hP hG hD hA hl hS hq
  have hl : lv_has ls 2 [(0, .ref this), (1, .int q1)] := hl
  unfold m_X12_wrong at hm
  suffices hgo : ∀ (H : Heap) (locs : List Loc), va_P D vwCl (wd_X12_wrong k this this_thrown this_tape this_taped this_size this_sort this_place this_place_f this_value this_at this_fault this_words this_towns this_op this_arg this_codes this_names this_readNames this_namesMany this_readMany this_once this_lines this_facts this_pile this_state this_undos this_isMarked this_weight this_rounding this_lacks this_alikes this_g) H → va_D A (wd_X12_wrong k this this_thrown this_tape this_taped this_size this_sort this_place this_place_f this_value this_at this_fault this_words this_towns this_op this_arg this_codes this_names this_readNames this_namesMany this_readMany this_once this_lines this_facts this_pile this_state this_undos this_isMarked this_weight this_rounding this_lacks this_alikes this_g) → va_S A s.heap H locs → W p l e (Rm 0 0) s m args below meth c H locs 0 0 (MQ below (QW D none (wd_X12_wrong k this this_thrown this_tape this_taped this_size this_sort this_place this_place_f this_value this_at this_fault this_words this_towns this_op this_arg this_codes this_names this_readNames this_namesMany this_readMany this_once this_lines this_facts this_pile this_state this_undos this_isMarked this_weight this_rounding this_lacks this_alikes this_g) (wd_X12_wrong k this this_thrown this_tape this_taped this_size this_sort this_place this_place_f this_value this_at R0 this_words this_towns this_op this_arg this_codes this_names this_readNames this_namesMany this_readMany this_once this_lines this_facts this_pile this_state this_undos this_isMarked this_weight this_rounding this_lacks this_alikes this_g) s.heap.size) args s 0 0 A) (F0 m 0 ls []) from hgo _ _ hP hD hS
  clear hP hD hS
  intro H locs hP hD hS
  refine lv_aload_n (pc := 0) hx hb dX12_wrong_0 rfl (lv_at hl 0 rfl) ?_
  refine va_get (pc := 1) (D := D) (ci := 10) (C := RX12) (T := TX12) (N := 30) hx hb hts hiX12 hown hG.1 hP 0 rfl rfl 8 (Nat.le_of_ble_eq_true rfl) (hts _ kw_1265) (fun _ h9 => h9) rfl dX12_wrong_1 ?_
  refine lv_if_ne (tgt := 25) (pc := 4) hx hb dX12_wrong_4 (by decide) (fun hc => ?_) (fun hc => ?_)
  · rw [if_neg hc] at hm
    rw [← Option.some.inj hm]
    exact W.vret hx hb hr (fun t ht _ => hq _ _ H t ht hP hD locs hS) hS.2.2 dX12_wrong_25 hlocks
  · rw [if_pos hc] at hm
    refine lv_aload_n (pc := 7) hx hb dX12_wrong_7 rfl (lv_at hl 0 rfl) ?_
    refine lv_iload_n (pc := 8) hx hb dX12_wrong_8 rfl (lv_at hl 1 rfl) ?_
    refine lv_bipush (v := 16) (pc := 9) hx hb dX12_wrong_9 (by decide) ?_
    refine lv_aload_n (pc := 11) hx hb dX12_wrong_11 rfl (lv_at hl 0 rfl) ?_
    refine va_get (pc := 12) (D := D) (ci := 10) (C := RX12) (T := TX12) (N := 30) hx hb hts hiX12 hown hG.1 hP 0 rfl rfl 5 (Nat.le_of_ble_eq_true rfl) (hts _ kw_1262) (fun _ h9 => h9) rfl dX12_wrong_12 ?_
    refine lv_aload_n (pc := 15) hx hb dX12_wrong_15 rfl (lv_at hl 0 rfl) ?_
    refine va_get (pc := 16) (D := D) (ci := 10) (C := RX12) (T := TX12) (N := 30) hx hb hts hiX12 hown hG.1 hP 0 rfl rfl 7 (Nat.le_of_ble_eq_true rfl) (hts _ kw_1264) (fun _ h9 => h9) rfl dX12_wrong_16 ?_
    obtain ⟨hin, hm⟩ := gd hm
    refine va_iald (pc := 19) (D := D) hx hb hG.1 hP 1 0 rfl rfl hin dX12_wrong_19 ?_
    refine lv_imul (pc := 20) hx hb dX12_wrong_20 ?_
    refine lv_iadd (pc := 21) hx hb dX12_wrong_21 ?_
    refine va_put (pc := 22) (D := D) (ci := 10) (v := .int (q1 + (16 * (this_place_f this_at.toNatClampNeg)))) (ty := .int) (C := RX12) (T := TX12) (N := 30) hx hb hts hiX12 tyX12 tyX12_ok nmX12 hown hG.1 hP hD hS 0 rfl rfl 8 (Nat.le_of_ble_eq_true rfl) (hts _ kw_1265) (fun _ h9 => h9) rfl (by decide +kernel) rfl rfl (Nat.le_of_ble_eq_true rfl) dX12_wrong_22 (fun H locs hP hD hS => ?_)
    have hP : va_P D vwCl (wd_X12_wrong k this this_thrown this_tape this_taped this_size this_sort this_place this_place_f this_value this_at (q1 + (16 * (this_place_f this_at.toNatClampNeg))) this_words this_towns this_op this_arg this_codes this_names this_readNames this_namesMany this_readMany this_once this_lines this_facts this_pile this_state this_undos this_isMarked this_weight this_rounding this_lacks this_alikes this_g) H := hP
    have hD : va_D A (wd_X12_wrong k this this_thrown this_tape this_taped this_size this_sort this_place this_place_f this_value this_at (q1 + (16 * (this_place_f this_at.toNatClampNeg))) this_words this_towns this_op this_arg this_codes this_names this_readNames this_namesMany this_readMany this_once this_lines this_facts this_pile this_state this_undos this_isMarked this_weight this_rounding this_lacks this_alikes this_g) := hD
    rw [← Option.some.inj hm]
    exact W.vret hx hb hr (fun t ht _ => hq _ _ H t ht hP hD locs hS) hS.2.2 dX12_wrong_25 hlocks
theorem dX12_isSign_0 : decode cX12_isSign 0 = .ok (.aload_n 0, 1) := by decide +kernel
theorem dX12_isSign_1 : decode cX12_isSign 1 = .ok (.getfield 159, 3) := by decide +kernel
theorem dX12_isSign_4 : decode cX12_isSign 4 = .ok (.ifCond .ne 35, 3) := by decide +kernel
theorem dX12_isSign_7 : decode cX12_isSign 7 = .ok (.aload_n 0, 1) := by decide +kernel
theorem dX12_isSign_8 : decode cX12_isSign 8 = .ok (.getfield 24, 3) := by decide +kernel
theorem dX12_isSign_11 : decode cX12_isSign 11 = .ok (.aload_n 0, 1) := by decide +kernel
theorem dX12_isSign_12 : decode cX12_isSign 12 = .ok (.getfield 156, 3) := by decide +kernel
theorem dX12_isSign_15 : decode cX12_isSign 15 = .ok (.iaload, 1) := by decide +kernel
theorem dX12_isSign_16 : decode cX12_isSign 16 = .ok (.iconst 3, 1) := by decide +kernel
theorem dX12_isSign_17 : decode cX12_isSign 17 = .ok (.if_icmp .ne 22, 3) := by decide +kernel
theorem dX12_isSign_20 : decode cX12_isSign 20 = .ok (.aload_n 0, 1) := by decide +kernel
theorem dX12_isSign_21 : decode cX12_isSign 21 = .ok (.getfield 30, 3) := by decide +kernel
theorem dX12_isSign_24 : decode cX12_isSign 24 = .ok (.aload_n 0, 1) := by decide +kernel
theorem dX12_isSign_25 : decode cX12_isSign 25 = .ok (.getfield 156, 3) := by decide +kernel
theorem dX12_isSign_28 : decode cX12_isSign 28 = .ok (.laload, 1) := by decide +kernel
theorem dX12_isSign_29 : decode cX12_isSign 29 = .ok (.iload_n 1, 1) := by decide +kernel
theorem dX12_isSign_30 : decode cX12_isSign 30 = .ok (.i2l, 1) := by decide +kernel
theorem dX12_isSign_31 : decode cX12_isSign 31 = .ok (.lcmp, 1) := by decide +kernel
theorem dX12_isSign_32 : decode cX12_isSign 32 = .ok (.ifCond .ne 7, 3) := by decide +kernel
theorem dX12_isSign_35 : decode cX12_isSign 35 = .ok (.iconst 1, 1) := by decide +kernel
theorem dX12_isSign_36 : decode cX12_isSign 36 = .ok (.goto 4, 3) := by decide +kernel
theorem dX12_isSign_39 : decode cX12_isSign 39 = .ok (.iconst 0, 1) := by decide +kernel
theorem dX12_isSign_40 : decode cX12_isSign 40 = .ok (.ireturn, 1) := by decide +kernel
abbrev wd_X12_isSign (k : Nat → ClassId) (this : Nat) (this_thrown : Int32) (this_tape : Nat) (this_taped : Int32) (this_size : Int32) (this_sort : Nat) (this_sort_f : Nat → Int32) (this_place : Nat) (this_value : Nat) (this_value_f : Nat → Int64) (this_at : Int32) (this_fault : Int32) (this_words : Nat) (this_towns : Nat) (this_op : Nat) (this_arg : Nat) (this_codes : Int32) (this_names : Nat) (this_readNames : Nat) (this_namesMany : Int32) (this_readMany : Int32) (this_once : Int32) (this_lines : Nat) (this_facts : Nat) (this_pile : Nat) (this_state : Nat) (this_undos : Int32) (this_isMarked : Nat) (this_weight : Int32) (this_rounding : Int32) (this_lacks : Nat) (this_alikes : Nat) (this_g : Int64) : va_W := [(this, .inr (10, [.int this_thrown, .ref this_tape, .int this_taped, .int this_size, .ref this_sort, .ref this_place, .ref this_value, .int this_at, .int this_fault, .ref this_words, .ref this_towns, .ref this_op, .ref this_arg, .int this_codes, .ref this_names, .ref this_readNames, .int this_namesMany, .int this_readMany, .int this_once, .ref this_lines, .ref this_facts, .ref this_pile, .ref this_state, .int this_undos, .ref this_isMarked, .int this_weight, .int this_rounding, .ref this_lacks, .ref this_alikes, .long this_g])), (this_sort, .inl (k 0, 1002, .inl this_sort_f)), (this_value, .inl (k 1, 1002, .inr (.inl this_value_f)))]
set_option maxHeartbeats 4000000 in
set_option maxRecDepth 100000 in
theorem c_X12_isSign (l : Launch) (D : va_G) (k : Nat → ClassId) (this : Nat) (this_thrown : Int32) (this_tape : Nat) (this_taped : Int32) (this_size : Int32) (this_sort : Nat) (this_sort_f : Nat → Int32) (this_place : Nat) (this_value : Nat) (this_value_f : Nat → Int64) (this_at : Int32) (this_fault : Int32) (this_words : Nat) (this_towns : Nat) (this_op : Nat) (this_arg : Nat) (this_codes : Int32) (this_names : Nat) (this_readNames : Nat) (this_namesMany : Int32) (this_readMany : Int32) (this_once : Int32) (this_lines : Nat) (this_facts : Nat) (this_pile : Nat) (this_state : Nat) (this_undos : Int32) (this_isMarked : Nat) (this_weight : Int32) (this_rounding : Int32) (this_lacks : Nat) (this_alikes : Nat) (this_g : Int64) (q1 : Int32) (R0 : Int32) (hm : m_X12_isSign this_sort_f this_value_f this_at this_fault q1 = some R0) : CR l D (TY k) yX12_isSign cX12_isSign 2 (some .boolean) 0 0 [.ref this, .int q1] (wd_X12_isSign k this this_thrown this_tape this_taped this_size this_sort this_sort_f this_place this_value this_value_f this_at this_fault this_words this_towns this_op this_arg this_codes this_names this_readNames this_namesMany this_readMany this_once this_lines this_facts this_pile this_state this_undos this_isMarked this_weight this_rounding this_lacks this_alikes this_g) (some (.int R0)) := by
  refine CR.mk (by decide) (Nat.le_of_ble_eq_true rfl) ?_
  intro p e s m args below meth c ls ⟨hx, hb, hr, hts, hown, hlocks, hml⟩ hP hG hl
  have hl : lv_has ls 2 [(0, .ref this), (1, .int q1)] := hl
  unfold m_X12_isSign at hm
  refine lv_aload_n (pc := 0) hx hb dX12_isSign_0 rfl (lv_at hl 0 rfl) ?_
  refine va_get (pc := 1) (D := D) (ci := 10) (C := RX12) (T := TX12) (N := 30) hx hb hts hiX12 hown hG.1 hP 0 rfl rfl 8 (Nat.le_of_ble_eq_true rfl) (hts _ kw_1265) (fun _ h9 => h9) rfl dX12_isSign_1 ?_
  refine lv_if_ne (tgt := 39) (pc := 4) hx hb dX12_isSign_4 (by decide) (fun hc => ?_) (fun hc => ?_)
  · rw [if_neg hc] at hm
    refine lv_iconst (v := 0) (pc := 39) hx hb dX12_isSign_39 (by decide) ?_
    rw [← Option.some.inj hm]
    exact W.zret hx hb hr (nar_bool (Or.inl rfl)) (fun t ht _ => ⟨rfl, ht⟩) (fun _ h => by cases h) dX12_isSign_40 hlocks
  · rw [if_pos hc] at hm
    refine lv_aload_n (pc := 7) hx hb dX12_isSign_7 rfl (lv_at hl 0 rfl) ?_
    refine va_get (pc := 8) (D := D) (ci := 10) (C := RX12) (T := TX12) (N := 30) hx hb hts hiX12 hown hG.1 hP 0 rfl rfl 4 (Nat.le_of_ble_eq_true rfl) (hts _ kw_1261) (fun _ h9 => h9) rfl dX12_isSign_8 ?_
    refine lv_aload_n (pc := 11) hx hb dX12_isSign_11 rfl (lv_at hl 0 rfl) ?_
    refine va_get (pc := 12) (D := D) (ci := 10) (C := RX12) (T := TX12) (N := 30) hx hb hts hiX12 hown hG.1 hP 0 rfl rfl 7 (Nat.le_of_ble_eq_true rfl) (hts _ kw_1264) (fun _ h9 => h9) rfl dX12_isSign_12 ?_
    obtain ⟨hin, hm⟩ := gd hm
    refine va_iald (pc := 15) (D := D) hx hb hG.1 hP 1 0 rfl rfl hin dX12_isSign_15 ?_
    refine lv_iconst (v := 3) (pc := 16) hx hb dX12_isSign_16 (by decide) ?_
    refine lv_icmp_ne (tgt := 39) (pc := 17) hx hb dX12_isSign_17 (by decide) (fun hc => ?_) (fun hc => ?_)
    · rw [if_neg hc] at hm
      refine lv_iconst (v := 0) (pc := 39) hx hb dX12_isSign_39 (by decide) ?_
      rw [← Option.some.inj hm]
      exact W.zret hx hb hr (nar_bool (Or.inl rfl)) (fun t ht _ => ⟨rfl, ht⟩) (fun _ h => by cases h) dX12_isSign_40 hlocks
    · rw [if_pos hc] at hm
      refine lv_aload_n (pc := 20) hx hb dX12_isSign_20 rfl (lv_at hl 0 rfl) ?_
      refine va_get (pc := 21) (D := D) (ci := 10) (C := RX12) (T := TX12) (N := 30) hx hb hts hiX12 hown hG.1 hP 0 rfl rfl 6 (Nat.le_of_ble_eq_true rfl) (hts _ kw_1263) (fun _ h9 => h9) rfl dX12_isSign_21 ?_
      refine lv_aload_n (pc := 24) hx hb dX12_isSign_24 rfl (lv_at hl 0 rfl) ?_
      refine va_get (pc := 25) (D := D) (ci := 10) (C := RX12) (T := TX12) (N := 30) hx hb hts hiX12 hown hG.1 hP 0 rfl rfl 7 (Nat.le_of_ble_eq_true rfl) (hts _ kw_1264) (fun _ h9 => h9) rfl dX12_isSign_25 ?_
      obtain ⟨hin, hm⟩ := gd hm
      refine va_lald (pc := 28) (D := D) hx hb hG.1 hP 2 1 rfl rfl hin dX12_isSign_28 ?_
      refine lv_iload_n (pc := 29) hx hb dX12_isSign_29 rfl (lv_at hl 1 rfl) ?_
      refine lv_i2l (pc := 30) hx hb dX12_isSign_30 rfl ?_
      refine W.lcmp (pc := 31) hx hb dX12_isSign_31 ?_
      refine lv_if_ne (tgt := 39) (pc := 32) hx hb dX12_isSign_32 (by decide) (fun hc => ?_) (fun hc => ?_)
      · rw [if_neg hc] at hm
        refine lv_iconst (v := 0) (pc := 39) hx hb dX12_isSign_39 (by decide) ?_
        rw [← Option.some.inj hm]
        exact W.zret hx hb hr (nar_bool (Or.inl rfl)) (fun t ht _ => ⟨rfl, ht⟩) (fun _ h => by cases h) dX12_isSign_40 hlocks
      · rw [if_pos hc] at hm
        refine lv_iconst (v := 1) (pc := 35) hx hb dX12_isSign_35 (by decide) ?_
        refine lv_goto (tgt := 40) (pc := 36) hx hb dX12_isSign_36 (by decide) ?_
        rw [← Option.some.inj hm]
        exact W.zret hx hb hr (nar_bool (Or.inr rfl)) (fun t ht _ => ⟨rfl, ht⟩) (fun _ h => by cases h) dX12_isSign_40 hlocks
theorem dX12_isWord_0 : decode cX12_isWord 0 = .ok (.aload_n 0, 1) := by decide +kernel
theorem dX12_isWord_1 : decode cX12_isWord 1 = .ok (.getfield 159, 3) := by decide +kernel
theorem dX12_isWord_4 : decode cX12_isWord 4 = .ok (.ifCond .ne 39, 3) := by decide +kernel
theorem dX12_isWord_7 : decode cX12_isWord 7 = .ok (.aload_n 0, 1) := by decide +kernel
theorem dX12_isWord_8 : decode cX12_isWord 8 = .ok (.getfield 24, 3) := by decide +kernel
theorem dX12_isWord_11 : decode cX12_isWord 11 = .ok (.aload_n 0, 1) := by decide +kernel
theorem dX12_isWord_12 : decode cX12_isWord 12 = .ok (.getfield 156, 3) := by decide +kernel
theorem dX12_isWord_15 : decode cX12_isWord 15 = .ok (.iaload, 1) := by decide +kernel
theorem dX12_isWord_16 : decode cX12_isWord 16 = .ok (.iconst 1, 1) := by decide +kernel
theorem dX12_isWord_17 : decode cX12_isWord 17 = .ok (.if_icmp .ne 26, 3) := by decide +kernel
theorem dX12_isWord_20 : decode cX12_isWord 20 = .ok (.aload_n 0, 1) := by decide +kernel
theorem dX12_isWord_21 : decode cX12_isWord 21 = .ok (.getfield 30, 3) := by decide +kernel
theorem dX12_isWord_24 : decode cX12_isWord 24 = .ok (.aload_n 0, 1) := by decide +kernel
theorem dX12_isWord_25 : decode cX12_isWord 25 = .ok (.getfield 156, 3) := by decide +kernel
theorem dX12_isWord_28 : decode cX12_isWord 28 = .ok (.laload, 1) := by decide +kernel
theorem dX12_isWord_29 : decode cX12_isWord 29 = .ok (.aload_n 0, 1) := by decide +kernel
theorem dX12_isWord_30 : decode cX12_isWord 30 = .ok (.getfield 86, 3) := by decide +kernel
theorem dX12_isWord_33 : decode cX12_isWord 33 = .ok (.iload_n 1, 1) := by decide +kernel
theorem dX12_isWord_34 : decode cX12_isWord 34 = .ok (.laload, 1) := by decide +kernel
theorem dX12_isWord_35 : decode cX12_isWord 35 = .ok (.lcmp, 1) := by decide +kernel
theorem dX12_isWord_36 : decode cX12_isWord 36 = .ok (.ifCond .ne 7, 3) := by decide +kernel
theorem dX12_isWord_39 : decode cX12_isWord 39 = .ok (.iconst 1, 1) := by decide +kernel
theorem dX12_isWord_40 : decode cX12_isWord 40 = .ok (.goto 4, 3) := by decide +kernel
theorem dX12_isWord_43 : decode cX12_isWord 43 = .ok (.iconst 0, 1) := by decide +kernel
theorem dX12_isWord_44 : decode cX12_isWord 44 = .ok (.ireturn, 1) := by decide +kernel
abbrev wd_X12_isWord (k : Nat → ClassId) (this : Nat) (this_thrown : Int32) (this_tape : Nat) (this_taped : Int32) (this_size : Int32) (this_sort : Nat) (this_sort_f : Nat → Int32) (this_place : Nat) (this_value : Nat) (this_value_f : Nat → Int64) (this_at : Int32) (this_fault : Int32) (this_words : Nat) (this_words_f : Nat → Int64) (this_towns : Nat) (this_op : Nat) (this_arg : Nat) (this_codes : Int32) (this_names : Nat) (this_readNames : Nat) (this_namesMany : Int32) (this_readMany : Int32) (this_once : Int32) (this_lines : Nat) (this_facts : Nat) (this_pile : Nat) (this_state : Nat) (this_undos : Int32) (this_isMarked : Nat) (this_weight : Int32) (this_rounding : Int32) (this_lacks : Nat) (this_alikes : Nat) (this_g : Int64) : va_W := [(this, .inr (10, [.int this_thrown, .ref this_tape, .int this_taped, .int this_size, .ref this_sort, .ref this_place, .ref this_value, .int this_at, .int this_fault, .ref this_words, .ref this_towns, .ref this_op, .ref this_arg, .int this_codes, .ref this_names, .ref this_readNames, .int this_namesMany, .int this_readMany, .int this_once, .ref this_lines, .ref this_facts, .ref this_pile, .ref this_state, .int this_undos, .ref this_isMarked, .int this_weight, .int this_rounding, .ref this_lacks, .ref this_alikes, .long this_g])), (this_sort, .inl (k 0, 1002, .inl this_sort_f)), (this_value, .inl (k 1, 1002, .inr (.inl this_value_f))), (this_words, .inl (k 1, 26, .inr (.inl this_words_f)))]
set_option maxHeartbeats 4000000 in
set_option maxRecDepth 100000 in
theorem c_X12_isWord (l : Launch) (D : va_G) (k : Nat → ClassId) (this : Nat) (this_thrown : Int32) (this_tape : Nat) (this_taped : Int32) (this_size : Int32) (this_sort : Nat) (this_sort_f : Nat → Int32) (this_place : Nat) (this_value : Nat) (this_value_f : Nat → Int64) (this_at : Int32) (this_fault : Int32) (this_words : Nat) (this_words_f : Nat → Int64) (this_towns : Nat) (this_op : Nat) (this_arg : Nat) (this_codes : Int32) (this_names : Nat) (this_readNames : Nat) (this_namesMany : Int32) (this_readMany : Int32) (this_once : Int32) (this_lines : Nat) (this_facts : Nat) (this_pile : Nat) (this_state : Nat) (this_undos : Int32) (this_isMarked : Nat) (this_weight : Int32) (this_rounding : Int32) (this_lacks : Nat) (this_alikes : Nat) (this_g : Int64) (q1 : Int32) (R0 : Int32) (hm : m_X12_isWord this_sort_f this_value_f this_at this_fault this_words_f q1 = some R0) : CR l D (TY k) yX12_isWord cX12_isWord 2 (some .boolean) 0 0 [.ref this, .int q1] (wd_X12_isWord k this this_thrown this_tape this_taped this_size this_sort this_sort_f this_place this_value this_value_f this_at this_fault this_words this_words_f this_towns this_op this_arg this_codes this_names this_readNames this_namesMany this_readMany this_once this_lines this_facts this_pile this_state this_undos this_isMarked this_weight this_rounding this_lacks this_alikes this_g) (some (.int R0)) := by
  refine CR.mk (by decide) (Nat.le_of_ble_eq_true rfl) ?_
  intro p e s m args below meth c ls ⟨hx, hb, hr, hts, hown, hlocks, hml⟩ hP hG hl
  have hl : lv_has ls 2 [(0, .ref this), (1, .int q1)] := hl
  unfold m_X12_isWord at hm
  refine lv_aload_n (pc := 0) hx hb dX12_isWord_0 rfl (lv_at hl 0 rfl) ?_
  refine va_get (pc := 1) (D := D) (ci := 10) (C := RX12) (T := TX12) (N := 30) hx hb hts hiX12 hown hG.1 hP 0 rfl rfl 8 (Nat.le_of_ble_eq_true rfl) (hts _ kw_1265) (fun _ h9 => h9) rfl dX12_isWord_1 ?_
  refine lv_if_ne (tgt := 43) (pc := 4) hx hb dX12_isWord_4 (by decide) (fun hc => ?_) (fun hc => ?_)
  · rw [if_neg hc] at hm
    refine lv_iconst (v := 0) (pc := 43) hx hb dX12_isWord_43 (by decide) ?_
    rw [← Option.some.inj hm]
    exact W.zret hx hb hr (nar_bool (Or.inl rfl)) (fun t ht _ => ⟨rfl, ht⟩) (fun _ h => by cases h) dX12_isWord_44 hlocks
  · rw [if_pos hc] at hm
    refine lv_aload_n (pc := 7) hx hb dX12_isWord_7 rfl (lv_at hl 0 rfl) ?_
    refine va_get (pc := 8) (D := D) (ci := 10) (C := RX12) (T := TX12) (N := 30) hx hb hts hiX12 hown hG.1 hP 0 rfl rfl 4 (Nat.le_of_ble_eq_true rfl) (hts _ kw_1261) (fun _ h9 => h9) rfl dX12_isWord_8 ?_
    refine lv_aload_n (pc := 11) hx hb dX12_isWord_11 rfl (lv_at hl 0 rfl) ?_
    refine va_get (pc := 12) (D := D) (ci := 10) (C := RX12) (T := TX12) (N := 30) hx hb hts hiX12 hown hG.1 hP 0 rfl rfl 7 (Nat.le_of_ble_eq_true rfl) (hts _ kw_1264) (fun _ h9 => h9) rfl dX12_isWord_12 ?_
    obtain ⟨hin, hm⟩ := gd hm
    refine va_iald (pc := 15) (D := D) hx hb hG.1 hP 1 0 rfl rfl hin dX12_isWord_15 ?_
    refine lv_iconst (v := 1) (pc := 16) hx hb dX12_isWord_16 (by decide) ?_
    refine lv_icmp_ne (tgt := 43) (pc := 17) hx hb dX12_isWord_17 (by decide) (fun hc => ?_) (fun hc => ?_)
    · rw [if_neg hc] at hm
      refine lv_iconst (v := 0) (pc := 43) hx hb dX12_isWord_43 (by decide) ?_
      rw [← Option.some.inj hm]
      exact W.zret hx hb hr (nar_bool (Or.inl rfl)) (fun t ht _ => ⟨rfl, ht⟩) (fun _ h => by cases h) dX12_isWord_44 hlocks
    · rw [if_pos hc] at hm
      refine lv_aload_n (pc := 20) hx hb dX12_isWord_20 rfl (lv_at hl 0 rfl) ?_
      refine va_get (pc := 21) (D := D) (ci := 10) (C := RX12) (T := TX12) (N := 30) hx hb hts hiX12 hown hG.1 hP 0 rfl rfl 6 (Nat.le_of_ble_eq_true rfl) (hts _ kw_1263) (fun _ h9 => h9) rfl dX12_isWord_21 ?_
      refine lv_aload_n (pc := 24) hx hb dX12_isWord_24 rfl (lv_at hl 0 rfl) ?_
      refine va_get (pc := 25) (D := D) (ci := 10) (C := RX12) (T := TX12) (N := 30) hx hb hts hiX12 hown hG.1 hP 0 rfl rfl 7 (Nat.le_of_ble_eq_true rfl) (hts _ kw_1264) (fun _ h9 => h9) rfl dX12_isWord_25 ?_
      obtain ⟨hin, hm⟩ := gd hm
      refine va_lald (pc := 28) (D := D) hx hb hG.1 hP 2 1 rfl rfl hin dX12_isWord_28 ?_
      refine lv_aload_n (pc := 29) hx hb dX12_isWord_29 rfl (lv_at hl 0 rfl) ?_
      refine va_get (pc := 30) (D := D) (ci := 10) (C := RX12) (T := TX12) (N := 30) hx hb hts hiX12 hown hG.1 hP 0 rfl rfl 9 (Nat.le_of_ble_eq_true rfl) (hts _ kw_1266) (fun _ h9 => h9) rfl dX12_isWord_30 ?_
      refine lv_iload_n (pc := 33) hx hb dX12_isWord_33 rfl (lv_at hl 1 rfl) ?_
      obtain ⟨hin, hm⟩ := gd hm
      refine va_lald (pc := 34) (D := D) hx hb hG.1 hP 3 1 rfl rfl hin dX12_isWord_34 ?_
      refine W.lcmp (pc := 35) hx hb dX12_isWord_35 ?_
      refine lv_if_ne (tgt := 43) (pc := 36) hx hb dX12_isWord_36 (by decide) (fun hc => ?_) (fun hc => ?_)
      · rw [if_neg hc] at hm
        refine lv_iconst (v := 0) (pc := 43) hx hb dX12_isWord_43 (by decide) ?_
        rw [← Option.some.inj hm]
        exact W.zret hx hb hr (nar_bool (Or.inl rfl)) (fun t ht _ => ⟨rfl, ht⟩) (fun _ h => by cases h) dX12_isWord_44 hlocks
      · rw [if_pos hc] at hm
        refine lv_iconst (v := 1) (pc := 39) hx hb dX12_isWord_39 (by decide) ?_
        refine lv_goto (tgt := 44) (pc := 40) hx hb dX12_isWord_40 (by decide) ?_
        rw [← Option.some.inj hm]
        exact W.zret hx hb hr (nar_bool (Or.inr rfl)) (fun t ht _ => ⟨rfl, ht⟩) (fun _ h => by cases h) dX12_isWord_44 hlocks
theorem dX12_takeSign_0 : decode cX12_takeSign 0 = .ok (.aload_n 0, 1) := by decide +kernel
theorem dX12_takeSign_1 : decode cX12_takeSign 1 = .ok (.iload_n 1, 1) := by decide +kernel
theorem dX12_takeSign_2 : decode cX12_takeSign 2 = .ok (.invokevirtual 162, 3) := by decide +kernel
theorem dX12_takeSign_5 : decode cX12_takeSign 5 = .ok (.ifCond .eq 16, 3) := by decide +kernel
theorem dX12_takeSign_8 : decode cX12_takeSign 8 = .ok (.aload_n 0, 1) := by decide +kernel
theorem dX12_takeSign_9 : decode cX12_takeSign 9 = .ok (.dup, 1) := by decide +kernel
theorem dX12_takeSign_10 : decode cX12_takeSign 10 = .ok (.getfield 156, 3) := by decide +kernel
theorem dX12_takeSign_13 : decode cX12_takeSign 13 = .ok (.iconst 1, 1) := by decide +kernel
theorem dX12_takeSign_14 : decode cX12_takeSign 14 = .ok (.iadd, 1) := by decide +kernel
theorem dX12_takeSign_15 : decode cX12_takeSign 15 = .ok (.putfield 156, 3) := by decide +kernel
theorem dX12_takeSign_18 : decode cX12_takeSign 18 = .ok (.goto 8, 3) := by decide +kernel
theorem dX12_takeSign_21 : decode cX12_takeSign 21 = .ok (.aload_n 0, 1) := by decide +kernel
theorem dX12_takeSign_22 : decode cX12_takeSign 22 = .ok (.iconst 1, 1) := by decide +kernel
theorem dX12_takeSign_23 : decode cX12_takeSign 23 = .ok (.invokevirtual 165, 3) := by decide +kernel
theorem dX12_takeSign_26 : decode cX12_takeSign 26 = .ok (.return_, 1) := by decide +kernel
abbrev wd_X12_takeSign (k : Nat → ClassId) (this : Nat) (this_thrown : Int32) (this_tape : Nat) (this_taped : Int32) (this_size : Int32) (this_sort : Nat) (this_sort_f : Nat → Int32) (this_place : Nat) (this_place_f : Nat → Int32) (this_value : Nat) (this_value_f : Nat → Int64) (this_at : Int32) (this_fault : Int32) (this_words : Nat) (this_towns : Nat) (this_op : Nat) (this_arg : Nat) (this_codes : Int32) (this_names : Nat) (this_readNames : Nat) (this_namesMany : Int32) (this_readMany : Int32) (this_once : Int32) (this_lines : Nat) (this_facts : Nat) (this_pile : Nat) (this_state : Nat) (this_undos : Int32) (this_isMarked : Nat) (this_weight : Int32) (this_rounding : Int32) (this_lacks : Nat) (this_alikes : Nat) (this_g : Int64) : va_W := [(this, .inr (10, [.int this_thrown, .ref this_tape, .int this_taped, .int this_size, .ref this_sort, .ref this_place, .ref this_value, .int this_at, .int this_fault, .ref this_words, .ref this_towns, .ref this_op, .ref this_arg, .int this_codes, .ref this_names, .ref this_readNames, .int this_namesMany, .int this_readMany, .int this_once, .ref this_lines, .ref this_facts, .ref this_pile, .ref this_state, .int this_undos, .ref this_isMarked, .int this_weight, .int this_rounding, .ref this_lacks, .ref this_alikes, .long this_g])), (this_sort, .inl (k 0, 1002, .inl this_sort_f)), (this_place, .inl (k 0, 1002, .inl this_place_f)), (this_value, .inl (k 1, 1002, .inr (.inl this_value_f)))]
set_option maxHeartbeats 4000000 in
set_option maxRecDepth 100000 in
theorem c_X12_takeSign (l : Launch) (D : va_G) (k : Nat → ClassId) (this : Nat) (this_thrown : Int32) (this_tape : Nat) (this_taped : Int32) (this_size : Int32) (this_sort : Nat) (this_sort_f : Nat → Int32) (this_place : Nat) (this_place_f : Nat → Int32) (this_value : Nat) (this_value_f : Nat → Int64) (this_at : Int32) (this_fault : Int32) (this_words : Nat) (this_towns : Nat) (this_op : Nat) (this_arg : Nat) (this_codes : Int32) (this_names : Nat) (this_readNames : Nat) (this_namesMany : Int32) (this_readMany : Int32) (this_once : Int32) (this_lines : Nat) (this_facts : Nat) (this_pile : Nat) (this_state : Nat) (this_undos : Int32) (this_isMarked : Nat) (this_weight : Int32) (this_rounding : Int32) (this_lacks : Nat) (this_alikes : Nat) (this_g : Int64) (q1 : Int32) (R0 : Int32 × Int32) (hm : m_X12_takeSign this_sort_f this_place_f this_value_f this_at this_fault q1 = some R0) : CW l D (TY k) yX12_takeSign cX12_takeSign 2 none 1 21 [.ref this, .int q1] (wd_X12_takeSign k this this_thrown this_tape this_taped this_size this_sort this_sort_f this_place this_place_f this_value this_value_f this_at this_fault this_words this_towns this_op this_arg this_codes this_names this_readNames this_namesMany this_readMany this_once this_lines this_facts this_pile this_state this_undos this_isMarked this_weight this_rounding this_lacks this_alikes this_g) none (wd_X12_takeSign k this this_thrown this_tape this_taped this_size this_sort this_sort_f this_place this_place_f this_value this_value_f R0.1 R0.2 this_words this_towns this_op this_arg this_codes this_names this_readNames this_namesMany this_readMany this_once this_lines this_facts this_pile this_state this_undos this_isMarked this_weight this_rounding this_lacks this_alikes this_g) := by
  refine CW.mk (by decide) (Nat.le_of_ble_eq_true rfl) ?_
  intro p e s m args below meth c ls A ⟨hx, hb, hr, hts, hown, hlocks, hml⟩ hP hG hD hA hl hS hq
  have hl : lv_has ls 2 [(0, .ref this), (1, .int q1)] := hl
  unfold m_X12_takeSign at hm
  suffices hgo : ∀ (H : Heap) (locs : List Loc), va_P D vwCl (wd_X12_takeSign k this this_thrown this_tape this_taped this_size this_sort this_sort_f this_place this_place_f this_value this_value_f this_at this_fault this_words this_towns this_op this_arg this_codes this_names this_readNames this_namesMany this_readMany this_once this_lines this_facts this_pile this_state this_undos this_isMarked this_weight this_rounding this_lacks this_alikes this_g) H → va_D A (wd_X12_takeSign k this this_thrown this_tape this_taped this_size this_sort this_sort_f this_place this_place_f this_value this_value_f this_at this_fault this_words this_towns this_op this_arg this_codes this_names this_readNames this_namesMany this_readMany this_once this_lines this_facts this_pile this_state this_undos this_isMarked this_weight this_rounding this_lacks this_alikes this_g) → va_S A s.heap H locs → W p l e (Rm 1 21) s m args below meth c H locs 0 0 (MQ below (QW D none (wd_X12_takeSign k this this_thrown this_tape this_taped this_size this_sort this_sort_f this_place this_place_f this_value this_value_f this_at this_fault this_words this_towns this_op this_arg this_codes this_names this_readNames this_namesMany this_readMany this_once this_lines this_facts this_pile this_state this_undos this_isMarked this_weight this_rounding this_lacks this_alikes this_g) (wd_X12_takeSign k this this_thrown this_tape this_taped this_size this_sort this_sort_f this_place this_place_f this_value this_value_f R0.1 R0.2 this_words this_towns this_op this_arg this_codes this_names this_readNames this_namesMany this_readMany this_once this_lines this_facts this_pile this_state this_undos this_isMarked this_weight this_rounding this_lacks this_alikes this_g) s.heap.size) args s 0 0 A) (F0 m 0 ls []) from hgo _ _ hP hD hS
  clear hP hD hS
  intro H locs hP hD hS
  refine lv_aload_n (pc := 0) hx hb dX12_takeSign_0 rfl (lv_at hl 0 rfl) ?_
  refine lv_iload_n (pc := 1) hx hb dX12_takeSign_1 rfl (lv_at hl 1 rfl) ?_
  obtain ⟨r3, hcl, hm⟩ := bd hm
  refine cr_back (run_V (pc := 2) (n := 1) (As := [.int q1]) (rest := []) ⟨hx, hb, hml, hown, hts⟩ (c_X12_isSign l D k this this_thrown this_tape this_taped this_size this_sort this_sort_f this_place this_value this_value_f this_at this_fault this_words this_towns this_op this_arg this_codes this_names this_readNames this_namesMany this_readMany this_once this_lines this_facts this_pile this_state this_undos this_isMarked this_weight this_rounding this_lacks this_alikes this_g q1 r3 hcl) ⟨kw_1451, kw_16, by decide +kernel⟩ kw_1448 kw_1450 ks_119 ⟨Nat.le_of_ble_eq_true rfl, Nat.le_of_ble_eq_true rfl⟩ pr_blind (prR (hP.sub [0, 1, 3] rfl) hG) (va_recv hG.1 hP (ci := 10) (q0 := 0) rfl rfl) rfl hl.1 rfl (Nat.le_of_ble_eq_true rfl) dX12_takeSign_2 ⟨Nat.zero_le _, Nat.zero_le _⟩) ?_
  refine lv_if_eq (tgt := 21) (pc := 5) hx hb dX12_takeSign_5 (by decide) (fun hc => ?_) (fun hc => ?_)
  · rw [if_pos hc] at hm
    refine lv_aload_n (pc := 21) hx hb dX12_takeSign_21 rfl (lv_at hl 0 rfl) ?_
    refine lv_iconst (v := 1) (pc := 22) hx hb dX12_takeSign_22 (by decide) ?_
    obtain ⟨r4, hcl, hm⟩ := bd hm
    refine cw_mask (ws' := (wd_X12_takeSign k this this_thrown this_tape this_taped this_size this_sort this_sort_f this_place this_place_f this_value this_value_f this_at r4 this_words this_towns this_op this_arg this_codes this_names this_readNames this_namesMany this_readMany this_once this_lines this_facts this_pile this_state this_undos this_isMarked this_weight this_rounding this_lacks this_alikes this_g)) (run_V (pc := 23) (n := 1) (As := [.int 1]) (rest := []) ⟨hx, hb, hml, hown, hts⟩ ((c_X12_wrong l D k this this_thrown this_tape this_taped this_size this_sort this_place this_place_f this_value this_at this_fault this_words this_towns this_op this_arg this_codes this_names this_readNames this_namesMany this_readMany this_once this_lines this_facts this_pile this_state this_undos this_isMarked this_weight this_rounding this_lacks this_alikes this_g 1 r4 hcl) H.size) ⟨kw_1387, kw_16, by decide +kernel⟩ kw_1384 kw_1386 ks_103 ⟨Nat.le_of_ble_eq_true rfl, Nat.le_of_ble_eq_true rfl⟩ pw_blind (prW (P_pick [true, false, true] rfl hP) hG (D_pick [true, false, true] rfl hD)) (va_recv hG.1 hP (ci := 10) (q0 := 0) rfl rfl) rfl hl.1 rfl (Nat.le_of_ble_eq_true rfl) dX12_takeSign_23 ⟨Nat.zero_le _, Nat.zero_le _⟩) hP hD hS hA [true, false, true] rfl rfl rfl (fun H locs hP hD hS => ?_)
    rw [← Option.some.inj hm]
    exact W.vret hx hb hr (fun t ht _ => hq _ _ H t ht hP hD locs hS) hS.2.2 dX12_takeSign_26 hlocks
  · rw [if_neg hc] at hm
    refine lv_aload_n (pc := 8) hx hb dX12_takeSign_8 rfl (lv_at hl 0 rfl) ?_
    refine lv_dup (pc := 9) hx hb dX12_takeSign_9 rfl ?_
    refine va_get (pc := 10) (D := D) (ci := 10) (C := RX12) (T := TX12) (N := 30) hx hb hts hiX12 hown hG.1 hP 0 rfl rfl 7 (Nat.le_of_ble_eq_true rfl) (hts _ kw_1264) (fun _ h9 => h9) rfl dX12_takeSign_10 ?_
    refine lv_iconst (v := 1) (pc := 13) hx hb dX12_takeSign_13 (by decide) ?_
    refine lv_iadd (pc := 14) hx hb dX12_takeSign_14 ?_
    refine va_put (pc := 15) (D := D) (ci := 10) (v := .int (this_at + 1)) (ty := .int) (C := RX12) (T := TX12) (N := 30) hx hb hts hiX12 tyX12 tyX12_ok nmX12 hown hG.1 hP hD hS 0 rfl rfl 7 (Nat.le_of_ble_eq_true rfl) (hts _ kw_1264) (fun _ h9 => h9) rfl (by decide +kernel) rfl rfl (Nat.le_of_ble_eq_true rfl) dX12_takeSign_15 (fun H locs hP hD hS => ?_)
    have hP : va_P D vwCl (wd_X12_takeSign k this this_thrown this_tape this_taped this_size this_sort this_sort_f this_place this_place_f this_value this_value_f (this_at + 1) this_fault this_words this_towns this_op this_arg this_codes this_names this_readNames this_namesMany this_readMany this_once this_lines this_facts this_pile this_state this_undos this_isMarked this_weight this_rounding this_lacks this_alikes this_g) H := hP
    have hD : va_D A (wd_X12_takeSign k this this_thrown this_tape this_taped this_size this_sort this_sort_f this_place this_place_f this_value this_value_f (this_at + 1) this_fault this_words this_towns this_op this_arg this_codes this_names this_readNames this_namesMany this_readMany this_once this_lines this_facts this_pile this_state this_undos this_isMarked this_weight this_rounding this_lacks this_alikes this_g) := hD
    refine lv_goto (tgt := 26) (pc := 18) hx hb dX12_takeSign_18 (by decide) ?_
    rw [← Option.some.inj hm]
    exact W.vret hx hb hr (fun t ht _ => hq _ _ H t ht hP hD locs hS) hS.2.2 dX12_takeSign_26 hlocks
theorem dX12_hasSign_0 : decode cX12_hasSign 0 = .ok (.aload_n 0, 1) := by decide +kernel
theorem dX12_hasSign_1 : decode cX12_hasSign 1 = .ok (.iload_n 1, 1) := by decide +kernel
theorem dX12_hasSign_2 : decode cX12_hasSign 2 = .ok (.invokevirtual 162, 3) := by decide +kernel
theorem dX12_hasSign_5 : decode cX12_hasSign 5 = .ok (.istore_n 2, 1) := by decide +kernel
theorem dX12_hasSign_6 : decode cX12_hasSign 6 = .ok (.aload_n 0, 1) := by decide +kernel
theorem dX12_hasSign_7 : decode cX12_hasSign 7 = .ok (.dup, 1) := by decide +kernel
theorem dX12_hasSign_8 : decode cX12_hasSign 8 = .ok (.getfield 156, 3) := by decide +kernel
theorem dX12_hasSign_11 : decode cX12_hasSign 11 = .ok (.iload_n 2, 1) := by decide +kernel
theorem dX12_hasSign_12 : decode cX12_hasSign 12 = .ok (.ifCond .eq 7, 3) := by decide +kernel
theorem dX12_hasSign_15 : decode cX12_hasSign 15 = .ok (.iconst 1, 1) := by decide +kernel
theorem dX12_hasSign_16 : decode cX12_hasSign 16 = .ok (.goto 4, 3) := by decide +kernel
theorem dX12_hasSign_19 : decode cX12_hasSign 19 = .ok (.iconst 0, 1) := by decide +kernel
theorem dX12_hasSign_20 : decode cX12_hasSign 20 = .ok (.iadd, 1) := by decide +kernel
theorem dX12_hasSign_21 : decode cX12_hasSign 21 = .ok (.putfield 156, 3) := by decide +kernel
theorem dX12_hasSign_24 : decode cX12_hasSign 24 = .ok (.iload_n 2, 1) := by decide +kernel
theorem dX12_hasSign_25 : decode cX12_hasSign 25 = .ok (.ireturn, 1) := by decide +kernel
abbrev wd_X12_hasSign (k : Nat → ClassId) (this : Nat) (this_thrown : Int32) (this_tape : Nat) (this_taped : Int32) (this_size : Int32) (this_sort : Nat) (this_sort_f : Nat → Int32) (this_place : Nat) (this_value : Nat) (this_value_f : Nat → Int64) (this_at : Int32) (this_fault : Int32) (this_words : Nat) (this_towns : Nat) (this_op : Nat) (this_arg : Nat) (this_codes : Int32) (this_names : Nat) (this_readNames : Nat) (this_namesMany : Int32) (this_readMany : Int32) (this_once : Int32) (this_lines : Nat) (this_facts : Nat) (this_pile : Nat) (this_state : Nat) (this_undos : Int32) (this_isMarked : Nat) (this_weight : Int32) (this_rounding : Int32) (this_lacks : Nat) (this_alikes : Nat) (this_g : Int64) : va_W := [(this, .inr (10, [.int this_thrown, .ref this_tape, .int this_taped, .int this_size, .ref this_sort, .ref this_place, .ref this_value, .int this_at, .int this_fault, .ref this_words, .ref this_towns, .ref this_op, .ref this_arg, .int this_codes, .ref this_names, .ref this_readNames, .int this_namesMany, .int this_readMany, .int this_once, .ref this_lines, .ref this_facts, .ref this_pile, .ref this_state, .int this_undos, .ref this_isMarked, .int this_weight, .int this_rounding, .ref this_lacks, .ref this_alikes, .long this_g])), (this_sort, .inl (k 0, 1002, .inl this_sort_f)), (this_value, .inl (k 1, 1002, .inr (.inl this_value_f)))]
set_option maxHeartbeats 4000000 in
set_option maxRecDepth 100000 in
theorem c_X12_hasSign (l : Launch) (D : va_G) (k : Nat → ClassId) (this : Nat) (this_thrown : Int32) (this_tape : Nat) (this_taped : Int32) (this_size : Int32) (this_sort : Nat) (this_sort_f : Nat → Int32) (this_place : Nat) (this_value : Nat) (this_value_f : Nat → Int64) (this_at : Int32) (this_fault : Int32) (this_words : Nat) (this_towns : Nat) (this_op : Nat) (this_arg : Nat) (this_codes : Int32) (this_names : Nat) (this_readNames : Nat) (this_namesMany : Int32) (this_readMany : Int32) (this_once : Int32) (this_lines : Nat) (this_facts : Nat) (this_pile : Nat) (this_state : Nat) (this_undos : Int32) (this_isMarked : Nat) (this_weight : Int32) (this_rounding : Int32) (this_lacks : Nat) (this_alikes : Nat) (this_g : Int64) (q1 : Int32) (R0 : Int32 × Int32) (hm : m_X12_hasSign this_sort_f this_value_f this_at this_fault q1 = some R0) : CW l D (TY k) yX12_hasSign cX12_hasSign 3 (some .boolean) 1 21 [.ref this, .int q1] (wd_X12_hasSign k this this_thrown this_tape this_taped this_size this_sort this_sort_f this_place this_value this_value_f this_at this_fault this_words this_towns this_op this_arg this_codes this_names this_readNames this_namesMany this_readMany this_once this_lines this_facts this_pile this_state this_undos this_isMarked this_weight this_rounding this_lacks this_alikes this_g) (some (.int R0.1)) (wd_X12_hasSign k this this_thrown this_tape this_taped this_size this_sort this_sort_f this_place this_value this_value_f R0.2 this_fault this_words this_towns this_op this_arg this_codes this_names this_readNames this_namesMany this_readMany this_once this_lines this_facts this_pile this_state this_undos this_isMarked this_weight this_rounding this_lacks this_alikes this_g) := by
  refine CW.mk (by decide) (Nat.le_of_ble_eq_true rfl) ?_
  intro p e s m args below meth c ls A ⟨hx, hb, hr, hts, hown, hlocks, hml⟩ hP hG hD hA hl hS hq
  have hl : lv_has ls 3 [(0, .ref this), (1, .int q1)] := hl
  have h_20 : ∀ (x2 : Int32) (t0 : Int32) (t1 : Int32) (u_this_at : Int32) (H : Heap) (locs : List Loc) (ls : Array Slot), va_P D vwCl (wd_X12_hasSign k this this_thrown this_tape this_taped this_size this_sort this_sort_f this_place this_value this_value_f u_this_at this_fault this_words this_towns this_op this_arg this_codes this_names this_readNames this_namesMany this_readMany this_once this_lines this_facts this_pile this_state this_undos this_isMarked this_weight this_rounding this_lacks this_alikes this_g) H → va_D A (wd_X12_hasSign k this this_thrown this_tape this_taped this_size this_sort this_sort_f this_place this_value this_value_f u_this_at this_fault this_words this_towns this_op this_arg this_codes this_names this_readNames this_namesMany this_readMany this_once this_lines this_facts this_pile this_state this_undos this_isMarked this_weight this_rounding this_lacks this_alikes this_g) → va_S A s.heap H locs → lv_has ls 3 [(2, .int x2)] → m_X12_hasSign_20 this_sort_f this_value_f this_fault q1 x2 t0 t1 u_this_at = some R0 → W p l e (Rm 1 21) s m args below meth c H locs 0 0 (MQ below (QW D (some (.int R0.1)) (wd_X12_hasSign k this this_thrown this_tape this_taped this_size this_sort this_sort_f this_place this_value this_value_f this_at this_fault this_words this_towns this_op this_arg this_codes this_names this_readNames this_namesMany this_readMany this_once this_lines this_facts this_pile this_state this_undos this_isMarked this_weight this_rounding this_lacks this_alikes this_g) (wd_X12_hasSign k this this_thrown this_tape this_taped this_size this_sort this_sort_f this_place this_value this_value_f R0.2 this_fault this_words this_towns this_op this_arg this_codes this_names this_readNames this_namesMany this_readMany this_once this_lines this_facts this_pile this_state this_undos this_isMarked this_weight this_rounding this_lacks this_alikes this_g) s.heap.size) args s 0 0 A) (F0 m 20 ls [.int t0, .int t1, .ref this]) := by
    intro  x2 t0 t1 u_this_at H locs ls hP hD hS hl hm
    unfold m_X12_hasSign_20 at hm
    refine lv_iadd (pc := 20) hx hb dX12_hasSign_20 ?_
    refine va_put (pc := 21) (D := D) (ci := 10) (v := .int (t1 + t0)) (ty := .int) (C := RX12) (T := TX12) (N := 30) hx hb hts hiX12 tyX12 tyX12_ok nmX12 hown hG.1 hP hD hS 0 rfl rfl 7 (Nat.le_of_ble_eq_true rfl) (hts _ kw_1264) (fun _ h9 => h9) rfl (by decide +kernel) rfl rfl (Nat.le_of_ble_eq_true rfl) dX12_hasSign_21 (fun H locs hP hD hS => ?_)
    have hP : va_P D vwCl (wd_X12_hasSign k this this_thrown this_tape this_taped this_size this_sort this_sort_f this_place this_value this_value_f (t1 + t0) this_fault this_words this_towns this_op this_arg this_codes this_names this_readNames this_namesMany this_readMany this_once this_lines this_facts this_pile this_state this_undos this_isMarked this_weight this_rounding this_lacks this_alikes this_g) H := hP
    have hD : va_D A (wd_X12_hasSign k this this_thrown this_tape this_taped this_size this_sort this_sort_f this_place this_value this_value_f (t1 + t0) this_fault this_words this_towns this_op this_arg this_codes this_names this_readNames this_namesMany this_readMany this_once this_lines this_facts this_pile this_state this_undos this_isMarked this_weight this_rounding this_lacks this_alikes this_g) := hD
    refine lv_iload_n (pc := 24) hx hb dX12_hasSign_24 rfl (lv_at hl 0 rfl) ?_
    obtain ⟨hz, hm⟩ := gd hm
    rw [← Option.some.inj hm]
    exact W.zret hx hb hr (nar_bool hz) (fun t ht _ => hq _ _ H t ht hP hD locs hS) hS.2.2 dX12_hasSign_25 hlocks
  unfold m_X12_hasSign at hm
  suffices hgo : ∀ (H : Heap) (locs : List Loc), va_P D vwCl (wd_X12_hasSign k this this_thrown this_tape this_taped this_size this_sort this_sort_f this_place this_value this_value_f this_at this_fault this_words this_towns this_op this_arg this_codes this_names this_readNames this_namesMany this_readMany this_once this_lines this_facts this_pile this_state this_undos this_isMarked this_weight this_rounding this_lacks this_alikes this_g) H → va_D A (wd_X12_hasSign k this this_thrown this_tape this_taped this_size this_sort this_sort_f this_place this_value this_value_f this_at this_fault this_words this_towns this_op this_arg this_codes this_names this_readNames this_namesMany this_readMany this_once this_lines this_facts this_pile this_state this_undos this_isMarked this_weight this_rounding this_lacks this_alikes this_g) → va_S A s.heap H locs → W p l e (Rm 1 21) s m args below meth c H locs 0 0 (MQ below (QW D (some (.int R0.1)) (wd_X12_hasSign k this this_thrown this_tape this_taped this_size this_sort this_sort_f this_place this_value this_value_f this_at this_fault this_words this_towns this_op this_arg this_codes this_names this_readNames this_namesMany this_readMany this_once this_lines this_facts this_pile this_state this_undos this_isMarked this_weight this_rounding this_lacks this_alikes this_g) (wd_X12_hasSign k this this_thrown this_tape this_taped this_size this_sort this_sort_f this_place this_value this_value_f R0.2 this_fault this_words this_towns this_op this_arg this_codes this_names this_readNames this_namesMany this_readMany this_once this_lines this_facts this_pile this_state this_undos this_isMarked this_weight this_rounding this_lacks this_alikes this_g) s.heap.size) args s 0 0 A) (F0 m 0 ls []) from hgo _ _ hP hD hS
  clear hP hD hS
  intro H locs hP hD hS
  refine lv_aload_n (pc := 0) hx hb dX12_hasSign_0 rfl (lv_at hl 0 rfl) ?_
  refine lv_iload_n (pc := 1) hx hb dX12_hasSign_1 rfl (lv_at hl 1 rfl) ?_
  obtain ⟨r2, hcl, hm⟩ := bd hm
  refine cr_back (run_V (pc := 2) (n := 1) (As := [.int q1]) (rest := []) ⟨hx, hb, hml, hown, hts⟩ (c_X12_isSign l D k this this_thrown this_tape this_taped this_size this_sort this_sort_f this_place this_value this_value_f this_at this_fault this_words this_towns this_op this_arg this_codes this_names this_readNames this_namesMany this_readMany this_once this_lines this_facts this_pile this_state this_undos this_isMarked this_weight this_rounding this_lacks this_alikes this_g q1 r2 hcl) ⟨kw_1451, kw_16, by decide +kernel⟩ kw_1448 kw_1450 ks_119 ⟨Nat.le_of_ble_eq_true rfl, Nat.le_of_ble_eq_true rfl⟩ pr_blind (prR (hP.sub [0, 1, 2] rfl) hG) (va_recv hG.1 hP (ci := 10) (q0 := 0) rfl rfl) rfl hl.1 rfl (Nat.le_of_ble_eq_true rfl) dX12_hasSign_2 ⟨Nat.zero_le _, Nat.zero_le _⟩) ?_
  refine lv_istore_n (lv' := [(2, .int r2), (0, .ref this), (1, .int q1)]) (pc := 5) hx hb dX12_hasSign_5 rfl hl (Nat.le_of_ble_eq_true rfl) rfl (fun ls hl => ?_)
  refine lv_aload_n (pc := 6) hx hb dX12_hasSign_6 rfl (lv_at hl 1 rfl) ?_
  refine lv_dup (pc := 7) hx hb dX12_hasSign_7 rfl ?_
  refine va_get (pc := 8) (D := D) (ci := 10) (C := RX12) (T := TX12) (N := 30) hx hb hts hiX12 hown hG.1 hP 0 rfl rfl 7 (Nat.le_of_ble_eq_true rfl) (hts _ kw_1264) (fun _ h9 => h9) rfl dX12_hasSign_8 ?_
  refine lv_iload_n (pc := 11) hx hb dX12_hasSign_11 rfl (lv_at hl 0 rfl) ?_
  refine lv_if_eq (tgt := 19) (pc := 12) hx hb dX12_hasSign_12 (by decide) (fun hc => ?_) (fun hc => ?_)
  · rw [if_pos hc] at hm
    refine lv_iconst (v := 0) (pc := 19) hx hb dX12_hasSign_19 (by decide) ?_
    exact h_20 r2 0 this_at this_at H locs ls hP hD hS (lv_sub hl [0] rfl) hm
  · rw [if_neg hc] at hm
    refine lv_iconst (v := 1) (pc := 15) hx hb dX12_hasSign_15 (by decide) ?_
    refine lv_goto (tgt := 20) (pc := 16) hx hb dX12_hasSign_16 (by decide) ?_
    exact h_20 r2 1 this_at this_at H locs ls hP hD hS (lv_sub hl [0] rfl) hm
theorem dX12_hasWord_0 : decode cX12_hasWord 0 = .ok (.aload_n 0, 1) := by decide +kernel
theorem dX12_hasWord_1 : decode cX12_hasWord 1 = .ok (.iload_n 1, 1) := by decide +kernel
theorem dX12_hasWord_2 : decode cX12_hasWord 2 = .ok (.invokevirtual 168, 3) := by decide +kernel
theorem dX12_hasWord_5 : decode cX12_hasWord 5 = .ok (.istore_n 2, 1) := by decide +kernel
theorem dX12_hasWord_6 : decode cX12_hasWord 6 = .ok (.aload_n 0, 1) := by decide +kernel
theorem dX12_hasWord_7 : decode cX12_hasWord 7 = .ok (.dup, 1) := by decide +kernel
theorem dX12_hasWord_8 : decode cX12_hasWord 8 = .ok (.getfield 156, 3) := by decide +kernel
theorem dX12_hasWord_11 : decode cX12_hasWord 11 = .ok (.iload_n 2, 1) := by decide +kernel
theorem dX12_hasWord_12 : decode cX12_hasWord 12 = .ok (.ifCond .eq 7, 3) := by decide +kernel
theorem dX12_hasWord_15 : decode cX12_hasWord 15 = .ok (.iconst 1, 1) := by decide +kernel
theorem dX12_hasWord_16 : decode cX12_hasWord 16 = .ok (.goto 4, 3) := by decide +kernel
theorem dX12_hasWord_19 : decode cX12_hasWord 19 = .ok (.iconst 0, 1) := by decide +kernel
theorem dX12_hasWord_20 : decode cX12_hasWord 20 = .ok (.iadd, 1) := by decide +kernel
theorem dX12_hasWord_21 : decode cX12_hasWord 21 = .ok (.putfield 156, 3) := by decide +kernel
theorem dX12_hasWord_24 : decode cX12_hasWord 24 = .ok (.iload_n 2, 1) := by decide +kernel
theorem dX12_hasWord_25 : decode cX12_hasWord 25 = .ok (.ireturn, 1) := by decide +kernel
abbrev wd_X12_hasWord (k : Nat → ClassId) (this : Nat) (this_thrown : Int32) (this_tape : Nat) (this_taped : Int32) (this_size : Int32) (this_sort : Nat) (this_sort_f : Nat → Int32) (this_place : Nat) (this_value : Nat) (this_value_f : Nat → Int64) (this_at : Int32) (this_fault : Int32) (this_words : Nat) (this_words_f : Nat → Int64) (this_towns : Nat) (this_op : Nat) (this_arg : Nat) (this_codes : Int32) (this_names : Nat) (this_readNames : Nat) (this_namesMany : Int32) (this_readMany : Int32) (this_once : Int32) (this_lines : Nat) (this_facts : Nat) (this_pile : Nat) (this_state : Nat) (this_undos : Int32) (this_isMarked : Nat) (this_weight : Int32) (this_rounding : Int32) (this_lacks : Nat) (this_alikes : Nat) (this_g : Int64) : va_W := [(this, .inr (10, [.int this_thrown, .ref this_tape, .int this_taped, .int this_size, .ref this_sort, .ref this_place, .ref this_value, .int this_at, .int this_fault, .ref this_words, .ref this_towns, .ref this_op, .ref this_arg, .int this_codes, .ref this_names, .ref this_readNames, .int this_namesMany, .int this_readMany, .int this_once, .ref this_lines, .ref this_facts, .ref this_pile, .ref this_state, .int this_undos, .ref this_isMarked, .int this_weight, .int this_rounding, .ref this_lacks, .ref this_alikes, .long this_g])), (this_sort, .inl (k 0, 1002, .inl this_sort_f)), (this_value, .inl (k 1, 1002, .inr (.inl this_value_f))), (this_words, .inl (k 1, 26, .inr (.inl this_words_f)))]
set_option maxHeartbeats 4000000 in
set_option maxRecDepth 100000 in
theorem c_X12_hasWord (l : Launch) (D : va_G) (k : Nat → ClassId) (this : Nat) (this_thrown : Int32) (this_tape : Nat) (this_taped : Int32) (this_size : Int32) (this_sort : Nat) (this_sort_f : Nat → Int32) (this_place : Nat) (this_value : Nat) (this_value_f : Nat → Int64) (this_at : Int32) (this_fault : Int32) (this_words : Nat) (this_words_f : Nat → Int64) (this_towns : Nat) (this_op : Nat) (this_arg : Nat) (this_codes : Int32) (this_names : Nat) (this_readNames : Nat) (this_namesMany : Int32) (this_readMany : Int32) (this_once : Int32) (this_lines : Nat) (this_facts : Nat) (this_pile : Nat) (this_state : Nat) (this_undos : Int32) (this_isMarked : Nat) (this_weight : Int32) (this_rounding : Int32) (this_lacks : Nat) (this_alikes : Nat) (this_g : Int64) (q1 : Int32) (R0 : Int32 × Int32) (hm : m_X12_hasWord this_sort_f this_value_f this_at this_fault this_words_f q1 = some R0) : CW l D (TY k) yX12_hasWord cX12_hasWord 3 (some .boolean) 1 21 [.ref this, .int q1] (wd_X12_hasWord k this this_thrown this_tape this_taped this_size this_sort this_sort_f this_place this_value this_value_f this_at this_fault this_words this_words_f this_towns this_op this_arg this_codes this_names this_readNames this_namesMany this_readMany this_once this_lines this_facts this_pile this_state this_undos this_isMarked this_weight this_rounding this_lacks this_alikes this_g) (some (.int R0.1)) (wd_X12_hasWord k this this_thrown this_tape this_taped this_size this_sort this_sort_f this_place this_value this_value_f R0.2 this_fault this_words this_words_f this_towns this_op this_arg this_codes this_names this_readNames this_namesMany this_readMany this_once this_lines this_facts this_pile this_state this_undos this_isMarked this_weight this_rounding this_lacks this_alikes this_g) := by
  refine CW.mk (by decide) (Nat.le_of_ble_eq_true rfl) ?_
  intro p e s m args below meth c ls A ⟨hx, hb, hr, hts, hown, hlocks, hml⟩ hP hG hD hA hl hS hq
  have hl : lv_has ls 3 [(0, .ref this), (1, .int q1)] := hl
  have h_20 : ∀ (x2 : Int32) (t0 : Int32) (t1 : Int32) (u_this_at : Int32) (H : Heap) (locs : List Loc) (ls : Array Slot), va_P D vwCl (wd_X12_hasWord k this this_thrown this_tape this_taped this_size this_sort this_sort_f this_place this_value this_value_f u_this_at this_fault this_words this_words_f this_towns this_op this_arg this_codes this_names this_readNames this_namesMany this_readMany this_once this_lines this_facts this_pile this_state this_undos this_isMarked this_weight this_rounding this_lacks this_alikes this_g) H → va_D A (wd_X12_hasWord k this this_thrown this_tape this_taped this_size this_sort this_sort_f this_place this_value this_value_f u_this_at this_fault this_words this_words_f this_towns this_op this_arg this_codes this_names this_readNames this_namesMany this_readMany this_once this_lines this_facts this_pile this_state this_undos this_isMarked this_weight this_rounding this_lacks this_alikes this_g) → va_S A s.heap H locs → lv_has ls 3 [(2, .int x2)] → m_X12_hasWord_20 this_sort_f this_value_f this_fault this_words_f q1 x2 t0 t1 u_this_at = some R0 → W p l e (Rm 1 21) s m args below meth c H locs 0 0 (MQ below (QW D (some (.int R0.1)) (wd_X12_hasWord k this this_thrown this_tape this_taped this_size this_sort this_sort_f this_place this_value this_value_f this_at this_fault this_words this_words_f this_towns this_op this_arg this_codes this_names this_readNames this_namesMany this_readMany this_once this_lines this_facts this_pile this_state this_undos this_isMarked this_weight this_rounding this_lacks this_alikes this_g) (wd_X12_hasWord k this this_thrown this_tape this_taped this_size this_sort this_sort_f this_place this_value this_value_f R0.2 this_fault this_words this_words_f this_towns this_op this_arg this_codes this_names this_readNames this_namesMany this_readMany this_once this_lines this_facts this_pile this_state this_undos this_isMarked this_weight this_rounding this_lacks this_alikes this_g) s.heap.size) args s 0 0 A) (F0 m 20 ls [.int t0, .int t1, .ref this]) := by
    intro  x2 t0 t1 u_this_at H locs ls hP hD hS hl hm
    unfold m_X12_hasWord_20 at hm
    refine lv_iadd (pc := 20) hx hb dX12_hasWord_20 ?_
    refine va_put (pc := 21) (D := D) (ci := 10) (v := .int (t1 + t0)) (ty := .int) (C := RX12) (T := TX12) (N := 30) hx hb hts hiX12 tyX12 tyX12_ok nmX12 hown hG.1 hP hD hS 0 rfl rfl 7 (Nat.le_of_ble_eq_true rfl) (hts _ kw_1264) (fun _ h9 => h9) rfl (by decide +kernel) rfl rfl (Nat.le_of_ble_eq_true rfl) dX12_hasWord_21 (fun H locs hP hD hS => ?_)
    have hP : va_P D vwCl (wd_X12_hasWord k this this_thrown this_tape this_taped this_size this_sort this_sort_f this_place this_value this_value_f (t1 + t0) this_fault this_words this_words_f this_towns this_op this_arg this_codes this_names this_readNames this_namesMany this_readMany this_once this_lines this_facts this_pile this_state this_undos this_isMarked this_weight this_rounding this_lacks this_alikes this_g) H := hP
    have hD : va_D A (wd_X12_hasWord k this this_thrown this_tape this_taped this_size this_sort this_sort_f this_place this_value this_value_f (t1 + t0) this_fault this_words this_words_f this_towns this_op this_arg this_codes this_names this_readNames this_namesMany this_readMany this_once this_lines this_facts this_pile this_state this_undos this_isMarked this_weight this_rounding this_lacks this_alikes this_g) := hD
    refine lv_iload_n (pc := 24) hx hb dX12_hasWord_24 rfl (lv_at hl 0 rfl) ?_
    obtain ⟨hz, hm⟩ := gd hm
    rw [← Option.some.inj hm]
    exact W.zret hx hb hr (nar_bool hz) (fun t ht _ => hq _ _ H t ht hP hD locs hS) hS.2.2 dX12_hasWord_25 hlocks
  unfold m_X12_hasWord at hm
  suffices hgo : ∀ (H : Heap) (locs : List Loc), va_P D vwCl (wd_X12_hasWord k this this_thrown this_tape this_taped this_size this_sort this_sort_f this_place this_value this_value_f this_at this_fault this_words this_words_f this_towns this_op this_arg this_codes this_names this_readNames this_namesMany this_readMany this_once this_lines this_facts this_pile this_state this_undos this_isMarked this_weight this_rounding this_lacks this_alikes this_g) H → va_D A (wd_X12_hasWord k this this_thrown this_tape this_taped this_size this_sort this_sort_f this_place this_value this_value_f this_at this_fault this_words this_words_f this_towns this_op this_arg this_codes this_names this_readNames this_namesMany this_readMany this_once this_lines this_facts this_pile this_state this_undos this_isMarked this_weight this_rounding this_lacks this_alikes this_g) → va_S A s.heap H locs → W p l e (Rm 1 21) s m args below meth c H locs 0 0 (MQ below (QW D (some (.int R0.1)) (wd_X12_hasWord k this this_thrown this_tape this_taped this_size this_sort this_sort_f this_place this_value this_value_f this_at this_fault this_words this_words_f this_towns this_op this_arg this_codes this_names this_readNames this_namesMany this_readMany this_once this_lines this_facts this_pile this_state this_undos this_isMarked this_weight this_rounding this_lacks this_alikes this_g) (wd_X12_hasWord k this this_thrown this_tape this_taped this_size this_sort this_sort_f this_place this_value this_value_f R0.2 this_fault this_words this_words_f this_towns this_op this_arg this_codes this_names this_readNames this_namesMany this_readMany this_once this_lines this_facts this_pile this_state this_undos this_isMarked this_weight this_rounding this_lacks this_alikes this_g) s.heap.size) args s 0 0 A) (F0 m 0 ls []) from hgo _ _ hP hD hS
  clear hP hD hS
  intro H locs hP hD hS
  refine lv_aload_n (pc := 0) hx hb dX12_hasWord_0 rfl (lv_at hl 0 rfl) ?_
  refine lv_iload_n (pc := 1) hx hb dX12_hasWord_1 rfl (lv_at hl 1 rfl) ?_
  obtain ⟨r2, hcl, hm⟩ := bd hm
  refine cr_back (run_V (pc := 2) (n := 1) (As := [.int q1]) (rest := []) ⟨hx, hb, hml, hown, hts⟩ (c_X12_isWord l D k this this_thrown this_tape this_taped this_size this_sort this_sort_f this_place this_value this_value_f this_at this_fault this_words this_words_f this_towns this_op this_arg this_codes this_names this_readNames this_namesMany this_readMany this_once this_lines this_facts this_pile this_state this_undos this_isMarked this_weight this_rounding this_lacks this_alikes this_g q1 r2 hcl) ⟨kw_1379, kw_16, by decide +kernel⟩ kw_1376 kw_1378 ks_101 ⟨Nat.le_of_ble_eq_true rfl, Nat.le_of_ble_eq_true rfl⟩ pr_blind (prR (hP.sub [0, 1, 2, 3] rfl) hG) (va_recv hG.1 hP (ci := 10) (q0 := 0) rfl rfl) rfl hl.1 rfl (Nat.le_of_ble_eq_true rfl) dX12_hasWord_2 ⟨Nat.zero_le _, Nat.zero_le _⟩) ?_
  refine lv_istore_n (lv' := [(2, .int r2), (0, .ref this), (1, .int q1)]) (pc := 5) hx hb dX12_hasWord_5 rfl hl (Nat.le_of_ble_eq_true rfl) rfl (fun ls hl => ?_)
  refine lv_aload_n (pc := 6) hx hb dX12_hasWord_6 rfl (lv_at hl 1 rfl) ?_
  refine lv_dup (pc := 7) hx hb dX12_hasWord_7 rfl ?_
  refine va_get (pc := 8) (D := D) (ci := 10) (C := RX12) (T := TX12) (N := 30) hx hb hts hiX12 hown hG.1 hP 0 rfl rfl 7 (Nat.le_of_ble_eq_true rfl) (hts _ kw_1264) (fun _ h9 => h9) rfl dX12_hasWord_8 ?_
  refine lv_iload_n (pc := 11) hx hb dX12_hasWord_11 rfl (lv_at hl 0 rfl) ?_
  refine lv_if_eq (tgt := 19) (pc := 12) hx hb dX12_hasWord_12 (by decide) (fun hc => ?_) (fun hc => ?_)
  · rw [if_pos hc] at hm
    refine lv_iconst (v := 0) (pc := 19) hx hb dX12_hasWord_19 (by decide) ?_
    exact h_20 r2 0 this_at this_at H locs ls hP hD hS (lv_sub hl [0] rfl) hm
  · rw [if_neg hc] at hm
    refine lv_iconst (v := 1) (pc := 15) hx hb dX12_hasWord_15 (by decide) ?_
    refine lv_goto (tgt := 20) (pc := 16) hx hb dX12_hasWord_16 (by decide) ?_
    exact h_20 r2 1 this_at this_at H locs ls hP hD hS (lv_sub hl [0] rfl) hm
theorem dX12_takeWord_0 : decode cX12_takeWord 0 = .ok (.aload_n 0, 1) := by decide +kernel
theorem dX12_takeWord_1 : decode cX12_takeWord 1 = .ok (.iload_n 1, 1) := by decide +kernel
theorem dX12_takeWord_2 : decode cX12_takeWord 2 = .ok (.invokevirtual 171, 3) := by decide +kernel
theorem dX12_takeWord_5 : decode cX12_takeWord 5 = .ok (.ifCond .ne 8, 3) := by decide +kernel
theorem dX12_takeWord_8 : decode cX12_takeWord 8 = .ok (.aload_n 0, 1) := by decide +kernel
theorem dX12_takeWord_9 : decode cX12_takeWord 9 = .ok (.iconst 1, 1) := by decide +kernel
theorem dX12_takeWord_10 : decode cX12_takeWord 10 = .ok (.invokevirtual 165, 3) := by decide +kernel
theorem dX12_takeWord_13 : decode cX12_takeWord 13 = .ok (.return_, 1) := by decide +kernel
abbrev wd_X12_takeWord (k : Nat → ClassId) (this : Nat) (this_thrown : Int32) (this_tape : Nat) (this_taped : Int32) (this_size : Int32) (this_sort : Nat) (this_sort_f : Nat → Int32) (this_place : Nat) (this_place_f : Nat → Int32) (this_value : Nat) (this_value_f : Nat → Int64) (this_at : Int32) (this_fault : Int32) (this_words : Nat) (this_words_f : Nat → Int64) (this_towns : Nat) (this_op : Nat) (this_arg : Nat) (this_codes : Int32) (this_names : Nat) (this_readNames : Nat) (this_namesMany : Int32) (this_readMany : Int32) (this_once : Int32) (this_lines : Nat) (this_facts : Nat) (this_pile : Nat) (this_state : Nat) (this_undos : Int32) (this_isMarked : Nat) (this_weight : Int32) (this_rounding : Int32) (this_lacks : Nat) (this_alikes : Nat) (this_g : Int64) : va_W := [(this, .inr (10, [.int this_thrown, .ref this_tape, .int this_taped, .int this_size, .ref this_sort, .ref this_place, .ref this_value, .int this_at, .int this_fault, .ref this_words, .ref this_towns, .ref this_op, .ref this_arg, .int this_codes, .ref this_names, .ref this_readNames, .int this_namesMany, .int this_readMany, .int this_once, .ref this_lines, .ref this_facts, .ref this_pile, .ref this_state, .int this_undos, .ref this_isMarked, .int this_weight, .int this_rounding, .ref this_lacks, .ref this_alikes, .long this_g])), (this_sort, .inl (k 0, 1002, .inl this_sort_f)), (this_place, .inl (k 0, 1002, .inl this_place_f)), (this_value, .inl (k 1, 1002, .inr (.inl this_value_f))), (this_words, .inl (k 1, 26, .inr (.inl this_words_f)))]
set_option maxHeartbeats 4000000 in
set_option maxRecDepth 100000 in
theorem c_X12_takeWord (l : Launch) (D : va_G) (k : Nat → ClassId) (this : Nat) (this_thrown : Int32) (this_tape : Nat) (this_taped : Int32) (this_size : Int32) (this_sort : Nat) (this_sort_f : Nat → Int32) (this_place : Nat) (this_place_f : Nat → Int32) (this_value : Nat) (this_value_f : Nat → Int64) (this_at : Int32) (this_fault : Int32) (this_words : Nat) (this_words_f : Nat → Int64) (this_towns : Nat) (this_op : Nat) (this_arg : Nat) (this_codes : Int32) (this_names : Nat) (this_readNames : Nat) (this_namesMany : Int32) (this_readMany : Int32) (this_once : Int32) (this_lines : Nat) (this_facts : Nat) (this_pile : Nat) (this_state : Nat) (this_undos : Int32) (this_isMarked : Nat) (this_weight : Int32) (this_rounding : Int32) (this_lacks : Nat) (this_alikes : Nat) (this_g : Int64) (q1 : Int32) (R0 : Int32 × Int32) (hm : m_X12_takeWord this_sort_f this_place_f this_value_f this_at this_fault this_words_f q1 = some R0) : CW l D (TY k) yX12_takeWord cX12_takeWord 2 none 2 43 [.ref this, .int q1] (wd_X12_takeWord k this this_thrown this_tape this_taped this_size this_sort this_sort_f this_place this_place_f this_value this_value_f this_at this_fault this_words this_words_f this_towns this_op this_arg this_codes this_names this_readNames this_namesMany this_readMany this_once this_lines this_facts this_pile this_state this_undos this_isMarked this_weight this_rounding this_lacks this_alikes this_g) none (wd_X12_takeWord k this this_thrown this_tape this_taped this_size this_sort this_sort_f this_place this_place_f this_value this_value_f R0.1 R0.2 this_words this_words_f this_towns this_op this_arg this_codes this_names this_readNames this_namesMany this_readMany this_once this_lines this_facts this_pile this_state this_undos this_isMarked this_weight this_rounding this_lacks this_alikes this_g) := by
  refine CW.mk (by decide) (Nat.le_of_ble_eq_true rfl) ?_
  intro p e s m args below meth c ls A ⟨hx, hb, hr, hts, hown, hlocks, hml⟩ hP hG hD hA hl hS hq
  have hl : lv_has ls 2 [(0, .ref this), (1, .int q1)] := hl
  unfold m_X12_takeWord at hm
  suffices hgo : ∀ (H : Heap) (locs : List Loc), va_P D vwCl (wd_X12_takeWord k this this_thrown this_tape this_taped this_size this_sort this_sort_f this_place this_place_f this_value this_value_f this_at this_fault this_words this_words_f this_towns this_op this_arg this_codes this_names this_readNames this_namesMany this_readMany this_once this_lines this_facts this_pile this_state this_undos this_isMarked this_weight this_rounding this_lacks this_alikes this_g) H → va_D A (wd_X12_takeWord k this this_thrown this_tape this_taped this_size this_sort this_sort_f this_place this_place_f this_value this_value_f this_at this_fault this_words this_words_f this_towns this_op this_arg this_codes this_names this_readNames this_namesMany this_readMany this_once this_lines this_facts this_pile this_state this_undos this_isMarked this_weight this_rounding this_lacks this_alikes this_g) → va_S A s.heap H locs → W p l e (Rm 2 43) s m args below meth c H locs 0 0 (MQ below (QW D none (wd_X12_takeWord k this this_thrown this_tape this_taped this_size this_sort this_sort_f this_place this_place_f this_value this_value_f this_at this_fault this_words this_words_f this_towns this_op this_arg this_codes this_names this_readNames this_namesMany this_readMany this_once this_lines this_facts this_pile this_state this_undos this_isMarked this_weight this_rounding this_lacks this_alikes this_g) (wd_X12_takeWord k this this_thrown this_tape this_taped this_size this_sort this_sort_f this_place this_place_f this_value this_value_f R0.1 R0.2 this_words this_words_f this_towns this_op this_arg this_codes this_names this_readNames this_namesMany this_readMany this_once this_lines this_facts this_pile this_state this_undos this_isMarked this_weight this_rounding this_lacks this_alikes this_g) s.heap.size) args s 0 0 A) (F0 m 0 ls []) from hgo _ _ hP hD hS
  clear hP hD hS
  intro H locs hP hD hS
  refine lv_aload_n (pc := 0) hx hb dX12_takeWord_0 rfl (lv_at hl 0 rfl) ?_
  refine lv_iload_n (pc := 1) hx hb dX12_takeWord_1 rfl (lv_at hl 1 rfl) ?_
  obtain ⟨r3, hcl, hm⟩ := bd hm
  refine cw_mask (ws' := (wd_X12_takeWord k this this_thrown this_tape this_taped this_size this_sort this_sort_f this_place this_place_f this_value this_value_f r3.2 this_fault this_words this_words_f this_towns this_op this_arg this_codes this_names this_readNames this_namesMany this_readMany this_once this_lines this_facts this_pile this_state this_undos this_isMarked this_weight this_rounding this_lacks this_alikes this_g)) (run_V (pc := 2) (n := 1) (As := [.int q1]) (rest := []) ⟨hx, hb, hml, hown, hts⟩ ((c_X12_hasWord l D k this this_thrown this_tape this_taped this_size this_sort this_sort_f this_place this_value this_value_f this_at this_fault this_words this_words_f this_towns this_op this_arg this_codes this_names this_readNames this_namesMany this_readMany this_once this_lines this_facts this_pile this_state this_undos this_isMarked this_weight this_rounding this_lacks this_alikes this_g q1 r3 hcl) H.size) ⟨kw_1415, kw_16, by decide +kernel⟩ kw_1412 kw_1414 ks_110 ⟨Nat.le_of_ble_eq_true rfl, Nat.le_of_ble_eq_true rfl⟩ pw_blind (prW (P_pick [true, true, false, true, true] rfl hP) hG (D_pick [true, true, false, true, true] rfl hD)) (va_recv hG.1 hP (ci := 10) (q0 := 0) rfl rfl) rfl hl.1 rfl (Nat.le_of_ble_eq_true rfl) dX12_takeWord_2 ⟨Nat.zero_le _, Nat.zero_le _⟩) hP hD hS hA [true, true, false, true, true] rfl rfl rfl (fun H locs hP hD hS => ?_)
  refine lv_if_ne (tgt := 13) (pc := 5) hx hb dX12_takeWord_5 (by decide) (fun hc => ?_) (fun hc => ?_)
  · rw [if_neg hc] at hm
    rw [← Option.some.inj hm]
    exact W.vret hx hb hr (fun t ht _ => hq _ _ H t ht hP hD locs hS) hS.2.2 dX12_takeWord_13 hlocks
  · rw [if_pos hc] at hm
    refine lv_aload_n (pc := 8) hx hb dX12_takeWord_8 rfl (lv_at hl 0 rfl) ?_
    refine lv_iconst (v := 1) (pc := 9) hx hb dX12_takeWord_9 (by decide) ?_
    obtain ⟨r4, hcl, hm⟩ := bd hm
    refine cw_mask (ws' := (wd_X12_takeWord k this this_thrown this_tape this_taped this_size this_sort this_sort_f this_place this_place_f this_value this_value_f r3.2 r4 this_words this_words_f this_towns this_op this_arg this_codes this_names this_readNames this_namesMany this_readMany this_once this_lines this_facts this_pile this_state this_undos this_isMarked this_weight this_rounding this_lacks this_alikes this_g)) (run_V (pc := 10) (n := 1) (As := [.int 1]) (rest := []) ⟨hx, hb, hml, hown, hts⟩ ((c_X12_wrong l D k this this_thrown this_tape this_taped this_size this_sort this_place this_place_f this_value r3.2 this_fault this_words this_towns this_op this_arg this_codes this_names this_readNames this_namesMany this_readMany this_once this_lines this_facts this_pile this_state this_undos this_isMarked this_weight this_rounding this_lacks this_alikes this_g 1 r4 hcl) H.size) ⟨kw_1387, kw_16, by decide +kernel⟩ kw_1384 kw_1386 ks_103 ⟨Nat.le_of_ble_eq_true rfl, Nat.le_of_ble_eq_true rfl⟩ pw_blind (prW (P_pick [true, false, true] rfl hP) hG (D_pick [true, false, true] rfl hD)) (va_recv hG.1 hP (ci := 10) (q0 := 0) rfl rfl) rfl hl.1 rfl (Nat.le_of_ble_eq_true rfl) dX12_takeWord_10 ⟨Nat.zero_le _, Nat.zero_le _⟩) hP hD hS hA [true, false, true] rfl rfl rfl (fun H locs hP hD hS => ?_)
    rw [← Option.some.inj hm]
    exact W.vret hx hb hr (fun t ht _ => hq _ _ H t ht hP hD locs hS) hS.2.2 dX12_takeWord_13 hlocks
theorem dX12_within_0 : decode cX12_within 0 = .ok (.iload_n 0, 1) := by decide +kernel
theorem dX12_within_1 : decode cX12_within 1 = .ok (.iload_n 1, 1) := by decide +kernel
theorem dX12_within_2 : decode cX12_within 2 = .ok (.if_icmp .lt 12, 3) := by decide +kernel
theorem dX12_within_5 : decode cX12_within 5 = .ok (.iload_n 0, 1) := by decide +kernel
theorem dX12_within_6 : decode cX12_within 6 = .ok (.iload_n 2, 1) := by decide +kernel
theorem dX12_within_7 : decode cX12_within 7 = .ok (.if_icmp .gt 7, 3) := by decide +kernel
theorem dX12_within_10 : decode cX12_within 10 = .ok (.iconst 1, 1) := by decide +kernel
theorem dX12_within_11 : decode cX12_within 11 = .ok (.goto 4, 3) := by decide +kernel
theorem dX12_within_14 : decode cX12_within 14 = .ok (.iconst 0, 1) := by decide +kernel
theorem dX12_within_15 : decode cX12_within 15 = .ok (.ireturn, 1) := by decide +kernel
abbrev wd_X12_within (k : Nat → ClassId) : va_W := []
set_option maxHeartbeats 4000000 in
set_option maxRecDepth 100000 in
theorem c_X12_within (l : Launch) (D : va_G) (k : Nat → ClassId) (q1 : Int32) (q2 : Int32) (q3 : Int32) (R0 : Int32) (hm : m_X12_within q1 q2 q3 = some R0) : CR l D (TY k) yX12_within cX12_within 3 (some .boolean) 0 0 [.int q1, .int q2, .int q3] (wd_X12_within k ) (some (.int R0)) := by
  refine CR.mk (by decide) (Nat.le_of_ble_eq_true rfl) ?_
  intro p e s m args below meth c ls ⟨hx, hb, hr, hts, hown, hlocks, hml⟩ hP hG hl
  have hl : lv_has ls 3 [(0, .int q1), (1, .int q2), (2, .int q3)] := hl
  unfold m_X12_within at hm
  refine lv_iload_n (pc := 0) hx hb dX12_within_0 rfl (lv_at hl 0 rfl) ?_
  refine lv_iload_n (pc := 1) hx hb dX12_within_1 rfl (lv_at hl 1 rfl) ?_
  refine lv_icmp_lt (tgt := 14) (pc := 2) hx hb dX12_within_2 (by decide) (fun hc => ?_) (fun hc => ?_)
  · rw [if_pos hc] at hm
    refine lv_iconst (v := 0) (pc := 14) hx hb dX12_within_14 (by decide) ?_
    rw [← Option.some.inj hm]
    exact W.zret hx hb hr (nar_bool (Or.inl rfl)) (fun t ht _ => ⟨rfl, ht⟩) (fun _ h => by cases h) dX12_within_15 hlocks
  · rw [if_neg hc] at hm
    refine lv_iload_n (pc := 5) hx hb dX12_within_5 rfl (lv_at hl 0 rfl) ?_
    refine lv_iload_n (pc := 6) hx hb dX12_within_6 rfl (lv_at hl 2 rfl) ?_
    refine lv_icmp_gt (tgt := 14) (pc := 7) hx hb dX12_within_7 (by decide) (fun hc => ?_) (fun hc => ?_)
    · rw [if_pos hc] at hm
      refine lv_iconst (v := 0) (pc := 14) hx hb dX12_within_14 (by decide) ?_
      rw [← Option.some.inj hm]
      exact W.zret hx hb hr (nar_bool (Or.inl rfl)) (fun t ht _ => ⟨rfl, ht⟩) (fun _ h => by cases h) dX12_within_15 hlocks
    · rw [if_neg hc] at hm
      refine lv_iconst (v := 1) (pc := 10) hx hb dX12_within_10 (by decide) ?_
      refine lv_goto (tgt := 15) (pc := 11) hx hb dX12_within_11 (by decide) ?_
      rw [← Option.some.inj hm]
      exact W.zret hx hb hr (nar_bool (Or.inr rfl)) (fun t ht _ => ⟨rfl, ht⟩) (fun _ h => by cases h) dX12_within_15 hlocks
theorem dX12_takeNumber_0 : decode cX12_takeNumber 0 = .ok (.aload_n 0, 1) := by decide +kernel
theorem dX12_takeNumber_1 : decode cX12_takeNumber 1 = .ok (.getfield 159, 3) := by decide +kernel
theorem dX12_takeNumber_4 : decode cX12_takeNumber 4 = .ok (.ifCond .ne 24, 3) := by decide +kernel
theorem dX12_takeNumber_7 : decode cX12_takeNumber 7 = .ok (.aload_n 0, 1) := by decide +kernel
theorem dX12_takeNumber_8 : decode cX12_takeNumber 8 = .ok (.getfield 24, 3) := by decide +kernel
theorem dX12_takeNumber_11 : decode cX12_takeNumber 11 = .ok (.aload_n 0, 1) := by decide +kernel
theorem dX12_takeNumber_12 : decode cX12_takeNumber 12 = .ok (.getfield 156, 3) := by decide +kernel
theorem dX12_takeNumber_15 : decode cX12_takeNumber 15 = .ok (.iaload, 1) := by decide +kernel
theorem dX12_takeNumber_16 : decode cX12_takeNumber 16 = .ok (.iconst 2, 1) := by decide +kernel
theorem dX12_takeNumber_17 : decode cX12_takeNumber 17 = .ok (.if_icmp .eq 11, 3) := by decide +kernel
theorem dX12_takeNumber_20 : decode cX12_takeNumber 20 = .ok (.aload_n 0, 1) := by decide +kernel
theorem dX12_takeNumber_21 : decode cX12_takeNumber 21 = .ok (.iconst 1, 1) := by decide +kernel
theorem dX12_takeNumber_22 : decode cX12_takeNumber 22 = .ok (.invokevirtual 165, 3) := by decide +kernel
theorem dX12_takeNumber_25 : decode cX12_takeNumber 25 = .ok (.goto 45, 3) := by decide +kernel
theorem dX12_takeNumber_28 : decode cX12_takeNumber 28 = .ok (.aload_n 0, 1) := by decide +kernel
theorem dX12_takeNumber_29 : decode cX12_takeNumber 29 = .ok (.getfield 159, 3) := by decide +kernel
theorem dX12_takeNumber_32 : decode cX12_takeNumber 32 = .ok (.ifCond .ne 38, 3) := by decide +kernel
theorem dX12_takeNumber_35 : decode cX12_takeNumber 35 = .ok (.aload_n 0, 1) := by decide +kernel
theorem dX12_takeNumber_36 : decode cX12_takeNumber 36 = .ok (.getfield 30, 3) := by decide +kernel
theorem dX12_takeNumber_39 : decode cX12_takeNumber 39 = .ok (.aload_n 0, 1) := by decide +kernel
theorem dX12_takeNumber_40 : decode cX12_takeNumber 40 = .ok (.getfield 156, 3) := by decide +kernel
theorem dX12_takeNumber_43 : decode cX12_takeNumber 43 = .ok (.laload, 1) := by decide +kernel
theorem dX12_takeNumber_44 : decode cX12_takeNumber 44 = .ok (.iload_n 1, 1) := by decide +kernel
theorem dX12_takeNumber_45 : decode cX12_takeNumber 45 = .ok (.i2l, 1) := by decide +kernel
theorem dX12_takeNumber_46 : decode cX12_takeNumber 46 = .ok (.lcmp, 1) := by decide +kernel
theorem dX12_takeNumber_47 : decode cX12_takeNumber 47 = .ok (.ifCond .lt 18, 3) := by decide +kernel
theorem dX12_takeNumber_50 : decode cX12_takeNumber 50 = .ok (.aload_n 0, 1) := by decide +kernel
theorem dX12_takeNumber_51 : decode cX12_takeNumber 51 = .ok (.getfield 30, 3) := by decide +kernel
theorem dX12_takeNumber_54 : decode cX12_takeNumber 54 = .ok (.aload_n 0, 1) := by decide +kernel
theorem dX12_takeNumber_55 : decode cX12_takeNumber 55 = .ok (.getfield 156, 3) := by decide +kernel
theorem dX12_takeNumber_58 : decode cX12_takeNumber 58 = .ok (.laload, 1) := by decide +kernel
theorem dX12_takeNumber_59 : decode cX12_takeNumber 59 = .ok (.iload_n 2, 1) := by decide +kernel
theorem dX12_takeNumber_60 : decode cX12_takeNumber 60 = .ok (.i2l, 1) := by decide +kernel
theorem dX12_takeNumber_61 : decode cX12_takeNumber 61 = .ok (.lcmp, 1) := by decide +kernel
theorem dX12_takeNumber_62 : decode cX12_takeNumber 62 = .ok (.ifCond .le 8, 3) := by decide +kernel
theorem dX12_takeNumber_65 : decode cX12_takeNumber 65 = .ok (.aload_n 0, 1) := by decide +kernel
theorem dX12_takeNumber_66 : decode cX12_takeNumber 66 = .ok (.iconst 4, 1) := by decide +kernel
theorem dX12_takeNumber_67 : decode cX12_takeNumber 67 = .ok (.invokevirtual 165, 3) := by decide +kernel
theorem dX12_takeNumber_70 : decode cX12_takeNumber 70 = .ok (.aload_n 0, 1) := by decide +kernel
theorem dX12_takeNumber_71 : decode cX12_takeNumber 71 = .ok (.getfield 159, 3) := by decide +kernel
theorem dX12_takeNumber_74 : decode cX12_takeNumber 74 = .ok (.ifCond .le 5, 3) := by decide +kernel
theorem dX12_takeNumber_77 : decode cX12_takeNumber 77 = .ok (.iconst 0, 1) := by decide +kernel
theorem dX12_takeNumber_78 : decode cX12_takeNumber 78 = .ok (.ireturn, 1) := by decide +kernel
theorem dX12_takeNumber_79 : decode cX12_takeNumber 79 = .ok (.aload_n 0, 1) := by decide +kernel
theorem dX12_takeNumber_80 : decode cX12_takeNumber 80 = .ok (.dup, 1) := by decide +kernel
theorem dX12_takeNumber_81 : decode cX12_takeNumber 81 = .ok (.getfield 156, 3) := by decide +kernel
theorem dX12_takeNumber_84 : decode cX12_takeNumber 84 = .ok (.iconst 1, 1) := by decide +kernel
theorem dX12_takeNumber_85 : decode cX12_takeNumber 85 = .ok (.iadd, 1) := by decide +kernel
theorem dX12_takeNumber_86 : decode cX12_takeNumber 86 = .ok (.putfield 156, 3) := by decide +kernel
theorem dX12_takeNumber_89 : decode cX12_takeNumber 89 = .ok (.aload_n 0, 1) := by decide +kernel
theorem dX12_takeNumber_90 : decode cX12_takeNumber 90 = .ok (.getfield 30, 3) := by decide +kernel
theorem dX12_takeNumber_93 : decode cX12_takeNumber 93 = .ok (.aload_n 0, 1) := by decide +kernel
theorem dX12_takeNumber_94 : decode cX12_takeNumber 94 = .ok (.getfield 156, 3) := by decide +kernel
theorem dX12_takeNumber_97 : decode cX12_takeNumber 97 = .ok (.iconst 1, 1) := by decide +kernel
theorem dX12_takeNumber_98 : decode cX12_takeNumber 98 = .ok (.isub, 1) := by decide +kernel
theorem dX12_takeNumber_99 : decode cX12_takeNumber 99 = .ok (.laload, 1) := by decide +kernel
theorem dX12_takeNumber_100 : decode cX12_takeNumber 100 = .ok (.l2i, 1) := by decide +kernel
theorem dX12_takeNumber_101 : decode cX12_takeNumber 101 = .ok (.ireturn, 1) := by decide +kernel
abbrev wd_X12_takeNumber (k : Nat → ClassId) (this : Nat) (this_thrown : Int32) (this_tape : Nat) (this_taped : Int32) (this_size : Int32) (this_sort : Nat) (this_sort_f : Nat → Int32) (this_place : Nat) (this_place_f : Nat → Int32) (this_value : Nat) (this_value_f : Nat → Int64) (this_at : Int32) (this_fault : Int32) (this_words : Nat) (this_towns : Nat) (this_op : Nat) (this_arg : Nat) (this_codes : Int32) (this_names : Nat) (this_readNames : Nat) (this_namesMany : Int32) (this_readMany : Int32) (this_once : Int32) (this_lines : Nat) (this_facts : Nat) (this_pile : Nat) (this_state : Nat) (this_undos : Int32) (this_isMarked : Nat) (this_weight : Int32) (this_rounding : Int32) (this_lacks : Nat) (this_alikes : Nat) (this_g : Int64) : va_W := [(this, .inr (10, [.int this_thrown, .ref this_tape, .int this_taped, .int this_size, .ref this_sort, .ref this_place, .ref this_value, .int this_at, .int this_fault, .ref this_words, .ref this_towns, .ref this_op, .ref this_arg, .int this_codes, .ref this_names, .ref this_readNames, .int this_namesMany, .int this_readMany, .int this_once, .ref this_lines, .ref this_facts, .ref this_pile, .ref this_state, .int this_undos, .ref this_isMarked, .int this_weight, .int this_rounding, .ref this_lacks, .ref this_alikes, .long this_g])), (this_sort, .inl (k 0, 1002, .inl this_sort_f)), (this_place, .inl (k 0, 1002, .inl this_place_f)), (this_value, .inl (k 1, 1002, .inr (.inl this_value_f)))]
set_option maxHeartbeats 4000000 in
set_option maxRecDepth 100000 in
theorem c_X12_takeNumber (l : Launch) (D : va_G) (k : Nat → ClassId) (this : Nat) (this_thrown : Int32) (this_tape : Nat) (this_taped : Int32) (this_size : Int32) (this_sort : Nat) (this_sort_f : Nat → Int32) (this_place : Nat) (this_place_f : Nat → Int32) (this_value : Nat) (this_value_f : Nat → Int64) (this_at : Int32) (this_fault : Int32) (this_words : Nat) (this_towns : Nat) (this_op : Nat) (this_arg : Nat) (this_codes : Int32) (this_names : Nat) (this_readNames : Nat) (this_namesMany : Int32) (this_readMany : Int32) (this_once : Int32) (this_lines : Nat) (this_facts : Nat) (this_pile : Nat) (this_state : Nat) (this_undos : Int32) (this_isMarked : Nat) (this_weight : Int32) (this_rounding : Int32) (this_lacks : Nat) (this_alikes : Nat) (this_g : Int64) (q1 : Int32) (q2 : Int32) (R0 : Int32 × Int32 × Int32) (hm : m_X12_takeNumber this_sort_f this_place_f this_value_f this_at this_fault q1 q2 = some R0) : CW l D (TY k) yX12_takeNumber cX12_takeNumber 3 (some .int) 1 21 [.ref this, .int q1, .int q2] (wd_X12_takeNumber k this this_thrown this_tape this_taped this_size this_sort this_sort_f this_place this_place_f this_value this_value_f this_at this_fault this_words this_towns this_op this_arg this_codes this_names this_readNames this_namesMany this_readMany this_once this_lines this_facts this_pile this_state this_undos this_isMarked this_weight this_rounding this_lacks this_alikes this_g) (some (.int R0.1)) (wd_X12_takeNumber k this this_thrown this_tape this_taped this_size this_sort this_sort_f this_place this_place_f this_value this_value_f R0.2.1 R0.2.2 this_words this_towns this_op this_arg this_codes this_names this_readNames this_namesMany this_readMany this_once this_lines this_facts this_pile this_state this_undos this_isMarked this_weight this_rounding this_lacks this_alikes this_g) := by
  refine CW.mk (by decide) (Nat.le_of_ble_eq_true rfl) ?_
  intro p e s m args below meth c ls A ⟨hx, hb, hr, hts, hown, hlocks, hml⟩ hP hG hD hA hl hS hq
  have hl : lv_has ls 3 [(0, .ref this), (1, .int q1), (2, .int q2)] := hl
  have h_70 : ∀ (u_this_at : Int32) (u_this_fault : Int32) (H : Heap) (locs : List Loc) (ls : Array Slot), va_P D vwCl (wd_X12_takeNumber k this this_thrown this_tape this_taped this_size this_sort this_sort_f this_place this_place_f this_value this_value_f u_this_at u_this_fault this_words this_towns this_op this_arg this_codes this_names this_readNames this_namesMany this_readMany this_once this_lines this_facts this_pile this_state this_undos this_isMarked this_weight this_rounding this_lacks this_alikes this_g) H → va_D A (wd_X12_takeNumber k this this_thrown this_tape this_taped this_size this_sort this_sort_f this_place this_place_f this_value this_value_f u_this_at u_this_fault this_words this_towns this_op this_arg this_codes this_names this_readNames this_namesMany this_readMany this_once this_lines this_facts this_pile this_state this_undos this_isMarked this_weight this_rounding this_lacks this_alikes this_g) → va_S A s.heap H locs → lv_has ls 3 [(0, .ref this)] → m_X12_takeNumber_70 this_sort_f this_place_f this_value_f q1 q2 u_this_at u_this_fault = some R0 → W p l e (Rm 1 21) s m args below meth c H locs 0 0 (MQ below (QW D (some (.int R0.1)) (wd_X12_takeNumber k this this_thrown this_tape this_taped this_size this_sort this_sort_f this_place this_place_f this_value this_value_f this_at this_fault this_words this_towns this_op this_arg this_codes this_names this_readNames this_namesMany this_readMany this_once this_lines this_facts this_pile this_state this_undos this_isMarked this_weight this_rounding this_lacks this_alikes this_g) (wd_X12_takeNumber k this this_thrown this_tape this_taped this_size this_sort this_sort_f this_place this_place_f this_value this_value_f R0.2.1 R0.2.2 this_words this_towns this_op this_arg this_codes this_names this_readNames this_namesMany this_readMany this_once this_lines this_facts this_pile this_state this_undos this_isMarked this_weight this_rounding this_lacks this_alikes this_g) s.heap.size) args s 0 0 A) (F0 m 70 ls []) := by
    intro  u_this_at u_this_fault H locs ls hP hD hS hl hm
    unfold m_X12_takeNumber_70 at hm
    refine lv_aload_n (pc := 70) hx hb dX12_takeNumber_70 rfl (lv_at hl 0 rfl) ?_
    refine va_get (pc := 71) (D := D) (ci := 10) (C := RX12) (T := TX12) (N := 30) hx hb hts hiX12 hown hG.1 hP 0 rfl rfl 8 (Nat.le_of_ble_eq_true rfl) (hts _ kw_1265) (fun _ h9 => h9) rfl dX12_takeNumber_71 ?_
    refine lv_if_le (tgt := 79) (pc := 74) hx hb dX12_takeNumber_74 (by decide) (fun hc => ?_) (fun hc => ?_)
    · rw [if_pos hc] at hm
      refine lv_aload_n (pc := 79) hx hb dX12_takeNumber_79 rfl (lv_at hl 0 rfl) ?_
      refine lv_dup (pc := 80) hx hb dX12_takeNumber_80 rfl ?_
      refine va_get (pc := 81) (D := D) (ci := 10) (C := RX12) (T := TX12) (N := 30) hx hb hts hiX12 hown hG.1 hP 0 rfl rfl 7 (Nat.le_of_ble_eq_true rfl) (hts _ kw_1264) (fun _ h9 => h9) rfl dX12_takeNumber_81 ?_
      refine lv_iconst (v := 1) (pc := 84) hx hb dX12_takeNumber_84 (by decide) ?_
      refine lv_iadd (pc := 85) hx hb dX12_takeNumber_85 ?_
      refine va_put (pc := 86) (D := D) (ci := 10) (v := .int (u_this_at + 1)) (ty := .int) (C := RX12) (T := TX12) (N := 30) hx hb hts hiX12 tyX12 tyX12_ok nmX12 hown hG.1 hP hD hS 0 rfl rfl 7 (Nat.le_of_ble_eq_true rfl) (hts _ kw_1264) (fun _ h9 => h9) rfl (by decide +kernel) rfl rfl (Nat.le_of_ble_eq_true rfl) dX12_takeNumber_86 (fun H locs hP hD hS => ?_)
      have hP : va_P D vwCl (wd_X12_takeNumber k this this_thrown this_tape this_taped this_size this_sort this_sort_f this_place this_place_f this_value this_value_f (u_this_at + 1) u_this_fault this_words this_towns this_op this_arg this_codes this_names this_readNames this_namesMany this_readMany this_once this_lines this_facts this_pile this_state this_undos this_isMarked this_weight this_rounding this_lacks this_alikes this_g) H := hP
      have hD : va_D A (wd_X12_takeNumber k this this_thrown this_tape this_taped this_size this_sort this_sort_f this_place this_place_f this_value this_value_f (u_this_at + 1) u_this_fault this_words this_towns this_op this_arg this_codes this_names this_readNames this_namesMany this_readMany this_once this_lines this_facts this_pile this_state this_undos this_isMarked this_weight this_rounding this_lacks this_alikes this_g) := hD
      refine lv_aload_n (pc := 89) hx hb dX12_takeNumber_89 rfl (lv_at hl 0 rfl) ?_
      refine va_get (pc := 90) (D := D) (ci := 10) (C := RX12) (T := TX12) (N := 30) hx hb hts hiX12 hown hG.1 hP 0 rfl rfl 6 (Nat.le_of_ble_eq_true rfl) (hts _ kw_1263) (fun _ h9 => h9) rfl dX12_takeNumber_90 ?_
      refine lv_aload_n (pc := 93) hx hb dX12_takeNumber_93 rfl (lv_at hl 0 rfl) ?_
      refine va_get (pc := 94) (D := D) (ci := 10) (C := RX12) (T := TX12) (N := 30) hx hb hts hiX12 hown hG.1 hP 0 rfl rfl 7 (Nat.le_of_ble_eq_true rfl) (hts _ kw_1264) (fun _ h9 => h9) rfl dX12_takeNumber_94 ?_
      refine lv_iconst (v := 1) (pc := 97) hx hb dX12_takeNumber_97 (by decide) ?_
      refine lv_isub (pc := 98) hx hb dX12_takeNumber_98 ?_
      obtain ⟨hin, hm⟩ := gd hm
      refine va_lald (pc := 99) (D := D) hx hb hG.1 hP 3 1 rfl rfl hin dX12_takeNumber_99 ?_
      refine lv_l2i (pc := 100) hx hb dX12_takeNumber_100 rfl ?_
      rw [← Option.some.inj hm]
      exact W.iret hx hb hr (fun t ht _ => hq _ _ H t ht hP hD locs hS) hS.2.2 dX12_takeNumber_101 hlocks
    · rw [if_neg hc] at hm
      refine lv_iconst (v := 0) (pc := 77) hx hb dX12_takeNumber_77 (by decide) ?_
      rw [← Option.some.inj hm]
      exact W.iret hx hb hr (fun t ht _ => hq _ _ H t ht hP hD locs hS) hS.2.2 dX12_takeNumber_78 hlocks
  have h_65 : ∀ (u_this_at : Int32) (u_this_fault : Int32) (H : Heap) (locs : List Loc) (ls : Array Slot), va_P D vwCl (wd_X12_takeNumber k this this_thrown this_tape this_taped this_size this_sort this_sort_f this_place this_place_f this_value this_value_f u_this_at u_this_fault this_words this_towns this_op this_arg this_codes this_names this_readNames this_namesMany this_readMany this_once this_lines this_facts this_pile this_state this_undos this_isMarked this_weight this_rounding this_lacks this_alikes this_g) H → va_D A (wd_X12_takeNumber k this this_thrown this_tape this_taped this_size this_sort this_sort_f this_place this_place_f this_value this_value_f u_this_at u_this_fault this_words this_towns this_op this_arg this_codes this_names this_readNames this_namesMany this_readMany this_once this_lines this_facts this_pile this_state this_undos this_isMarked this_weight this_rounding this_lacks this_alikes this_g) → va_S A s.heap H locs → lv_has ls 3 [(0, .ref this)] → m_X12_takeNumber_65 this_sort_f this_place_f this_value_f q1 q2 u_this_at u_this_fault = some R0 → W p l e (Rm 1 21) s m args below meth c H locs 0 0 (MQ below (QW D (some (.int R0.1)) (wd_X12_takeNumber k this this_thrown this_tape this_taped this_size this_sort this_sort_f this_place this_place_f this_value this_value_f this_at this_fault this_words this_towns this_op this_arg this_codes this_names this_readNames this_namesMany this_readMany this_once this_lines this_facts this_pile this_state this_undos this_isMarked this_weight this_rounding this_lacks this_alikes this_g) (wd_X12_takeNumber k this this_thrown this_tape this_taped this_size this_sort this_sort_f this_place this_place_f this_value this_value_f R0.2.1 R0.2.2 this_words this_towns this_op this_arg this_codes this_names this_readNames this_namesMany this_readMany this_once this_lines this_facts this_pile this_state this_undos this_isMarked this_weight this_rounding this_lacks this_alikes this_g) s.heap.size) args s 0 0 A) (F0 m 65 ls []) := by
    intro  u_this_at u_this_fault H locs ls hP hD hS hl hm
    unfold m_X12_takeNumber_65 at hm
    refine lv_aload_n (pc := 65) hx hb dX12_takeNumber_65 rfl (lv_at hl 0 rfl) ?_
    refine lv_iconst (v := 4) (pc := 66) hx hb dX12_takeNumber_66 (by decide) ?_
    obtain ⟨r3, hcl, hm⟩ := bd hm
    refine cw_mask (ws' := (wd_X12_takeNumber k this this_thrown this_tape this_taped this_size this_sort this_sort_f this_place this_place_f this_value this_value_f u_this_at r3 this_words this_towns this_op this_arg this_codes this_names this_readNames this_namesMany this_readMany this_once this_lines this_facts this_pile this_state this_undos this_isMarked this_weight this_rounding this_lacks this_alikes this_g)) (run_V (pc := 67) (n := 1) (As := [.int 4]) (rest := []) ⟨hx, hb, hml, hown, hts⟩ ((c_X12_wrong l D k this this_thrown this_tape this_taped this_size this_sort this_place this_place_f this_value u_this_at u_this_fault this_words this_towns this_op this_arg this_codes this_names this_readNames this_namesMany this_readMany this_once this_lines this_facts this_pile this_state this_undos this_isMarked this_weight this_rounding this_lacks this_alikes this_g 4 r3 hcl) H.size) ⟨kw_1387, kw_16, by decide +kernel⟩ kw_1384 kw_1386 ks_103 ⟨Nat.le_of_ble_eq_true rfl, Nat.le_of_ble_eq_true rfl⟩ pw_blind (prW (P_pick [true, false, true] rfl hP) hG (D_pick [true, false, true] rfl hD)) (va_recv hG.1 hP (ci := 10) (q0 := 0) rfl rfl) rfl hl.1 rfl (Nat.le_of_ble_eq_true rfl) dX12_takeNumber_67 ⟨Nat.zero_le _, Nat.zero_le _⟩) hP hD hS hA [true, false, true] rfl rfl rfl (fun H locs hP hD hS => ?_)
    exact h_70 u_this_at r3 H locs ls hP hD hS (lv_sub hl [0] rfl) hm
  have h_28 : ∀ (u_this_at : Int32) (u_this_fault : Int32) (H : Heap) (locs : List Loc) (ls : Array Slot), va_P D vwCl (wd_X12_takeNumber k this this_thrown this_tape this_taped this_size this_sort this_sort_f this_place this_place_f this_value this_value_f u_this_at u_this_fault this_words this_towns this_op this_arg this_codes this_names this_readNames this_namesMany this_readMany this_once this_lines this_facts this_pile this_state this_undos this_isMarked this_weight this_rounding this_lacks this_alikes this_g) H → va_D A (wd_X12_takeNumber k this this_thrown this_tape this_taped this_size this_sort this_sort_f this_place this_place_f this_value this_value_f u_this_at u_this_fault this_words this_towns this_op this_arg this_codes this_names this_readNames this_namesMany this_readMany this_once this_lines this_facts this_pile this_state this_undos this_isMarked this_weight this_rounding this_lacks this_alikes this_g) → va_S A s.heap H locs → lv_has ls 3 [(0, .ref this), (1, .int q1), (2, .int q2)] → m_X12_takeNumber_28 this_sort_f this_place_f this_value_f q1 q2 u_this_at u_this_fault = some R0 → W p l e (Rm 1 21) s m args below meth c H locs 0 0 (MQ below (QW D (some (.int R0.1)) (wd_X12_takeNumber k this this_thrown this_tape this_taped this_size this_sort this_sort_f this_place this_place_f this_value this_value_f this_at this_fault this_words this_towns this_op this_arg this_codes this_names this_readNames this_namesMany this_readMany this_once this_lines this_facts this_pile this_state this_undos this_isMarked this_weight this_rounding this_lacks this_alikes this_g) (wd_X12_takeNumber k this this_thrown this_tape this_taped this_size this_sort this_sort_f this_place this_place_f this_value this_value_f R0.2.1 R0.2.2 this_words this_towns this_op this_arg this_codes this_names this_readNames this_namesMany this_readMany this_once this_lines this_facts this_pile this_state this_undos this_isMarked this_weight this_rounding this_lacks this_alikes this_g) s.heap.size) args s 0 0 A) (F0 m 28 ls []) := by
    intro  u_this_at u_this_fault H locs ls hP hD hS hl hm
    unfold m_X12_takeNumber_28 at hm
    refine lv_aload_n (pc := 28) hx hb dX12_takeNumber_28 rfl (lv_at hl 0 rfl) ?_
    refine va_get (pc := 29) (D := D) (ci := 10) (C := RX12) (T := TX12) (N := 30) hx hb hts hiX12 hown hG.1 hP 0 rfl rfl 8 (Nat.le_of_ble_eq_true rfl) (hts _ kw_1265) (fun _ h9 => h9) rfl dX12_takeNumber_29 ?_
    refine lv_if_ne (tgt := 70) (pc := 32) hx hb dX12_takeNumber_32 (by decide) (fun hc => ?_) (fun hc => ?_)
    · rw [if_neg hc] at hm
      exact h_70 u_this_at u_this_fault H locs ls hP hD hS (lv_sub hl [0] rfl) hm
    · rw [if_pos hc] at hm
      refine lv_aload_n (pc := 35) hx hb dX12_takeNumber_35 rfl (lv_at hl 0 rfl) ?_
      refine va_get (pc := 36) (D := D) (ci := 10) (C := RX12) (T := TX12) (N := 30) hx hb hts hiX12 hown hG.1 hP 0 rfl rfl 6 (Nat.le_of_ble_eq_true rfl) (hts _ kw_1263) (fun _ h9 => h9) rfl dX12_takeNumber_36 ?_
      refine lv_aload_n (pc := 39) hx hb dX12_takeNumber_39 rfl (lv_at hl 0 rfl) ?_
      refine va_get (pc := 40) (D := D) (ci := 10) (C := RX12) (T := TX12) (N := 30) hx hb hts hiX12 hown hG.1 hP 0 rfl rfl 7 (Nat.le_of_ble_eq_true rfl) (hts _ kw_1264) (fun _ h9 => h9) rfl dX12_takeNumber_40 ?_
      obtain ⟨hin, hm⟩ := gd hm
      refine va_lald (pc := 43) (D := D) hx hb hG.1 hP 3 1 rfl rfl hin dX12_takeNumber_43 ?_
      refine lv_iload_n (pc := 44) hx hb dX12_takeNumber_44 rfl (lv_at hl 1 rfl) ?_
      refine lv_i2l (pc := 45) hx hb dX12_takeNumber_45 rfl ?_
      refine W.lcmp (pc := 46) hx hb dX12_takeNumber_46 ?_
      refine lv_if_lt (tgt := 65) (pc := 47) hx hb dX12_takeNumber_47 (by decide) (fun hc => ?_) (fun hc => ?_)
      · rw [if_pos hc] at hm
        exact h_65 u_this_at u_this_fault H locs ls hP hD hS (lv_sub hl [0] rfl) hm
      · rw [if_neg hc] at hm
        refine lv_aload_n (pc := 50) hx hb dX12_takeNumber_50 rfl (lv_at hl 0 rfl) ?_
        refine va_get (pc := 51) (D := D) (ci := 10) (C := RX12) (T := TX12) (N := 30) hx hb hts hiX12 hown hG.1 hP 0 rfl rfl 6 (Nat.le_of_ble_eq_true rfl) (hts _ kw_1263) (fun _ h9 => h9) rfl dX12_takeNumber_51 ?_
        refine lv_aload_n (pc := 54) hx hb dX12_takeNumber_54 rfl (lv_at hl 0 rfl) ?_
        refine va_get (pc := 55) (D := D) (ci := 10) (C := RX12) (T := TX12) (N := 30) hx hb hts hiX12 hown hG.1 hP 0 rfl rfl 7 (Nat.le_of_ble_eq_true rfl) (hts _ kw_1264) (fun _ h9 => h9) rfl dX12_takeNumber_55 ?_
        obtain ⟨hin, hm⟩ := gd hm
        refine va_lald (pc := 58) (D := D) hx hb hG.1 hP 3 1 rfl rfl hin dX12_takeNumber_58 ?_
        refine lv_iload_n (pc := 59) hx hb dX12_takeNumber_59 rfl (lv_at hl 2 rfl) ?_
        refine lv_i2l (pc := 60) hx hb dX12_takeNumber_60 rfl ?_
        refine W.lcmp (pc := 61) hx hb dX12_takeNumber_61 ?_
        refine lv_if_le (tgt := 70) (pc := 62) hx hb dX12_takeNumber_62 (by decide) (fun hc => ?_) (fun hc => ?_)
        · rw [if_pos hc] at hm
          exact h_70 u_this_at u_this_fault H locs ls hP hD hS (lv_sub hl [0] rfl) hm
        · rw [if_neg hc] at hm
          exact h_65 u_this_at u_this_fault H locs ls hP hD hS (lv_sub hl [0] rfl) hm
  unfold m_X12_takeNumber at hm
  suffices hgo : ∀ (H : Heap) (locs : List Loc), va_P D vwCl (wd_X12_takeNumber k this this_thrown this_tape this_taped this_size this_sort this_sort_f this_place this_place_f this_value this_value_f this_at this_fault this_words this_towns this_op this_arg this_codes this_names this_readNames this_namesMany this_readMany this_once this_lines this_facts this_pile this_state this_undos this_isMarked this_weight this_rounding this_lacks this_alikes this_g) H → va_D A (wd_X12_takeNumber k this this_thrown this_tape this_taped this_size this_sort this_sort_f this_place this_place_f this_value this_value_f this_at this_fault this_words this_towns this_op this_arg this_codes this_names this_readNames this_namesMany this_readMany this_once this_lines this_facts this_pile this_state this_undos this_isMarked this_weight this_rounding this_lacks this_alikes this_g) → va_S A s.heap H locs → W p l e (Rm 1 21) s m args below meth c H locs 0 0 (MQ below (QW D (some (.int R0.1)) (wd_X12_takeNumber k this this_thrown this_tape this_taped this_size this_sort this_sort_f this_place this_place_f this_value this_value_f this_at this_fault this_words this_towns this_op this_arg this_codes this_names this_readNames this_namesMany this_readMany this_once this_lines this_facts this_pile this_state this_undos this_isMarked this_weight this_rounding this_lacks this_alikes this_g) (wd_X12_takeNumber k this this_thrown this_tape this_taped this_size this_sort this_sort_f this_place this_place_f this_value this_value_f R0.2.1 R0.2.2 this_words this_towns this_op this_arg this_codes this_names this_readNames this_namesMany this_readMany this_once this_lines this_facts this_pile this_state this_undos this_isMarked this_weight this_rounding this_lacks this_alikes this_g) s.heap.size) args s 0 0 A) (F0 m 0 ls []) from hgo _ _ hP hD hS
  clear hP hD hS
  intro H locs hP hD hS
  refine lv_aload_n (pc := 0) hx hb dX12_takeNumber_0 rfl (lv_at hl 0 rfl) ?_
  refine va_get (pc := 1) (D := D) (ci := 10) (C := RX12) (T := TX12) (N := 30) hx hb hts hiX12 hown hG.1 hP 0 rfl rfl 8 (Nat.le_of_ble_eq_true rfl) (hts _ kw_1265) (fun _ h9 => h9) rfl dX12_takeNumber_1 ?_
  refine lv_if_ne (tgt := 28) (pc := 4) hx hb dX12_takeNumber_4 (by decide) (fun hc => ?_) (fun hc => ?_)
  · rw [if_neg hc] at hm
    exact h_28 this_at this_fault H locs ls hP hD hS (lv_sub hl [0, 1, 2] rfl) hm
  · rw [if_pos hc] at hm
    refine lv_aload_n (pc := 7) hx hb dX12_takeNumber_7 rfl (lv_at hl 0 rfl) ?_
    refine va_get (pc := 8) (D := D) (ci := 10) (C := RX12) (T := TX12) (N := 30) hx hb hts hiX12 hown hG.1 hP 0 rfl rfl 4 (Nat.le_of_ble_eq_true rfl) (hts _ kw_1261) (fun _ h9 => h9) rfl dX12_takeNumber_8 ?_
    refine lv_aload_n (pc := 11) hx hb dX12_takeNumber_11 rfl (lv_at hl 0 rfl) ?_
    refine va_get (pc := 12) (D := D) (ci := 10) (C := RX12) (T := TX12) (N := 30) hx hb hts hiX12 hown hG.1 hP 0 rfl rfl 7 (Nat.le_of_ble_eq_true rfl) (hts _ kw_1264) (fun _ h9 => h9) rfl dX12_takeNumber_12 ?_
    obtain ⟨hin, hm⟩ := gd hm
    refine va_iald (pc := 15) (D := D) hx hb hG.1 hP 1 0 rfl rfl hin dX12_takeNumber_15 ?_
    refine lv_iconst (v := 2) (pc := 16) hx hb dX12_takeNumber_16 (by decide) ?_
    refine lv_icmp_eq (tgt := 28) (pc := 17) hx hb dX12_takeNumber_17 (by decide) (fun hc => ?_) (fun hc => ?_)
    · rw [if_pos hc] at hm
      exact h_28 this_at this_fault H locs ls hP hD hS (lv_sub hl [0, 1, 2] rfl) hm
    · rw [if_neg hc] at hm
      refine lv_aload_n (pc := 20) hx hb dX12_takeNumber_20 rfl (lv_at hl 0 rfl) ?_
      refine lv_iconst (v := 1) (pc := 21) hx hb dX12_takeNumber_21 (by decide) ?_
      obtain ⟨r4, hcl, hm⟩ := bd hm
      refine cw_mask (ws' := (wd_X12_takeNumber k this this_thrown this_tape this_taped this_size this_sort this_sort_f this_place this_place_f this_value this_value_f this_at r4 this_words this_towns this_op this_arg this_codes this_names this_readNames this_namesMany this_readMany this_once this_lines this_facts this_pile this_state this_undos this_isMarked this_weight this_rounding this_lacks this_alikes this_g)) (run_V (pc := 22) (n := 1) (As := [.int 1]) (rest := []) ⟨hx, hb, hml, hown, hts⟩ ((c_X12_wrong l D k this this_thrown this_tape this_taped this_size this_sort this_place this_place_f this_value this_at this_fault this_words this_towns this_op this_arg this_codes this_names this_readNames this_namesMany this_readMany this_once this_lines this_facts this_pile this_state this_undos this_isMarked this_weight this_rounding this_lacks this_alikes this_g 1 r4 hcl) H.size) ⟨kw_1387, kw_16, by decide +kernel⟩ kw_1384 kw_1386 ks_103 ⟨Nat.le_of_ble_eq_true rfl, Nat.le_of_ble_eq_true rfl⟩ pw_blind (prW (P_pick [true, false, true] rfl hP) hG (D_pick [true, false, true] rfl hD)) (va_recv hG.1 hP (ci := 10) (q0 := 0) rfl rfl) rfl hl.1 rfl (Nat.le_of_ble_eq_true rfl) dX12_takeNumber_22 ⟨Nat.zero_le _, Nat.zero_le _⟩) hP hD hS hA [true, false, true] rfl rfl rfl (fun H locs hP hD hS => ?_)
      refine lv_goto (tgt := 70) (pc := 25) hx hb dX12_takeNumber_25 (by decide) ?_
      exact h_70 this_at r4 H locs ls hP hD hS (lv_sub hl [0] rfl) hm
theorem dX12_takeAfter_0 : decode cX12_takeAfter 0 = .ok (.aload_n 0, 1) := by decide +kernel
theorem dX12_takeAfter_1 : decode cX12_takeAfter 1 = .ok (.iload_n 1, 1) := by decide +kernel
theorem dX12_takeAfter_2 : decode cX12_takeAfter 2 = .ok (.invokevirtual 174, 3) := by decide +kernel
theorem dX12_takeAfter_5 : decode cX12_takeAfter 5 = .ok (.aload_n 0, 1) := by decide +kernel
theorem dX12_takeAfter_6 : decode cX12_takeAfter 6 = .ok (.iload_n 2, 1) := by decide +kernel
theorem dX12_takeAfter_7 : decode cX12_takeAfter 7 = .ok (.iload_n 3, 1) := by decide +kernel
theorem dX12_takeAfter_8 : decode cX12_takeAfter 8 = .ok (.invokevirtual 177, 3) := by decide +kernel
theorem dX12_takeAfter_11 : decode cX12_takeAfter 11 = .ok (.ireturn, 1) := by decide +kernel
abbrev wd_X12_takeAfter (k : Nat → ClassId) (this : Nat) (this_thrown : Int32) (this_tape : Nat) (this_taped : Int32) (this_size : Int32) (this_sort : Nat) (this_sort_f : Nat → Int32) (this_place : Nat) (this_place_f : Nat → Int32) (this_value : Nat) (this_value_f : Nat → Int64) (this_at : Int32) (this_fault : Int32) (this_words : Nat) (this_words_f : Nat → Int64) (this_towns : Nat) (this_op : Nat) (this_arg : Nat) (this_codes : Int32) (this_names : Nat) (this_readNames : Nat) (this_namesMany : Int32) (this_readMany : Int32) (this_once : Int32) (this_lines : Nat) (this_facts : Nat) (this_pile : Nat) (this_state : Nat) (this_undos : Int32) (this_isMarked : Nat) (this_weight : Int32) (this_rounding : Int32) (this_lacks : Nat) (this_alikes : Nat) (this_g : Int64) : va_W := [(this, .inr (10, [.int this_thrown, .ref this_tape, .int this_taped, .int this_size, .ref this_sort, .ref this_place, .ref this_value, .int this_at, .int this_fault, .ref this_words, .ref this_towns, .ref this_op, .ref this_arg, .int this_codes, .ref this_names, .ref this_readNames, .int this_namesMany, .int this_readMany, .int this_once, .ref this_lines, .ref this_facts, .ref this_pile, .ref this_state, .int this_undos, .ref this_isMarked, .int this_weight, .int this_rounding, .ref this_lacks, .ref this_alikes, .long this_g])), (this_sort, .inl (k 0, 1002, .inl this_sort_f)), (this_place, .inl (k 0, 1002, .inl this_place_f)), (this_value, .inl (k 1, 1002, .inr (.inl this_value_f))), (this_words, .inl (k 1, 26, .inr (.inl this_words_f)))]
set_option maxHeartbeats 4000000 in
set_option maxRecDepth 100000 in
theorem c_X12_takeAfter (l : Launch) (D : va_G) (k : Nat → ClassId) (this : Nat) (this_thrown : Int32) (this_tape : Nat) (this_taped : Int32) (this_size : Int32) (this_sort : Nat) (this_sort_f : Nat → Int32) (this_place : Nat) (this_place_f : Nat → Int32) (this_value : Nat) (this_value_f : Nat → Int64) (this_at : Int32) (this_fault : Int32) (this_words : Nat) (this_words_f : Nat → Int64) (this_towns : Nat) (this_op : Nat) (this_arg : Nat) (this_codes : Int32) (this_names : Nat) (this_readNames : Nat) (this_namesMany : Int32) (this_readMany : Int32) (this_once : Int32) (this_lines : Nat) (this_facts : Nat) (this_pile : Nat) (this_state : Nat) (this_undos : Int32) (this_isMarked : Nat) (this_weight : Int32) (this_rounding : Int32) (this_lacks : Nat) (this_alikes : Nat) (this_g : Int64) (q1 : Int32) (q2 : Int32) (q3 : Int32) (R0 : Int32 × Int32 × Int32) (hm : m_X12_takeAfter this_sort_f this_place_f this_value_f this_at this_fault this_words_f q1 q2 q3 = some R0) : CW l D (TY k) yX12_takeAfter cX12_takeAfter 4 (some .int) 3 64 [.ref this, .int q1, .int q2, .int q3] (wd_X12_takeAfter k this this_thrown this_tape this_taped this_size this_sort this_sort_f this_place this_place_f this_value this_value_f this_at this_fault this_words this_words_f this_towns this_op this_arg this_codes this_names this_readNames this_namesMany this_readMany this_once this_lines this_facts this_pile this_state this_undos this_isMarked this_weight this_rounding this_lacks this_alikes this_g) (some (.int R0.1)) (wd_X12_takeAfter k this this_thrown this_tape this_taped this_size this_sort this_sort_f this_place this_place_f this_value this_value_f R0.2.1 R0.2.2 this_words this_words_f this_towns this_op this_arg this_codes this_names this_readNames this_namesMany this_readMany this_once this_lines this_facts this_pile this_state this_undos this_isMarked this_weight this_rounding this_lacks this_alikes this_g) := by
  refine CW.mk (by decide) (Nat.le_of_ble_eq_true rfl) ?_
  intro p e s m args below meth c ls A ⟨hx, hb, hr, hts, hown, hlocks, hml⟩ hP hG hD hA hl hS hq
  have hl : lv_has ls 4 [(0, .ref this), (1, .int q1), (2, .int q2), (3, .int q3)] := hl
  unfold m_X12_takeAfter at hm
  suffices hgo : ∀ (H : Heap) (locs : List Loc), va_P D vwCl (wd_X12_takeAfter k this this_thrown this_tape this_taped this_size this_sort this_sort_f this_place this_place_f this_value this_value_f this_at this_fault this_words this_words_f this_towns this_op this_arg this_codes this_names this_readNames this_namesMany this_readMany this_once this_lines this_facts this_pile this_state this_undos this_isMarked this_weight this_rounding this_lacks this_alikes this_g) H → va_D A (wd_X12_takeAfter k this this_thrown this_tape this_taped this_size this_sort this_sort_f this_place this_place_f this_value this_value_f this_at this_fault this_words this_words_f this_towns this_op this_arg this_codes this_names this_readNames this_namesMany this_readMany this_once this_lines this_facts this_pile this_state this_undos this_isMarked this_weight this_rounding this_lacks this_alikes this_g) → va_S A s.heap H locs → W p l e (Rm 3 64) s m args below meth c H locs 0 0 (MQ below (QW D (some (.int R0.1)) (wd_X12_takeAfter k this this_thrown this_tape this_taped this_size this_sort this_sort_f this_place this_place_f this_value this_value_f this_at this_fault this_words this_words_f this_towns this_op this_arg this_codes this_names this_readNames this_namesMany this_readMany this_once this_lines this_facts this_pile this_state this_undos this_isMarked this_weight this_rounding this_lacks this_alikes this_g) (wd_X12_takeAfter k this this_thrown this_tape this_taped this_size this_sort this_sort_f this_place this_place_f this_value this_value_f R0.2.1 R0.2.2 this_words this_words_f this_towns this_op this_arg this_codes this_names this_readNames this_namesMany this_readMany this_once this_lines this_facts this_pile this_state this_undos this_isMarked this_weight this_rounding this_lacks this_alikes this_g) s.heap.size) args s 0 0 A) (F0 m 0 ls []) from hgo _ _ hP hD hS
  clear hP hD hS
  intro H locs hP hD hS
  refine lv_aload_n (pc := 0) hx hb dX12_takeAfter_0 rfl (lv_at hl 0 rfl) ?_
  refine lv_iload_n (pc := 1) hx hb dX12_takeAfter_1 rfl (lv_at hl 1 rfl) ?_
  obtain ⟨r3, hcl, hm⟩ := bd hm
  refine cw_mask (ws' := (wd_X12_takeAfter k this this_thrown this_tape this_taped this_size this_sort this_sort_f this_place this_place_f this_value this_value_f r3.1 r3.2 this_words this_words_f this_towns this_op this_arg this_codes this_names this_readNames this_namesMany this_readMany this_once this_lines this_facts this_pile this_state this_undos this_isMarked this_weight this_rounding this_lacks this_alikes this_g)) (run_V (pc := 2) (n := 1) (As := [.int q1]) (rest := []) ⟨hx, hb, hml, hown, hts⟩ ((c_X12_takeWord l D k this this_thrown this_tape this_taped this_size this_sort this_sort_f this_place this_place_f this_value this_value_f this_at this_fault this_words this_words_f this_towns this_op this_arg this_codes this_names this_readNames this_namesMany this_readMany this_once this_lines this_facts this_pile this_state this_undos this_isMarked this_weight this_rounding this_lacks this_alikes this_g q1 r3 hcl) H.size) ⟨kw_1411, kw_16, by decide +kernel⟩ kw_1408 kw_1410 ks_109 ⟨Nat.le_of_ble_eq_true rfl, Nat.le_of_ble_eq_true rfl⟩ pw_blind (prW (P_pick [true, true, true, true, true] rfl hP) hG (D_pick [true, true, true, true, true] rfl hD)) (va_recv hG.1 hP (ci := 10) (q0 := 0) rfl rfl) rfl hl.1 rfl (Nat.le_of_ble_eq_true rfl) dX12_takeAfter_2 ⟨Nat.zero_le _, Nat.zero_le _⟩) hP hD hS hA [true, true, true, true, true] rfl rfl rfl (fun H locs hP hD hS => ?_)
  refine lv_aload_n (pc := 5) hx hb dX12_takeAfter_5 rfl (lv_at hl 0 rfl) ?_
  refine lv_iload_n (pc := 6) hx hb dX12_takeAfter_6 rfl (lv_at hl 2 rfl) ?_
  refine lv_iload_n (pc := 7) hx hb dX12_takeAfter_7 rfl (lv_at hl 3 rfl) ?_
  obtain ⟨r4, hcl, hm⟩ := bd hm
  refine cw_mask (ws' := (wd_X12_takeAfter k this this_thrown this_tape this_taped this_size this_sort this_sort_f this_place this_place_f this_value this_value_f r4.2.1 r4.2.2 this_words this_words_f this_towns this_op this_arg this_codes this_names this_readNames this_namesMany this_readMany this_once this_lines this_facts this_pile this_state this_undos this_isMarked this_weight this_rounding this_lacks this_alikes this_g)) (run_V (pc := 8) (n := 2) (As := [.int q2, .int q3]) (rest := []) ⟨hx, hb, hml, hown, hts⟩ ((c_X12_takeNumber l D k this this_thrown this_tape this_taped this_size this_sort this_sort_f this_place this_place_f this_value this_value_f r3.1 r3.2 this_words this_towns this_op this_arg this_codes this_names this_readNames this_namesMany this_readMany this_once this_lines this_facts this_pile this_state this_undos this_isMarked this_weight this_rounding this_lacks this_alikes this_g q2 q3 r4 hcl) H.size) ⟨kw_1419, kw_16, by decide +kernel⟩ kw_1416 kw_1418 ks_111 ⟨Nat.le_of_ble_eq_true rfl, Nat.le_of_ble_eq_true rfl⟩ pw_blind (prW (P_pick [true, true, true, true] rfl hP) hG (D_pick [true, true, true, true] rfl hD)) (va_recv hG.1 hP (ci := 10) (q0 := 0) rfl rfl) rfl hl.1 rfl (Nat.le_of_ble_eq_true rfl) dX12_takeAfter_8 ⟨Nat.zero_le _, Nat.zero_le _⟩) hP hD hS hA [true, true, true, true] rfl rfl rfl (fun H locs hP hD hS => ?_)
  rw [← Option.some.inj hm]
  exact W.iret hx hb hr (fun t ht _ => hq _ _ H t ht hP hD locs hS) hS.2.2 dX12_takeAfter_11 hlocks
theorem dX12_wordHere_0 : decode cX12_wordHere 0 = .ok (.iconst (-1), 1) := by decide +kernel
theorem dX12_wordHere_1 : decode cX12_wordHere 1 = .ok (.istore_n 3, 1) := by decide +kernel
theorem dX12_wordHere_2 : decode cX12_wordHere 2 = .ok (.iconst 0, 1) := by decide +kernel
theorem dX12_wordHere_3 : decode cX12_wordHere 3 = .ok (.istore 4, 2) := by decide +kernel
theorem dX12_wordHere_5 : decode cX12_wordHere 5 = .ok (.iload 4, 2) := by decide +kernel
theorem dX12_wordHere_7 : decode cX12_wordHere 7 = .ok (.iload_n 2, 1) := by decide +kernel
theorem dX12_wordHere_8 : decode cX12_wordHere 8 = .ok (.if_icmp .ge 27, 3) := by decide +kernel
theorem dX12_wordHere_11 : decode cX12_wordHere 11 = .ok (.aload_n 0, 1) := by decide +kernel
theorem dX12_wordHere_12 : decode cX12_wordHere 12 = .ok (.iload_n 1, 1) := by decide +kernel
theorem dX12_wordHere_13 : decode cX12_wordHere 13 = .ok (.iload 4, 2) := by decide +kernel
theorem dX12_wordHere_15 : decode cX12_wordHere 15 = .ok (.iadd, 1) := by decide +kernel
theorem dX12_wordHere_16 : decode cX12_wordHere 16 = .ok (.invokevirtual 168, 3) := by decide +kernel
theorem dX12_wordHere_19 : decode cX12_wordHere 19 = .ok (.ifCond .eq 8, 3) := by decide +kernel
theorem dX12_wordHere_22 : decode cX12_wordHere 22 = .ok (.iload 4, 2) := by decide +kernel
theorem dX12_wordHere_24 : decode cX12_wordHere 24 = .ok (.goto 4, 3) := by decide +kernel
theorem dX12_wordHere_27 : decode cX12_wordHere 27 = .ok (.iload_n 3, 1) := by decide +kernel
theorem dX12_wordHere_28 : decode cX12_wordHere 28 = .ok (.istore_n 3, 1) := by decide +kernel
theorem dX12_wordHere_29 : decode cX12_wordHere 29 = .ok (.iinc 4 1, 3) := by decide +kernel
theorem dX12_wordHere_32 : decode cX12_wordHere 32 = .ok (.goto (-27), 3) := by decide +kernel
theorem dX12_wordHere_35 : decode cX12_wordHere 35 = .ok (.iload_n 3, 1) := by decide +kernel
theorem dX12_wordHere_36 : decode cX12_wordHere 36 = .ok (.ireturn, 1) := by decide +kernel
abbrev wd_X12_wordHere (k : Nat → ClassId) (this : Nat) (this_thrown : Int32) (this_tape : Nat) (this_taped : Int32) (this_size : Int32) (this_sort : Nat) (this_sort_f : Nat → Int32) (this_place : Nat) (this_value : Nat) (this_value_f : Nat → Int64) (this_at : Int32) (this_fault : Int32) (this_words : Nat) (this_words_f : Nat → Int64) (this_towns : Nat) (this_op : Nat) (this_arg : Nat) (this_codes : Int32) (this_names : Nat) (this_readNames : Nat) (this_namesMany : Int32) (this_readMany : Int32) (this_once : Int32) (this_lines : Nat) (this_facts : Nat) (this_pile : Nat) (this_state : Nat) (this_undos : Int32) (this_isMarked : Nat) (this_weight : Int32) (this_rounding : Int32) (this_lacks : Nat) (this_alikes : Nat) (this_g : Int64) : va_W := [(this, .inr (10, [.int this_thrown, .ref this_tape, .int this_taped, .int this_size, .ref this_sort, .ref this_place, .ref this_value, .int this_at, .int this_fault, .ref this_words, .ref this_towns, .ref this_op, .ref this_arg, .int this_codes, .ref this_names, .ref this_readNames, .int this_namesMany, .int this_readMany, .int this_once, .ref this_lines, .ref this_facts, .ref this_pile, .ref this_state, .int this_undos, .ref this_isMarked, .int this_weight, .int this_rounding, .ref this_lacks, .ref this_alikes, .long this_g])), (this_sort, .inl (k 0, 1002, .inl this_sort_f)), (this_value, .inl (k 1, 1002, .inr (.inl this_value_f))), (this_words, .inl (k 1, 26, .inr (.inl this_words_f)))]
set_option maxHeartbeats 4000000 in
set_option maxRecDepth 100000 in
theorem c_X12_wordHere (l : Launch) (D : va_G) (k : Nat → ClassId) (this : Nat) (this_thrown : Int32) (this_tape : Nat) (this_taped : Int32) (this_size : Int32) (this_sort : Nat) (this_sort_f : Nat → Int32) (this_place : Nat) (this_value : Nat) (this_value_f : Nat → Int64) (this_at : Int32) (this_fault : Int32) (this_words : Nat) (this_words_f : Nat → Int64) (this_towns : Nat) (this_op : Nat) (this_arg : Nat) (this_codes : Int32) (this_names : Nat) (this_readNames : Nat) (this_namesMany : Int32) (this_readMany : Int32) (this_once : Int32) (this_lines : Nat) (this_facts : Nat) (this_pile : Nat) (this_state : Nat) (this_undos : Int32) (this_isMarked : Nat) (this_weight : Int32) (this_rounding : Int32) (this_lacks : Nat) (this_alikes : Nat) (this_g : Int64) (q1 : Int32) (q2 : Int32) (R0 : Int32) (hm : m_X12_wordHere this_sort_f this_value_f this_at this_fault this_words_f q1 q2 = some R0) : CR l D (TY k) yX12_wordHere cX12_wordHere 5 (some .int) 1 21 [.ref this, .int q1, .int q2] (wd_X12_wordHere k this this_thrown this_tape this_taped this_size this_sort this_sort_f this_place this_value this_value_f this_at this_fault this_words this_words_f this_towns this_op this_arg this_codes this_names this_readNames this_namesMany this_readMany this_once this_lines this_facts this_pile this_state this_undos this_isMarked this_weight this_rounding this_lacks this_alikes this_g) (some (.int R0)) := by
  refine CR.mk (by decide) (Nat.le_of_ble_eq_true rfl) ?_
  intro p e s m args below meth c ls ⟨hx, hb, hr, hts, hown, hlocks, hml⟩ hP hG hl
  have hl : lv_has ls 5 [(0, .ref this), (1, .int q1), (2, .int q2)] := hl
  have h_5 : ∀ (n : Nat), ∀ (x3 : Int32) (x4 : Int32) (ls : Array Slot), lv_has ls 5 [(0, .ref this), (1, .int q1), (2, .int q2), (3, .int x3), (4, .int x4)] → m_X12_wordHere_5 this_sort_f this_value_f this_at this_fault this_words_f q1 q2 n x3 x4 = some R0 → W p l e (Rm 1 21) s m args below meth c s.heap [] 0 0 (MQ below (QR (some (.int R0))) args s 0 0 (fun _ => False)) (F0 m 5 ls []) := by
    intro n
    induction n with
    | zero => intro x3 x4 ls hl hm; cases hm
    | succ n ih =>
      intro x3 x4 ls hl hm
      unfold m_X12_wordHere_5 at hm
      refine lv_iload (pc := 5) hx hb dX12_wordHere_5 (lv_at hl 4 rfl) ?_
      refine lv_iload_n (pc := 7) hx hb dX12_wordHere_7 rfl (lv_at hl 2 rfl) ?_
      refine lv_icmp_ge (tgt := 35) (pc := 8) hx hb dX12_wordHere_8 (by decide) (fun hc => ?_) (fun hc => ?_)
      · rw [if_pos hc] at hm
        refine lv_iload_n (pc := 35) hx hb dX12_wordHere_35 rfl (lv_at hl 3 rfl) ?_
        rw [← Option.some.inj hm]
        exact W.iret hx hb hr (fun t ht _ => ⟨rfl, ht⟩) (fun _ h => by cases h) dX12_wordHere_36 hlocks
      · rw [if_neg hc] at hm
        refine lv_aload_n (pc := 11) hx hb dX12_wordHere_11 rfl (lv_at hl 0 rfl) ?_
        refine lv_iload_n (pc := 12) hx hb dX12_wordHere_12 rfl (lv_at hl 1 rfl) ?_
        refine lv_iload (pc := 13) hx hb dX12_wordHere_13 (lv_at hl 4 rfl) ?_
        refine lv_iadd (pc := 15) hx hb dX12_wordHere_15 ?_
        obtain ⟨r2, hcl, hm⟩ := bd hm
        refine cr_back (run_V (pc := 16) (n := 1) (As := [.int (q1 + x4)]) (rest := []) ⟨hx, hb, hml, hown, hts⟩ (c_X12_isWord l D k this this_thrown this_tape this_taped this_size this_sort this_sort_f this_place this_value this_value_f this_at this_fault this_words this_words_f this_towns this_op this_arg this_codes this_names this_readNames this_namesMany this_readMany this_once this_lines this_facts this_pile this_state this_undos this_isMarked this_weight this_rounding this_lacks this_alikes this_g (q1 + x4) r2 hcl) ⟨kw_1379, kw_16, by decide +kernel⟩ kw_1376 kw_1378 ks_101 ⟨Nat.le_of_ble_eq_true rfl, Nat.le_of_ble_eq_true rfl⟩ pr_blind (prR (hP.sub [0, 1, 2, 3] rfl) hG) (va_recv hG.1 hP (ci := 10) (q0 := 0) rfl rfl) rfl hl.1 rfl (Nat.le_of_ble_eq_true rfl) dX12_wordHere_16 ⟨Nat.zero_le _, Nat.zero_le _⟩) ?_
        refine lv_if_eq (tgt := 27) (pc := 19) hx hb dX12_wordHere_19 (by decide) (fun hc => ?_) (fun hc => ?_)
        · rw [if_pos hc] at hm
          refine lv_iload_n (pc := 27) hx hb dX12_wordHere_27 rfl (lv_at hl 3 rfl) ?_
          refine lv_istore_n (lv' := [(3, .int x3), (0, .ref this), (1, .int q1), (2, .int q2), (4, .int x4)]) (pc := 28) hx hb dX12_wordHere_28 rfl hl (Nat.le_of_ble_eq_true rfl) rfl (fun ls hl => ?_)
          refine lv_iinc (k := 4) (v := x4 + 1) (lv' := [(4, .int (x4 + 1)), (3, .int x3), (0, .ref this), (1, .int q1), (2, .int q2)]) (pc := 29) hx hb dX12_wordHere_29 hl rfl rfl (Nat.le_of_ble_eq_true rfl) rfl (fun ls hl => ?_)
          refine lv_goto (tgt := 5) (pc := 32) hx hb dX12_wordHere_32 (by decide) ?_
          exact ih x3 (x4 + 1) ls (lv_sub hl [2, 3, 4, 1, 0] rfl) hm
        · rw [if_neg hc] at hm
          refine lv_iload (pc := 22) hx hb dX12_wordHere_22 (lv_at hl 4 rfl) ?_
          refine lv_goto (tgt := 28) (pc := 24) hx hb dX12_wordHere_24 (by decide) ?_
          refine lv_istore_n (lv' := [(3, .int x4), (0, .ref this), (1, .int q1), (2, .int q2), (4, .int x4)]) (pc := 28) hx hb dX12_wordHere_28 rfl hl (Nat.le_of_ble_eq_true rfl) rfl (fun ls hl => ?_)
          refine lv_iinc (k := 4) (v := x4 + 1) (lv' := [(4, .int (x4 + 1)), (3, .int x4), (0, .ref this), (1, .int q1), (2, .int q2)]) (pc := 29) hx hb dX12_wordHere_29 hl rfl rfl (Nat.le_of_ble_eq_true rfl) rfl (fun ls hl => ?_)
          refine lv_goto (tgt := 5) (pc := 32) hx hb dX12_wordHere_32 (by decide) ?_
          exact ih x4 (x4 + 1) ls (lv_sub hl [2, 3, 4, 1, 0] rfl) hm
  unfold m_X12_wordHere at hm
  refine lv_iconst (v := (-1)) (pc := 0) hx hb dX12_wordHere_0 (by decide) ?_
  refine lv_istore_n (lv' := [(3, .int (-1)), (0, .ref this), (1, .int q1), (2, .int q2)]) (pc := 1) hx hb dX12_wordHere_1 rfl hl (Nat.le_of_ble_eq_true rfl) rfl (fun ls hl => ?_)
  refine lv_iconst (v := 0) (pc := 2) hx hb dX12_wordHere_2 (by decide) ?_
  refine lv_istore (lv' := [(4, .int 0), (3, .int (-1)), (0, .ref this), (1, .int q1), (2, .int q2)]) (pc := 3) hx hb dX12_wordHere_3 hl (Nat.le_of_ble_eq_true rfl) rfl (fun ls hl => ?_)
  exact h_5 FU (-1) 0 ls (lv_sub hl [2, 3, 4, 1, 0] rfl) hm
theorem dX12_takeOne_0 : decode cX12_takeOne 0 = .ok (.aload_n 0, 1) := by decide +kernel
theorem dX12_takeOne_1 : decode cX12_takeOne 1 = .ok (.getfield 159, 3) := by decide +kernel
theorem dX12_takeOne_4 : decode cX12_takeOne 4 = .ok (.ifCond .le 7, 3) := by decide +kernel
theorem dX12_takeOne_7 : decode cX12_takeOne 7 = .ok (.iconst (-1), 1) := by decide +kernel
theorem dX12_takeOne_8 : decode cX12_takeOne 8 = .ok (.goto 9, 3) := by decide +kernel
theorem dX12_takeOne_11 : decode cX12_takeOne 11 = .ok (.aload_n 0, 1) := by decide +kernel
theorem dX12_takeOne_12 : decode cX12_takeOne 12 = .ok (.iload_n 1, 1) := by decide +kernel
theorem dX12_takeOne_13 : decode cX12_takeOne 13 = .ok (.iload_n 2, 1) := by decide +kernel
theorem dX12_takeOne_14 : decode cX12_takeOne 14 = .ok (.invokevirtual 181, 3) := by decide +kernel
theorem dX12_takeOne_17 : decode cX12_takeOne 17 = .ok (.istore_n 3, 1) := by decide +kernel
theorem dX12_takeOne_18 : decode cX12_takeOne 18 = .ok (.aload_n 0, 1) := by decide +kernel
theorem dX12_takeOne_19 : decode cX12_takeOne 19 = .ok (.getfield 159, 3) := by decide +kernel
theorem dX12_takeOne_22 : decode cX12_takeOne 22 = .ok (.ifCond .ne 12, 3) := by decide +kernel
theorem dX12_takeOne_25 : decode cX12_takeOne 25 = .ok (.iload_n 3, 1) := by decide +kernel
theorem dX12_takeOne_26 : decode cX12_takeOne 26 = .ok (.ifCond .ge 8, 3) := by decide +kernel
theorem dX12_takeOne_29 : decode cX12_takeOne 29 = .ok (.aload_n 0, 1) := by decide +kernel
theorem dX12_takeOne_30 : decode cX12_takeOne 30 = .ok (.iconst 1, 1) := by decide +kernel
theorem dX12_takeOne_31 : decode cX12_takeOne 31 = .ok (.invokevirtual 165, 3) := by decide +kernel
theorem dX12_takeOne_34 : decode cX12_takeOne 34 = .ok (.aload_n 0, 1) := by decide +kernel
theorem dX12_takeOne_35 : decode cX12_takeOne 35 = .ok (.dup, 1) := by decide +kernel
theorem dX12_takeOne_36 : decode cX12_takeOne 36 = .ok (.getfield 156, 3) := by decide +kernel
theorem dX12_takeOne_39 : decode cX12_takeOne 39 = .ok (.aload_n 0, 1) := by decide +kernel
theorem dX12_takeOne_40 : decode cX12_takeOne 40 = .ok (.getfield 159, 3) := by decide +kernel
theorem dX12_takeOne_43 : decode cX12_takeOne 43 = .ok (.ifCond .le 7, 3) := by decide +kernel
theorem dX12_takeOne_46 : decode cX12_takeOne 46 = .ok (.iconst 0, 1) := by decide +kernel
theorem dX12_takeOne_47 : decode cX12_takeOne 47 = .ok (.goto 4, 3) := by decide +kernel
theorem dX12_takeOne_50 : decode cX12_takeOne 50 = .ok (.iconst 1, 1) := by decide +kernel
theorem dX12_takeOne_51 : decode cX12_takeOne 51 = .ok (.iadd, 1) := by decide +kernel
theorem dX12_takeOne_52 : decode cX12_takeOne 52 = .ok (.putfield 156, 3) := by decide +kernel
theorem dX12_takeOne_55 : decode cX12_takeOne 55 = .ok (.aload_n 0, 1) := by decide +kernel
theorem dX12_takeOne_56 : decode cX12_takeOne 56 = .ok (.getfield 159, 3) := by decide +kernel
theorem dX12_takeOne_59 : decode cX12_takeOne 59 = .ok (.ifCond .le 7, 3) := by decide +kernel
theorem dX12_takeOne_62 : decode cX12_takeOne 62 = .ok (.iconst 0, 1) := by decide +kernel
theorem dX12_takeOne_63 : decode cX12_takeOne 63 = .ok (.goto 4, 3) := by decide +kernel
theorem dX12_takeOne_66 : decode cX12_takeOne 66 = .ok (.iload_n 3, 1) := by decide +kernel
theorem dX12_takeOne_67 : decode cX12_takeOne 67 = .ok (.ireturn, 1) := by decide +kernel
abbrev wd_X12_takeOne (k : Nat → ClassId) (this : Nat) (this_thrown : Int32) (this_tape : Nat) (this_taped : Int32) (this_size : Int32) (this_sort : Nat) (this_sort_f : Nat → Int32) (this_place : Nat) (this_place_f : Nat → Int32) (this_value : Nat) (this_value_f : Nat → Int64) (this_at : Int32) (this_fault : Int32) (this_words : Nat) (this_words_f : Nat → Int64) (this_towns : Nat) (this_op : Nat) (this_arg : Nat) (this_codes : Int32) (this_names : Nat) (this_readNames : Nat) (this_namesMany : Int32) (this_readMany : Int32) (this_once : Int32) (this_lines : Nat) (this_facts : Nat) (this_pile : Nat) (this_state : Nat) (this_undos : Int32) (this_isMarked : Nat) (this_weight : Int32) (this_rounding : Int32) (this_lacks : Nat) (this_alikes : Nat) (this_g : Int64) : va_W := [(this, .inr (10, [.int this_thrown, .ref this_tape, .int this_taped, .int this_size, .ref this_sort, .ref this_place, .ref this_value, .int this_at, .int this_fault, .ref this_words, .ref this_towns, .ref this_op, .ref this_arg, .int this_codes, .ref this_names, .ref this_readNames, .int this_namesMany, .int this_readMany, .int this_once, .ref this_lines, .ref this_facts, .ref this_pile, .ref this_state, .int this_undos, .ref this_isMarked, .int this_weight, .int this_rounding, .ref this_lacks, .ref this_alikes, .long this_g])), (this_sort, .inl (k 0, 1002, .inl this_sort_f)), (this_place, .inl (k 0, 1002, .inl this_place_f)), (this_value, .inl (k 1, 1002, .inr (.inl this_value_f))), (this_words, .inl (k 1, 26, .inr (.inl this_words_f)))]
set_option maxHeartbeats 4000000 in
set_option maxRecDepth 100000 in
theorem c_X12_takeOne (l : Launch) (D : va_G) (k : Nat → ClassId) (this : Nat) (this_thrown : Int32) (this_tape : Nat) (this_taped : Int32) (this_size : Int32) (this_sort : Nat) (this_sort_f : Nat → Int32) (this_place : Nat) (this_place_f : Nat → Int32) (this_value : Nat) (this_value_f : Nat → Int64) (this_at : Int32) (this_fault : Int32) (this_words : Nat) (this_words_f : Nat → Int64) (this_towns : Nat) (this_op : Nat) (this_arg : Nat) (this_codes : Int32) (this_names : Nat) (this_readNames : Nat) (this_namesMany : Int32) (this_readMany : Int32) (this_once : Int32) (this_lines : Nat) (this_facts : Nat) (this_pile : Nat) (this_state : Nat) (this_undos : Int32) (this_isMarked : Nat) (this_weight : Int32) (this_rounding : Int32) (this_lacks : Nat) (this_alikes : Nat) (this_g : Int64) (q1 : Int32) (q2 : Int32) (R0 : Int32 × Int32 × Int32) (hm : m_X12_takeOne this_sort_f this_place_f this_value_f this_at this_fault this_words_f q1 q2 = some R0) : CW l D (TY k) yX12_takeOne cX12_takeOne 4 (some .int) 2 45 [.ref this, .int q1, .int q2] (wd_X12_takeOne k this this_thrown this_tape this_taped this_size this_sort this_sort_f this_place this_place_f this_value this_value_f this_at this_fault this_words this_words_f this_towns this_op this_arg this_codes this_names this_readNames this_namesMany this_readMany this_once this_lines this_facts this_pile this_state this_undos this_isMarked this_weight this_rounding this_lacks this_alikes this_g) (some (.int R0.1)) (wd_X12_takeOne k this this_thrown this_tape this_taped this_size this_sort this_sort_f this_place this_place_f this_value this_value_f R0.2.1 R0.2.2 this_words this_words_f this_towns this_op this_arg this_codes this_names this_readNames this_namesMany this_readMany this_once this_lines this_facts this_pile this_state this_undos this_isMarked this_weight this_rounding this_lacks this_alikes this_g) := by
  refine CW.mk (by decide) (Nat.le_of_ble_eq_true rfl) ?_
  intro p e s m args below meth c ls A ⟨hx, hb, hr, hts, hown, hlocks, hml⟩ hP hG hD hA hl hS hq
  have hl : lv_has ls 4 [(0, .ref this), (1, .int q1), (2, .int q2)] := hl
  have h_51 : ∀ (x3 : Int32) (t0 : Int32) (t1 : Int32) (u_this_at : Int32) (u_this_fault : Int32) (H : Heap) (locs : List Loc) (ls : Array Slot), va_P D vwCl (wd_X12_takeOne k this this_thrown this_tape this_taped this_size this_sort this_sort_f this_place this_place_f this_value this_value_f u_this_at u_this_fault this_words this_words_f this_towns this_op this_arg this_codes this_names this_readNames this_namesMany this_readMany this_once this_lines this_facts this_pile this_state this_undos this_isMarked this_weight this_rounding this_lacks this_alikes this_g) H → va_D A (wd_X12_takeOne k this this_thrown this_tape this_taped this_size this_sort this_sort_f this_place this_place_f this_value this_value_f u_this_at u_this_fault this_words this_words_f this_towns this_op this_arg this_codes this_names this_readNames this_namesMany this_readMany this_once this_lines this_facts this_pile this_state this_undos this_isMarked this_weight this_rounding this_lacks this_alikes this_g) → va_S A s.heap H locs → lv_has ls 4 [(0, .ref this), (3, .int x3)] → m_X12_takeOne_51 this_sort_f this_place_f this_value_f this_words_f q1 q2 x3 t0 t1 u_this_at u_this_fault = some R0 → W p l e (Rm 2 45) s m args below meth c H locs 0 0 (MQ below (QW D (some (.int R0.1)) (wd_X12_takeOne k this this_thrown this_tape this_taped this_size this_sort this_sort_f this_place this_place_f this_value this_value_f this_at this_fault this_words this_words_f this_towns this_op this_arg this_codes this_names this_readNames this_namesMany this_readMany this_once this_lines this_facts this_pile this_state this_undos this_isMarked this_weight this_rounding this_lacks this_alikes this_g) (wd_X12_takeOne k this this_thrown this_tape this_taped this_size this_sort this_sort_f this_place this_place_f this_value this_value_f R0.2.1 R0.2.2 this_words this_words_f this_towns this_op this_arg this_codes this_names this_readNames this_namesMany this_readMany this_once this_lines this_facts this_pile this_state this_undos this_isMarked this_weight this_rounding this_lacks this_alikes this_g) s.heap.size) args s 0 0 A) (F0 m 51 ls [.int t0, .int t1, .ref this]) := by
    intro  x3 t0 t1 u_this_at u_this_fault H locs ls hP hD hS hl hm
    unfold m_X12_takeOne_51 at hm
    refine lv_iadd (pc := 51) hx hb dX12_takeOne_51 ?_
    refine va_put (pc := 52) (D := D) (ci := 10) (v := .int (t1 + t0)) (ty := .int) (C := RX12) (T := TX12) (N := 30) hx hb hts hiX12 tyX12 tyX12_ok nmX12 hown hG.1 hP hD hS 0 rfl rfl 7 (Nat.le_of_ble_eq_true rfl) (hts _ kw_1264) (fun _ h9 => h9) rfl (by decide +kernel) rfl rfl (Nat.le_of_ble_eq_true rfl) dX12_takeOne_52 (fun H locs hP hD hS => ?_)
    have hP : va_P D vwCl (wd_X12_takeOne k this this_thrown this_tape this_taped this_size this_sort this_sort_f this_place this_place_f this_value this_value_f (t1 + t0) u_this_fault this_words this_words_f this_towns this_op this_arg this_codes this_names this_readNames this_namesMany this_readMany this_once this_lines this_facts this_pile this_state this_undos this_isMarked this_weight this_rounding this_lacks this_alikes this_g) H := hP
    have hD : va_D A (wd_X12_takeOne k this this_thrown this_tape this_taped this_size this_sort this_sort_f this_place this_place_f this_value this_value_f (t1 + t0) u_this_fault this_words this_words_f this_towns this_op this_arg this_codes this_names this_readNames this_namesMany this_readMany this_once this_lines this_facts this_pile this_state this_undos this_isMarked this_weight this_rounding this_lacks this_alikes this_g) := hD
    refine lv_aload_n (pc := 55) hx hb dX12_takeOne_55 rfl (lv_at hl 0 rfl) ?_
    refine va_get (pc := 56) (D := D) (ci := 10) (C := RX12) (T := TX12) (N := 30) hx hb hts hiX12 hown hG.1 hP 0 rfl rfl 8 (Nat.le_of_ble_eq_true rfl) (hts _ kw_1265) (fun _ h9 => h9) rfl dX12_takeOne_56 ?_
    refine lv_if_le (tgt := 66) (pc := 59) hx hb dX12_takeOne_59 (by decide) (fun hc => ?_) (fun hc => ?_)
    · rw [if_pos hc] at hm
      refine lv_iload_n (pc := 66) hx hb dX12_takeOne_66 rfl (lv_at hl 1 rfl) ?_
      rw [← Option.some.inj hm]
      exact W.iret hx hb hr (fun t ht _ => hq _ _ H t ht hP hD locs hS) hS.2.2 dX12_takeOne_67 hlocks
    · rw [if_neg hc] at hm
      refine lv_iconst (v := 0) (pc := 62) hx hb dX12_takeOne_62 (by decide) ?_
      refine lv_goto (tgt := 67) (pc := 63) hx hb dX12_takeOne_63 (by decide) ?_
      rw [← Option.some.inj hm]
      exact W.iret hx hb hr (fun t ht _ => hq _ _ H t ht hP hD locs hS) hS.2.2 dX12_takeOne_67 hlocks
  have h_34 : ∀ (x3 : Int32) (u_this_at : Int32) (u_this_fault : Int32) (H : Heap) (locs : List Loc) (ls : Array Slot), va_P D vwCl (wd_X12_takeOne k this this_thrown this_tape this_taped this_size this_sort this_sort_f this_place this_place_f this_value this_value_f u_this_at u_this_fault this_words this_words_f this_towns this_op this_arg this_codes this_names this_readNames this_namesMany this_readMany this_once this_lines this_facts this_pile this_state this_undos this_isMarked this_weight this_rounding this_lacks this_alikes this_g) H → va_D A (wd_X12_takeOne k this this_thrown this_tape this_taped this_size this_sort this_sort_f this_place this_place_f this_value this_value_f u_this_at u_this_fault this_words this_words_f this_towns this_op this_arg this_codes this_names this_readNames this_namesMany this_readMany this_once this_lines this_facts this_pile this_state this_undos this_isMarked this_weight this_rounding this_lacks this_alikes this_g) → va_S A s.heap H locs → lv_has ls 4 [(0, .ref this), (3, .int x3)] → m_X12_takeOne_34 this_sort_f this_place_f this_value_f this_words_f q1 q2 x3 u_this_at u_this_fault = some R0 → W p l e (Rm 2 45) s m args below meth c H locs 0 0 (MQ below (QW D (some (.int R0.1)) (wd_X12_takeOne k this this_thrown this_tape this_taped this_size this_sort this_sort_f this_place this_place_f this_value this_value_f this_at this_fault this_words this_words_f this_towns this_op this_arg this_codes this_names this_readNames this_namesMany this_readMany this_once this_lines this_facts this_pile this_state this_undos this_isMarked this_weight this_rounding this_lacks this_alikes this_g) (wd_X12_takeOne k this this_thrown this_tape this_taped this_size this_sort this_sort_f this_place this_place_f this_value this_value_f R0.2.1 R0.2.2 this_words this_words_f this_towns this_op this_arg this_codes this_names this_readNames this_namesMany this_readMany this_once this_lines this_facts this_pile this_state this_undos this_isMarked this_weight this_rounding this_lacks this_alikes this_g) s.heap.size) args s 0 0 A) (F0 m 34 ls []) := by
    intro  x3 u_this_at u_this_fault H locs ls hP hD hS hl hm
    unfold m_X12_takeOne_34 at hm
    refine lv_aload_n (pc := 34) hx hb dX12_takeOne_34 rfl (lv_at hl 0 rfl) ?_
    refine lv_dup (pc := 35) hx hb dX12_takeOne_35 rfl ?_
    refine va_get (pc := 36) (D := D) (ci := 10) (C := RX12) (T := TX12) (N := 30) hx hb hts hiX12 hown hG.1 hP 0 rfl rfl 7 (Nat.le_of_ble_eq_true rfl) (hts _ kw_1264) (fun _ h9 => h9) rfl dX12_takeOne_36 ?_
    refine lv_aload_n (pc := 39) hx hb dX12_takeOne_39 rfl (lv_at hl 0 rfl) ?_
    refine va_get (pc := 40) (D := D) (ci := 10) (C := RX12) (T := TX12) (N := 30) hx hb hts hiX12 hown hG.1 hP 0 rfl rfl 8 (Nat.le_of_ble_eq_true rfl) (hts _ kw_1265) (fun _ h9 => h9) rfl dX12_takeOne_40 ?_
    refine lv_if_le (tgt := 50) (pc := 43) hx hb dX12_takeOne_43 (by decide) (fun hc => ?_) (fun hc => ?_)
    · rw [if_pos hc] at hm
      refine lv_iconst (v := 1) (pc := 50) hx hb dX12_takeOne_50 (by decide) ?_
      exact h_51 x3 1 u_this_at u_this_at u_this_fault H locs ls hP hD hS (lv_sub hl [0, 1] rfl) hm
    · rw [if_neg hc] at hm
      refine lv_iconst (v := 0) (pc := 46) hx hb dX12_takeOne_46 (by decide) ?_
      refine lv_goto (tgt := 51) (pc := 47) hx hb dX12_takeOne_47 (by decide) ?_
      exact h_51 x3 0 u_this_at u_this_at u_this_fault H locs ls hP hD hS (lv_sub hl [0, 1] rfl) hm
  have h_17 : ∀ (t0 : Int32) (u_this_at : Int32) (u_this_fault : Int32) (H : Heap) (locs : List Loc) (ls : Array Slot), va_P D vwCl (wd_X12_takeOne k this this_thrown this_tape this_taped this_size this_sort this_sort_f this_place this_place_f this_value this_value_f u_this_at u_this_fault this_words this_words_f this_towns this_op this_arg this_codes this_names this_readNames this_namesMany this_readMany this_once this_lines this_facts this_pile this_state this_undos this_isMarked this_weight this_rounding this_lacks this_alikes this_g) H → va_D A (wd_X12_takeOne k this this_thrown this_tape this_taped this_size this_sort this_sort_f this_place this_place_f this_value this_value_f u_this_at u_this_fault this_words this_words_f this_towns this_op this_arg this_codes this_names this_readNames this_namesMany this_readMany this_once this_lines this_facts this_pile this_state this_undos this_isMarked this_weight this_rounding this_lacks this_alikes this_g) → va_S A s.heap H locs → lv_has ls 4 [(0, .ref this)] → m_X12_takeOne_17 this_sort_f this_place_f this_value_f this_words_f q1 q2 t0 u_this_at u_this_fault = some R0 → W p l e (Rm 2 45) s m args below meth c H locs 0 0 (MQ below (QW D (some (.int R0.1)) (wd_X12_takeOne k this this_thrown this_tape this_taped this_size this_sort this_sort_f this_place this_place_f this_value this_value_f this_at this_fault this_words this_words_f this_towns this_op this_arg this_codes this_names this_readNames this_namesMany this_readMany this_once this_lines this_facts this_pile this_state this_undos this_isMarked this_weight this_rounding this_lacks this_alikes this_g) (wd_X12_takeOne k this this_thrown this_tape this_taped this_size this_sort this_sort_f this_place this_place_f this_value this_value_f R0.2.1 R0.2.2 this_words this_words_f this_towns this_op this_arg this_codes this_names this_readNames this_namesMany this_readMany this_once this_lines this_facts this_pile this_state this_undos this_isMarked this_weight this_rounding this_lacks this_alikes this_g) s.heap.size) args s 0 0 A) (F0 m 17 ls [.int t0]) := by
    intro  t0 u_this_at u_this_fault H locs ls hP hD hS hl hm
    unfold m_X12_takeOne_17 at hm
    refine lv_istore_n (lv' := [(3, .int t0), (0, .ref this)]) (pc := 17) hx hb dX12_takeOne_17 rfl hl (Nat.le_of_ble_eq_true rfl) rfl (fun ls hl => ?_)
    refine lv_aload_n (pc := 18) hx hb dX12_takeOne_18 rfl (lv_at hl 1 rfl) ?_
    refine va_get (pc := 19) (D := D) (ci := 10) (C := RX12) (T := TX12) (N := 30) hx hb hts hiX12 hown hG.1 hP 0 rfl rfl 8 (Nat.le_of_ble_eq_true rfl) (hts _ kw_1265) (fun _ h9 => h9) rfl dX12_takeOne_19 ?_
    refine lv_if_ne (tgt := 34) (pc := 22) hx hb dX12_takeOne_22 (by decide) (fun hc => ?_) (fun hc => ?_)
    · rw [if_neg hc] at hm
      exact h_34 t0 u_this_at u_this_fault H locs ls hP hD hS (lv_sub hl [1, 0] rfl) hm
    · rw [if_pos hc] at hm
      refine lv_iload_n (pc := 25) hx hb dX12_takeOne_25 rfl (lv_at hl 0 rfl) ?_
      refine lv_if_ge (tgt := 34) (pc := 26) hx hb dX12_takeOne_26 (by decide) (fun hc => ?_) (fun hc => ?_)
      · rw [if_pos hc] at hm
        exact h_34 t0 u_this_at u_this_fault H locs ls hP hD hS (lv_sub hl [1, 0] rfl) hm
      · rw [if_neg hc] at hm
        refine lv_aload_n (pc := 29) hx hb dX12_takeOne_29 rfl (lv_at hl 1 rfl) ?_
        refine lv_iconst (v := 1) (pc := 30) hx hb dX12_takeOne_30 (by decide) ?_
        obtain ⟨r3, hcl, hm⟩ := bd hm
        refine cw_mask (ws' := (wd_X12_takeOne k this this_thrown this_tape this_taped this_size this_sort this_sort_f this_place this_place_f this_value this_value_f u_this_at r3 this_words this_words_f this_towns this_op this_arg this_codes this_names this_readNames this_namesMany this_readMany this_once this_lines this_facts this_pile this_state this_undos this_isMarked this_weight this_rounding this_lacks this_alikes this_g)) (run_V (pc := 31) (n := 1) (As := [.int 1]) (rest := []) ⟨hx, hb, hml, hown, hts⟩ ((c_X12_wrong l D k this this_thrown this_tape this_taped this_size this_sort this_place this_place_f this_value u_this_at u_this_fault this_words this_towns this_op this_arg this_codes this_names this_readNames this_namesMany this_readMany this_once this_lines this_facts this_pile this_state this_undos this_isMarked this_weight this_rounding this_lacks this_alikes this_g 1 r3 hcl) H.size) ⟨kw_1387, kw_16, by decide +kernel⟩ kw_1384 kw_1386 ks_103 ⟨Nat.le_of_ble_eq_true rfl, Nat.le_of_ble_eq_true rfl⟩ pw_blind (prW (P_pick [true, false, true] rfl hP) hG (D_pick [true, false, true] rfl hD)) (va_recv hG.1 hP (ci := 10) (q0 := 0) rfl rfl) rfl hl.1 rfl (Nat.le_of_ble_eq_true rfl) dX12_takeOne_31 ⟨Nat.zero_le _, Nat.zero_le _⟩) hP hD hS hA [true, false, true] rfl rfl rfl (fun H locs hP hD hS => ?_)
        exact h_34 t0 u_this_at r3 H locs ls hP hD hS (lv_sub hl [1, 0] rfl) hm
  unfold m_X12_takeOne at hm
  suffices hgo : ∀ (H : Heap) (locs : List Loc), va_P D vwCl (wd_X12_takeOne k this this_thrown this_tape this_taped this_size this_sort this_sort_f this_place this_place_f this_value this_value_f this_at this_fault this_words this_words_f this_towns this_op this_arg this_codes this_names this_readNames this_namesMany this_readMany this_once this_lines this_facts this_pile this_state this_undos this_isMarked this_weight this_rounding this_lacks this_alikes this_g) H → va_D A (wd_X12_takeOne k this this_thrown this_tape this_taped this_size this_sort this_sort_f this_place this_place_f this_value this_value_f this_at this_fault this_words this_words_f this_towns this_op this_arg this_codes this_names this_readNames this_namesMany this_readMany this_once this_lines this_facts this_pile this_state this_undos this_isMarked this_weight this_rounding this_lacks this_alikes this_g) → va_S A s.heap H locs → W p l e (Rm 2 45) s m args below meth c H locs 0 0 (MQ below (QW D (some (.int R0.1)) (wd_X12_takeOne k this this_thrown this_tape this_taped this_size this_sort this_sort_f this_place this_place_f this_value this_value_f this_at this_fault this_words this_words_f this_towns this_op this_arg this_codes this_names this_readNames this_namesMany this_readMany this_once this_lines this_facts this_pile this_state this_undos this_isMarked this_weight this_rounding this_lacks this_alikes this_g) (wd_X12_takeOne k this this_thrown this_tape this_taped this_size this_sort this_sort_f this_place this_place_f this_value this_value_f R0.2.1 R0.2.2 this_words this_words_f this_towns this_op this_arg this_codes this_names this_readNames this_namesMany this_readMany this_once this_lines this_facts this_pile this_state this_undos this_isMarked this_weight this_rounding this_lacks this_alikes this_g) s.heap.size) args s 0 0 A) (F0 m 0 ls []) from hgo _ _ hP hD hS
  clear hP hD hS
  intro H locs hP hD hS
  refine lv_aload_n (pc := 0) hx hb dX12_takeOne_0 rfl (lv_at hl 0 rfl) ?_
  refine va_get (pc := 1) (D := D) (ci := 10) (C := RX12) (T := TX12) (N := 30) hx hb hts hiX12 hown hG.1 hP 0 rfl rfl 8 (Nat.le_of_ble_eq_true rfl) (hts _ kw_1265) (fun _ h9 => h9) rfl dX12_takeOne_1 ?_
  refine lv_if_le (tgt := 11) (pc := 4) hx hb dX12_takeOne_4 (by decide) (fun hc => ?_) (fun hc => ?_)
  · rw [if_pos hc] at hm
    refine lv_aload_n (pc := 11) hx hb dX12_takeOne_11 rfl (lv_at hl 0 rfl) ?_
    refine lv_iload_n (pc := 12) hx hb dX12_takeOne_12 rfl (lv_at hl 1 rfl) ?_
    refine lv_iload_n (pc := 13) hx hb dX12_takeOne_13 rfl (lv_at hl 2 rfl) ?_
    obtain ⟨r4, hcl, hm⟩ := bd hm
    refine cr_back (run_V (pc := 14) (n := 2) (As := [.int q1, .int q2]) (rest := []) ⟨hx, hb, hml, hown, hts⟩ (c_X12_wordHere l D k this this_thrown this_tape this_taped this_size this_sort this_sort_f this_place this_value this_value_f this_at this_fault this_words this_words_f this_towns this_op this_arg this_codes this_names this_readNames this_namesMany this_readMany this_once this_lines this_facts this_pile this_state this_undos this_isMarked this_weight this_rounding this_lacks this_alikes this_g q1 q2 r4 hcl) ⟨kw_1395, kw_16, by decide +kernel⟩ kw_1392 kw_1394 ks_105 ⟨Nat.le_of_ble_eq_true rfl, Nat.le_of_ble_eq_true rfl⟩ pr_blind (prR (hP.sub [0, 1, 3, 4] rfl) hG) (va_recv hG.1 hP (ci := 10) (q0 := 0) rfl rfl) rfl hl.1 rfl (Nat.le_of_ble_eq_true rfl) dX12_takeOne_14 ⟨Nat.zero_le _, Nat.zero_le _⟩) ?_
    exact h_17 r4 this_at this_fault H locs ls hP hD hS (lv_sub hl [0] rfl) hm
  · rw [if_neg hc] at hm
    refine lv_iconst (v := (-1)) (pc := 7) hx hb dX12_takeOne_7 (by decide) ?_
    refine lv_goto (tgt := 17) (pc := 8) hx hb dX12_takeOne_8 (by decide) ?_
    exact h_17 (-1) this_at this_fault H locs ls hP hD hS (lv_sub hl [0] rfl) hm
theorem dX12_isName_0 : decode cX12_isName 0 = .ok (.aload_n 0, 1) := by decide +kernel
theorem dX12_isName_1 : decode cX12_isName 1 = .ok (.getfield 159, 3) := by decide +kernel
theorem dX12_isName_4 : decode cX12_isName 4 = .ok (.ifCond .ne 30, 3) := by decide +kernel
theorem dX12_isName_7 : decode cX12_isName 7 = .ok (.aload_n 0, 1) := by decide +kernel
theorem dX12_isName_8 : decode cX12_isName 8 = .ok (.getfield 24, 3) := by decide +kernel
theorem dX12_isName_11 : decode cX12_isName 11 = .ok (.aload_n 0, 1) := by decide +kernel
theorem dX12_isName_12 : decode cX12_isName 12 = .ok (.getfield 156, 3) := by decide +kernel
theorem dX12_isName_15 : decode cX12_isName 15 = .ok (.iaload, 1) := by decide +kernel
theorem dX12_isName_16 : decode cX12_isName 16 = .ok (.iconst 1, 1) := by decide +kernel
theorem dX12_isName_17 : decode cX12_isName 17 = .ok (.if_icmp .ne 17, 3) := by decide +kernel
theorem dX12_isName_20 : decode cX12_isName 20 = .ok (.aload_n 0, 1) := by decide +kernel
theorem dX12_isName_21 : decode cX12_isName 21 = .ok (.iconst 0, 1) := by decide +kernel
theorem dX12_isName_22 : decode cX12_isName 22 = .ok (.bipush 22, 2) := by decide +kernel
theorem dX12_isName_24 : decode cX12_isName 24 = .ok (.invokevirtual 181, 3) := by decide +kernel
theorem dX12_isName_27 : decode cX12_isName 27 = .ok (.ifCond .ge 7, 3) := by decide +kernel
theorem dX12_isName_30 : decode cX12_isName 30 = .ok (.iconst 1, 1) := by decide +kernel
theorem dX12_isName_31 : decode cX12_isName 31 = .ok (.goto 4, 3) := by decide +kernel
theorem dX12_isName_34 : decode cX12_isName 34 = .ok (.iconst 0, 1) := by decide +kernel
theorem dX12_isName_35 : decode cX12_isName 35 = .ok (.ireturn, 1) := by decide +kernel
abbrev wd_X12_isName (k : Nat → ClassId) (this : Nat) (this_thrown : Int32) (this_tape : Nat) (this_taped : Int32) (this_size : Int32) (this_sort : Nat) (this_sort_f : Nat → Int32) (this_place : Nat) (this_value : Nat) (this_value_f : Nat → Int64) (this_at : Int32) (this_fault : Int32) (this_words : Nat) (this_words_f : Nat → Int64) (this_towns : Nat) (this_op : Nat) (this_arg : Nat) (this_codes : Int32) (this_names : Nat) (this_readNames : Nat) (this_namesMany : Int32) (this_readMany : Int32) (this_once : Int32) (this_lines : Nat) (this_facts : Nat) (this_pile : Nat) (this_state : Nat) (this_undos : Int32) (this_isMarked : Nat) (this_weight : Int32) (this_rounding : Int32) (this_lacks : Nat) (this_alikes : Nat) (this_g : Int64) : va_W := [(this, .inr (10, [.int this_thrown, .ref this_tape, .int this_taped, .int this_size, .ref this_sort, .ref this_place, .ref this_value, .int this_at, .int this_fault, .ref this_words, .ref this_towns, .ref this_op, .ref this_arg, .int this_codes, .ref this_names, .ref this_readNames, .int this_namesMany, .int this_readMany, .int this_once, .ref this_lines, .ref this_facts, .ref this_pile, .ref this_state, .int this_undos, .ref this_isMarked, .int this_weight, .int this_rounding, .ref this_lacks, .ref this_alikes, .long this_g])), (this_sort, .inl (k 0, 1002, .inl this_sort_f)), (this_value, .inl (k 1, 1002, .inr (.inl this_value_f))), (this_words, .inl (k 1, 26, .inr (.inl this_words_f)))]
set_option maxHeartbeats 4000000 in
set_option maxRecDepth 100000 in
theorem c_X12_isName (l : Launch) (D : va_G) (k : Nat → ClassId) (this : Nat) (this_thrown : Int32) (this_tape : Nat) (this_taped : Int32) (this_size : Int32) (this_sort : Nat) (this_sort_f : Nat → Int32) (this_place : Nat) (this_value : Nat) (this_value_f : Nat → Int64) (this_at : Int32) (this_fault : Int32) (this_words : Nat) (this_words_f : Nat → Int64) (this_towns : Nat) (this_op : Nat) (this_arg : Nat) (this_codes : Int32) (this_names : Nat) (this_readNames : Nat) (this_namesMany : Int32) (this_readMany : Int32) (this_once : Int32) (this_lines : Nat) (this_facts : Nat) (this_pile : Nat) (this_state : Nat) (this_undos : Int32) (this_isMarked : Nat) (this_weight : Int32) (this_rounding : Int32) (this_lacks : Nat) (this_alikes : Nat) (this_g : Int64) (R0 : Int32) (hm : m_X12_isName this_sort_f this_value_f this_at this_fault this_words_f = some R0) : CR l D (TY k) yX12_isName cX12_isName 1 (some .boolean) 2 45 [.ref this] (wd_X12_isName k this this_thrown this_tape this_taped this_size this_sort this_sort_f this_place this_value this_value_f this_at this_fault this_words this_words_f this_towns this_op this_arg this_codes this_names this_readNames this_namesMany this_readMany this_once this_lines this_facts this_pile this_state this_undos this_isMarked this_weight this_rounding this_lacks this_alikes this_g) (some (.int R0)) := by
  refine CR.mk (by decide) (Nat.le_of_ble_eq_true rfl) ?_
  intro p e s m args below meth c ls ⟨hx, hb, hr, hts, hown, hlocks, hml⟩ hP hG hl
  have hl : lv_has ls 1 [(0, .ref this)] := hl
  unfold m_X12_isName at hm
  refine lv_aload_n (pc := 0) hx hb dX12_isName_0 rfl (lv_at hl 0 rfl) ?_
  refine va_get (pc := 1) (D := D) (ci := 10) (C := RX12) (T := TX12) (N := 30) hx hb hts hiX12 hown hG.1 hP 0 rfl rfl 8 (Nat.le_of_ble_eq_true rfl) (hts _ kw_1265) (fun _ h9 => h9) rfl dX12_isName_1 ?_
  refine lv_if_ne (tgt := 34) (pc := 4) hx hb dX12_isName_4 (by decide) (fun hc => ?_) (fun hc => ?_)
  · rw [if_neg hc] at hm
    refine lv_iconst (v := 0) (pc := 34) hx hb dX12_isName_34 (by decide) ?_
    rw [← Option.some.inj hm]
    exact W.zret hx hb hr (nar_bool (Or.inl rfl)) (fun t ht _ => ⟨rfl, ht⟩) (fun _ h => by cases h) dX12_isName_35 hlocks
  · rw [if_pos hc] at hm
    refine lv_aload_n (pc := 7) hx hb dX12_isName_7 rfl (lv_at hl 0 rfl) ?_
    refine va_get (pc := 8) (D := D) (ci := 10) (C := RX12) (T := TX12) (N := 30) hx hb hts hiX12 hown hG.1 hP 0 rfl rfl 4 (Nat.le_of_ble_eq_true rfl) (hts _ kw_1261) (fun _ h9 => h9) rfl dX12_isName_8 ?_
    refine lv_aload_n (pc := 11) hx hb dX12_isName_11 rfl (lv_at hl 0 rfl) ?_
    refine va_get (pc := 12) (D := D) (ci := 10) (C := RX12) (T := TX12) (N := 30) hx hb hts hiX12 hown hG.1 hP 0 rfl rfl 7 (Nat.le_of_ble_eq_true rfl) (hts _ kw_1264) (fun _ h9 => h9) rfl dX12_isName_12 ?_
    obtain ⟨hin, hm⟩ := gd hm
    refine va_iald (pc := 15) (D := D) hx hb hG.1 hP 1 0 rfl rfl hin dX12_isName_15 ?_
    refine lv_iconst (v := 1) (pc := 16) hx hb dX12_isName_16 (by decide) ?_
    refine lv_icmp_ne (tgt := 34) (pc := 17) hx hb dX12_isName_17 (by decide) (fun hc => ?_) (fun hc => ?_)
    · rw [if_neg hc] at hm
      refine lv_iconst (v := 0) (pc := 34) hx hb dX12_isName_34 (by decide) ?_
      rw [← Option.some.inj hm]
      exact W.zret hx hb hr (nar_bool (Or.inl rfl)) (fun t ht _ => ⟨rfl, ht⟩) (fun _ h => by cases h) dX12_isName_35 hlocks
    · rw [if_pos hc] at hm
      refine lv_aload_n (pc := 20) hx hb dX12_isName_20 rfl (lv_at hl 0 rfl) ?_
      refine lv_iconst (v := 0) (pc := 21) hx hb dX12_isName_21 (by decide) ?_
      refine lv_bipush (v := 22) (pc := 22) hx hb dX12_isName_22 (by decide) ?_
      obtain ⟨r2, hcl, hm⟩ := bd hm
      refine cr_back (run_V (pc := 24) (n := 2) (As := [.int 0, .int 22]) (rest := []) ⟨hx, hb, hml, hown, hts⟩ (c_X12_wordHere l D k this this_thrown this_tape this_taped this_size this_sort this_sort_f this_place this_value this_value_f this_at this_fault this_words this_words_f this_towns this_op this_arg this_codes this_names this_readNames this_namesMany this_readMany this_once this_lines this_facts this_pile this_state this_undos this_isMarked this_weight this_rounding this_lacks this_alikes this_g 0 22 r2 hcl) ⟨kw_1395, kw_16, by decide +kernel⟩ kw_1392 kw_1394 ks_105 ⟨Nat.le_of_ble_eq_true rfl, Nat.le_of_ble_eq_true rfl⟩ pr_blind (prR (hP.sub [0, 1, 2, 3] rfl) hG) (va_recv hG.1 hP (ci := 10) (q0 := 0) rfl rfl) rfl hl.1 rfl (Nat.le_of_ble_eq_true rfl) dX12_isName_24 ⟨Nat.zero_le _, Nat.zero_le _⟩) ?_
      refine lv_if_ge (tgt := 34) (pc := 27) hx hb dX12_isName_27 (by decide) (fun hc => ?_) (fun hc => ?_)
      · rw [if_pos hc] at hm
        refine lv_iconst (v := 0) (pc := 34) hx hb dX12_isName_34 (by decide) ?_
        rw [← Option.some.inj hm]
        exact W.zret hx hb hr (nar_bool (Or.inl rfl)) (fun t ht _ => ⟨rfl, ht⟩) (fun _ h => by cases h) dX12_isName_35 hlocks
      · rw [if_neg hc] at hm
        refine lv_iconst (v := 1) (pc := 30) hx hb dX12_isName_30 (by decide) ?_
        refine lv_goto (tgt := 35) (pc := 31) hx hb dX12_isName_31 (by decide) ?_
        rw [← Option.some.inj hm]
        exact W.zret hx hb hr (nar_bool (Or.inr rfl)) (fun t ht _ => ⟨rfl, ht⟩) (fun _ h => by cases h) dX12_isName_35 hlocks
theorem dX12_nameAt_0 : decode cX12_nameAt 0 = .ok (.iconst 0, 1) := by decide +kernel
theorem dX12_nameAt_1 : decode cX12_nameAt 1 = .ok (.istore_n 2, 1) := by decide +kernel
theorem dX12_nameAt_2 : decode cX12_nameAt 2 = .ok (.iload_n 2, 1) := by decide +kernel
theorem dX12_nameAt_3 : decode cX12_nameAt 3 = .ok (.iload_n 1, 1) := by decide +kernel
theorem dX12_nameAt_4 : decode cX12_nameAt 4 = .ok (.ifCond .eq 10, 3) := by decide +kernel
theorem dX12_nameAt_7 : decode cX12_nameAt 7 = .ok (.aload_n 0, 1) := by decide +kernel
theorem dX12_nameAt_8 : decode cX12_nameAt 8 = .ok (.getfield 184, 3) := by decide +kernel
theorem dX12_nameAt_11 : decode cX12_nameAt 11 = .ok (.goto 7, 3) := by decide +kernel
theorem dX12_nameAt_14 : decode cX12_nameAt 14 = .ok (.aload_n 0, 1) := by decide +kernel
theorem dX12_nameAt_15 : decode cX12_nameAt 15 = .ok (.getfield 187, 3) := by decide +kernel
theorem dX12_nameAt_18 : decode cX12_nameAt 18 = .ok (.if_icmp .ge 43, 3) := by decide +kernel
theorem dX12_nameAt_21 : decode cX12_nameAt 21 = .ok (.iload_n 1, 1) := by decide +kernel
theorem dX12_nameAt_22 : decode cX12_nameAt 22 = .ok (.ifCond .eq 12, 3) := by decide +kernel
theorem dX12_nameAt_25 : decode cX12_nameAt 25 = .ok (.aload_n 0, 1) := by decide +kernel
theorem dX12_nameAt_26 : decode cX12_nameAt 26 = .ok (.getfield 101, 3) := by decide +kernel
theorem dX12_nameAt_29 : decode cX12_nameAt 29 = .ok (.iload_n 2, 1) := by decide +kernel
theorem dX12_nameAt_30 : decode cX12_nameAt 30 = .ok (.laload, 1) := by decide +kernel
theorem dX12_nameAt_31 : decode cX12_nameAt 31 = .ok (.goto 9, 3) := by decide +kernel
theorem dX12_nameAt_34 : decode cX12_nameAt 34 = .ok (.aload_n 0, 1) := by decide +kernel
theorem dX12_nameAt_35 : decode cX12_nameAt 35 = .ok (.getfield 98, 3) := by decide +kernel
theorem dX12_nameAt_38 : decode cX12_nameAt 38 = .ok (.iload_n 2, 1) := by decide +kernel
theorem dX12_nameAt_39 : decode cX12_nameAt 39 = .ok (.laload, 1) := by decide +kernel
theorem dX12_nameAt_40 : decode cX12_nameAt 40 = .ok (.aload_n 0, 1) := by decide +kernel
theorem dX12_nameAt_41 : decode cX12_nameAt 41 = .ok (.getfield 30, 3) := by decide +kernel
theorem dX12_nameAt_44 : decode cX12_nameAt 44 = .ok (.aload_n 0, 1) := by decide +kernel
theorem dX12_nameAt_45 : decode cX12_nameAt 45 = .ok (.getfield 156, 3) := by decide +kernel
theorem dX12_nameAt_48 : decode cX12_nameAt 48 = .ok (.laload, 1) := by decide +kernel
theorem dX12_nameAt_49 : decode cX12_nameAt 49 = .ok (.lcmp, 1) := by decide +kernel
theorem dX12_nameAt_50 : decode cX12_nameAt 50 = .ok (.ifCond .ne 5, 3) := by decide +kernel
theorem dX12_nameAt_53 : decode cX12_nameAt 53 = .ok (.iload_n 2, 1) := by decide +kernel
theorem dX12_nameAt_54 : decode cX12_nameAt 54 = .ok (.ireturn, 1) := by decide +kernel
theorem dX12_nameAt_55 : decode cX12_nameAt 55 = .ok (.iinc 2 1, 3) := by decide +kernel
theorem dX12_nameAt_58 : decode cX12_nameAt 58 = .ok (.goto (-56), 3) := by decide +kernel
theorem dX12_nameAt_61 : decode cX12_nameAt 61 = .ok (.iconst (-1), 1) := by decide +kernel
theorem dX12_nameAt_62 : decode cX12_nameAt 62 = .ok (.ireturn, 1) := by decide +kernel
abbrev wd_X12_nameAt (k : Nat → ClassId) (this : Nat) (this_thrown : Int32) (this_tape : Nat) (this_taped : Int32) (this_size : Int32) (this_sort : Nat) (this_place : Nat) (this_value : Nat) (this_value_f : Nat → Int64) (this_at : Int32) (this_fault : Int32) (this_words : Nat) (this_towns : Nat) (this_op : Nat) (this_arg : Nat) (this_codes : Int32) (this_names : Nat) (this_names_f : Nat → Int64) (this_readNames : Nat) (this_readNames_f : Nat → Int64) (this_namesMany : Int32) (this_readMany : Int32) (this_once : Int32) (this_lines : Nat) (this_facts : Nat) (this_pile : Nat) (this_state : Nat) (this_undos : Int32) (this_isMarked : Nat) (this_weight : Int32) (this_rounding : Int32) (this_lacks : Nat) (this_alikes : Nat) (this_g : Int64) : va_W := [(this, .inr (10, [.int this_thrown, .ref this_tape, .int this_taped, .int this_size, .ref this_sort, .ref this_place, .ref this_value, .int this_at, .int this_fault, .ref this_words, .ref this_towns, .ref this_op, .ref this_arg, .int this_codes, .ref this_names, .ref this_readNames, .int this_namesMany, .int this_readMany, .int this_once, .ref this_lines, .ref this_facts, .ref this_pile, .ref this_state, .int this_undos, .ref this_isMarked, .int this_weight, .int this_rounding, .ref this_lacks, .ref this_alikes, .long this_g])), (this_value, .inl (k 1, 1002, .inr (.inl this_value_f))), (this_names, .inl (k 1, 6, .inr (.inl this_names_f))), (this_readNames, .inl (k 1, 6, .inr (.inl this_readNames_f)))]
set_option maxHeartbeats 4000000 in
set_option maxRecDepth 100000 in
theorem c_X12_nameAt (l : Launch) (D : va_G) (k : Nat → ClassId) (this : Nat) (this_thrown : Int32) (this_tape : Nat) (this_taped : Int32) (this_size : Int32) (this_sort : Nat) (this_place : Nat) (this_value : Nat) (this_value_f : Nat → Int64) (this_at : Int32) (this_fault : Int32) (this_words : Nat) (this_towns : Nat) (this_op : Nat) (this_arg : Nat) (this_codes : Int32) (this_names : Nat) (this_names_f : Nat → Int64) (this_readNames : Nat) (this_readNames_f : Nat → Int64) (this_namesMany : Int32) (this_readMany : Int32) (this_once : Int32) (this_lines : Nat) (this_facts : Nat) (this_pile : Nat) (this_state : Nat) (this_undos : Int32) (this_isMarked : Nat) (this_weight : Int32) (this_rounding : Int32) (this_lacks : Nat) (this_alikes : Nat) (this_g : Int64) (q1 : Int32) (R0 : Int32) (hm : m_X12_nameAt this_value_f this_at this_names_f this_readNames_f this_namesMany this_readMany q1 = some R0) : CR l D (TY k) yX12_nameAt cX12_nameAt 3 (some .int) 0 0 [.ref this, .int q1] (wd_X12_nameAt k this this_thrown this_tape this_taped this_size this_sort this_place this_value this_value_f this_at this_fault this_words this_towns this_op this_arg this_codes this_names this_names_f this_readNames this_readNames_f this_namesMany this_readMany this_once this_lines this_facts this_pile this_state this_undos this_isMarked this_weight this_rounding this_lacks this_alikes this_g) (some (.int R0)) := by
  refine CR.mk (by decide) (Nat.le_of_ble_eq_true rfl) ?_
  intro p e s m args below meth c ls ⟨hx, hb, hr, hts, hown, hlocks, hml⟩ hP hG hl
  have hl : lv_has ls 3 [(0, .ref this), (1, .int q1)] := hl
  have h_40 : ∀ (K2 : Int32 → Option (Int32)) (hK2 : ∀ (x2 : Int32) (ls : Array Slot), lv_has ls 3 [(0, .ref this), (1, .int q1), (2, .int x2)] → K2 x2 = some R0 → W p l e (Rm 0 0) s m args below meth c s.heap [] 0 0 (MQ below (QR (some (.int R0))) args s 0 0 (fun _ => False)) (F0 m 2 ls [])), ∀ (x2 : Int32) (t0 : Int64) (ls : Array Slot), lv_has ls 3 [(0, .ref this), (1, .int q1), (2, .int x2)] → m_X12_nameAt_40 this_value_f this_at this_names_f this_readNames_f this_namesMany this_readMany q1 K2 x2 t0 = some R0 → W p l e (Rm 0 0) s m args below meth c s.heap [] 0 0 (MQ below (QR (some (.int R0))) args s 0 0 (fun _ => False)) (F0 m 40 ls [.long t0]) := by
    intro K2 hK2 x2 t0 ls hl hm
    unfold m_X12_nameAt_40 at hm
    refine lv_aload_n (pc := 40) hx hb dX12_nameAt_40 rfl (lv_at hl 0 rfl) ?_
    refine va_get (pc := 41) (D := D) (ci := 10) (C := RX12) (T := TX12) (N := 30) hx hb hts hiX12 hown hG.1 hP 0 rfl rfl 6 (Nat.le_of_ble_eq_true rfl) (hts _ kw_1263) (fun _ h9 => h9) rfl dX12_nameAt_41 ?_
    refine lv_aload_n (pc := 44) hx hb dX12_nameAt_44 rfl (lv_at hl 0 rfl) ?_
    refine va_get (pc := 45) (D := D) (ci := 10) (C := RX12) (T := TX12) (N := 30) hx hb hts hiX12 hown hG.1 hP 0 rfl rfl 7 (Nat.le_of_ble_eq_true rfl) (hts _ kw_1264) (fun _ h9 => h9) rfl dX12_nameAt_45 ?_
    obtain ⟨hin, hm⟩ := gd hm
    refine va_lald (pc := 48) (D := D) hx hb hG.1 hP 1 1 rfl rfl hin dX12_nameAt_48 ?_
    refine W.lcmp (pc := 49) hx hb dX12_nameAt_49 ?_
    refine lv_if_ne (tgt := 55) (pc := 50) hx hb dX12_nameAt_50 (by decide) (fun hc => ?_) (fun hc => ?_)
    · rw [if_neg hc] at hm
      refine lv_iinc (k := 2) (v := x2 + 1) (lv' := [(2, .int (x2 + 1)), (0, .ref this), (1, .int q1)]) (pc := 55) hx hb dX12_nameAt_55 hl rfl rfl (Nat.le_of_ble_eq_true rfl) rfl (fun ls hl => ?_)
      refine lv_goto (tgt := 2) (pc := 58) hx hb dX12_nameAt_58 (by decide) ?_
      exact hK2 (x2 + 1) ls (lv_sub hl [1, 2, 0] rfl) hm
    · rw [if_pos hc] at hm
      refine lv_iload_n (pc := 53) hx hb dX12_nameAt_53 rfl (lv_at hl 2 rfl) ?_
      rw [← Option.some.inj hm]
      exact W.iret hx hb hr (fun t ht _ => ⟨rfl, ht⟩) (fun _ h => by cases h) dX12_nameAt_54 hlocks
  have h_18 : ∀ (K2 : Int32 → Option (Int32)) (hK2 : ∀ (x2 : Int32) (ls : Array Slot), lv_has ls 3 [(0, .ref this), (1, .int q1), (2, .int x2)] → K2 x2 = some R0 → W p l e (Rm 0 0) s m args below meth c s.heap [] 0 0 (MQ below (QR (some (.int R0))) args s 0 0 (fun _ => False)) (F0 m 2 ls [])), ∀ (x2 : Int32) (t0 : Int32) (t1 : Int32) (ls : Array Slot), lv_has ls 3 [(0, .ref this), (1, .int q1), (2, .int x2)] → m_X12_nameAt_18 this_value_f this_at this_names_f this_readNames_f this_namesMany this_readMany q1 K2 x2 t0 t1 = some R0 → W p l e (Rm 0 0) s m args below meth c s.heap [] 0 0 (MQ below (QR (some (.int R0))) args s 0 0 (fun _ => False)) (F0 m 18 ls [.int t0, .int t1]) := by
    intro K2 hK2 x2 t0 t1 ls hl hm
    unfold m_X12_nameAt_18 at hm
    refine lv_icmp_ge (tgt := 61) (pc := 18) hx hb dX12_nameAt_18 (by decide) (fun hc => ?_) (fun hc => ?_)
    · rw [if_pos hc] at hm
      refine lv_iconst (v := (-1)) (pc := 61) hx hb dX12_nameAt_61 (by decide) ?_
      rw [← Option.some.inj hm]
      exact W.iret hx hb hr (fun t ht _ => ⟨rfl, ht⟩) (fun _ h => by cases h) dX12_nameAt_62 hlocks
    · rw [if_neg hc] at hm
      refine lv_iload_n (pc := 21) hx hb dX12_nameAt_21 rfl (lv_at hl 1 rfl) ?_
      refine lv_if_eq (tgt := 34) (pc := 22) hx hb dX12_nameAt_22 (by decide) (fun hc => ?_) (fun hc => ?_)
      · rw [if_pos hc] at hm
        refine lv_aload_n (pc := 34) hx hb dX12_nameAt_34 rfl (lv_at hl 0 rfl) ?_
        refine va_get (pc := 35) (D := D) (ci := 10) (C := RX12) (T := TX12) (N := 30) hx hb hts hiX12 hown hG.1 hP 0 rfl rfl 14 (Nat.le_of_ble_eq_true rfl) (hts _ kw_1271) (fun _ h9 => h9) rfl dX12_nameAt_35 ?_
        refine lv_iload_n (pc := 38) hx hb dX12_nameAt_38 rfl (lv_at hl 2 rfl) ?_
        obtain ⟨hin, hm⟩ := gd hm
        refine va_lald (pc := 39) (D := D) hx hb hG.1 hP 2 1 rfl rfl hin dX12_nameAt_39 ?_
        exact h_40 K2 hK2 x2 (this_names_f x2.toNatClampNeg) ls (lv_sub hl [0, 1, 2] rfl) hm
      · rw [if_neg hc] at hm
        refine lv_aload_n (pc := 25) hx hb dX12_nameAt_25 rfl (lv_at hl 0 rfl) ?_
        refine va_get (pc := 26) (D := D) (ci := 10) (C := RX12) (T := TX12) (N := 30) hx hb hts hiX12 hown hG.1 hP 0 rfl rfl 15 (Nat.le_of_ble_eq_true rfl) (hts _ kw_1272) (fun _ h9 => h9) rfl dX12_nameAt_26 ?_
        refine lv_iload_n (pc := 29) hx hb dX12_nameAt_29 rfl (lv_at hl 2 rfl) ?_
        obtain ⟨hin, hm⟩ := gd hm
        refine va_lald (pc := 30) (D := D) hx hb hG.1 hP 3 1 rfl rfl hin dX12_nameAt_30 ?_
        refine lv_goto (tgt := 40) (pc := 31) hx hb dX12_nameAt_31 (by decide) ?_
        exact h_40 K2 hK2 x2 (this_readNames_f x2.toNatClampNeg) ls (lv_sub hl [0, 1, 2] rfl) hm
  have h_2 : ∀ (n : Nat), ∀ (x2 : Int32) (ls : Array Slot), lv_has ls 3 [(0, .ref this), (1, .int q1), (2, .int x2)] → m_X12_nameAt_2 this_value_f this_at this_names_f this_readNames_f this_namesMany this_readMany q1 n x2 = some R0 → W p l e (Rm 0 0) s m args below meth c s.heap [] 0 0 (MQ below (QR (some (.int R0))) args s 0 0 (fun _ => False)) (F0 m 2 ls []) := by
    intro n
    induction n with
    | zero => intro x2 ls hl hm; cases hm
    | succ n ih =>
      intro x2 ls hl hm
      unfold m_X12_nameAt_2 at hm
      refine lv_iload_n (pc := 2) hx hb dX12_nameAt_2 rfl (lv_at hl 2 rfl) ?_
      refine lv_iload_n (pc := 3) hx hb dX12_nameAt_3 rfl (lv_at hl 1 rfl) ?_
      refine lv_if_eq (tgt := 14) (pc := 4) hx hb dX12_nameAt_4 (by decide) (fun hc => ?_) (fun hc => ?_)
      · rw [if_pos hc] at hm
        refine lv_aload_n (pc := 14) hx hb dX12_nameAt_14 rfl (lv_at hl 0 rfl) ?_
        refine va_get (pc := 15) (D := D) (ci := 10) (C := RX12) (T := TX12) (N := 30) hx hb hts hiX12 hown hG.1 hP 0 rfl rfl 16 (Nat.le_of_ble_eq_true rfl) (hts _ kw_1273) (fun _ h9 => h9) rfl dX12_nameAt_15 ?_
        exact h_18 (m_X12_nameAt_2 this_value_f this_at this_names_f this_readNames_f this_namesMany this_readMany q1 n) ih x2 this_namesMany x2 ls (lv_sub hl [0, 1, 2] rfl) hm
      · rw [if_neg hc] at hm
        refine lv_aload_n (pc := 7) hx hb dX12_nameAt_7 rfl (lv_at hl 0 rfl) ?_
        refine va_get (pc := 8) (D := D) (ci := 10) (C := RX12) (T := TX12) (N := 30) hx hb hts hiX12 hown hG.1 hP 0 rfl rfl 17 (Nat.le_of_ble_eq_true rfl) (hts _ kw_1274) (fun _ h9 => h9) rfl dX12_nameAt_8 ?_
        refine lv_goto (tgt := 18) (pc := 11) hx hb dX12_nameAt_11 (by decide) ?_
        exact h_18 (m_X12_nameAt_2 this_value_f this_at this_names_f this_readNames_f this_namesMany this_readMany q1 n) ih x2 this_readMany x2 ls (lv_sub hl [0, 1, 2] rfl) hm
  unfold m_X12_nameAt at hm
  refine lv_iconst (v := 0) (pc := 0) hx hb dX12_nameAt_0 (by decide) ?_
  refine lv_istore_n (lv' := [(2, .int 0), (0, .ref this), (1, .int q1)]) (pc := 1) hx hb dX12_nameAt_1 rfl hl (Nat.le_of_ble_eq_true rfl) rfl (fun ls hl => ?_)
  exact h_2 FU 0 ls (lv_sub hl [1, 2, 0] rfl) hm
