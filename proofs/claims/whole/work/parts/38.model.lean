theorem dX12_measure_0 : decode cX12_measure 0 = .ok (.aload_n 0, 1) := by decide +kernel
theorem dX12_measure_1 : decode cX12_measure 1 = .ok (.iconst 0, 1) := by decide +kernel
theorem dX12_measure_2 : decode cX12_measure 2 = .ok (.putfield 1, 3) := by decide +kernel
theorem dX12_measure_5 : decode cX12_measure 5 = .ok (.iload_n 1, 1) := by decide +kernel
theorem dX12_measure_6 : decode cX12_measure 6 = .ok (.iconst 0, 1) := by decide +kernel
theorem dX12_measure_7 : decode cX12_measure 7 = .ok (.bipush 20, 2) := by decide +kernel
theorem dX12_measure_9 : decode cX12_measure 9 = .ok (.invokestatic 306, 3) := by decide +kernel
theorem dX12_measure_12 : decode cX12_measure 12 = .ok (.ifCond .eq 25, 3) := by decide +kernel
theorem dX12_measure_15 : decode cX12_measure 15 = .ok (.iload_n 2, 1) := by decide +kernel
theorem dX12_measure_16 : decode cX12_measure 16 = .ok (.iconst 0, 1) := by decide +kernel
theorem dX12_measure_17 : decode cX12_measure 17 = .ok (.bipush 99, 2) := by decide +kernel
theorem dX12_measure_19 : decode cX12_measure 19 = .ok (.invokestatic 306, 3) := by decide +kernel
theorem dX12_measure_22 : decode cX12_measure 22 = .ok (.ifCond .eq 15, 3) := by decide +kernel
theorem dX12_measure_25 : decode cX12_measure 25 = .ok (.aload_n 0, 1) := by decide +kernel
theorem dX12_measure_26 : decode cX12_measure 26 = .ok (.getfield 113, 3) := by decide +kernel
theorem dX12_measure_29 : decode cX12_measure 29 = .ok (.bipush 30, 2) := by decide +kernel
theorem dX12_measure_31 : decode cX12_measure 31 = .ok (.iaload, 1) := by decide +kernel
theorem dX12_measure_32 : decode cX12_measure 32 = .ok (.bipush 8, 2) := by decide +kernel
theorem dX12_measure_34 : decode cX12_measure 34 = .ok (.if_icmp .ne 5, 3) := by decide +kernel
theorem dX12_measure_37 : decode cX12_measure 37 = .ok (.iconst 0, 1) := by decide +kernel
theorem dX12_measure_38 : decode cX12_measure 38 = .ok (.ireturn, 1) := by decide +kernel
theorem dX12_measure_39 : decode cX12_measure 39 = .ok (.bipush 31, 2) := by decide +kernel
theorem dX12_measure_41 : decode cX12_measure 41 = .ok (.iconst 2, 1) := by decide +kernel
theorem dX12_measure_42 : decode cX12_measure 42 = .ok (.aload_n 0, 1) := by decide +kernel
theorem dX12_measure_43 : decode cX12_measure 43 = .ok (.getfield 113, 3) := by decide +kernel
theorem dX12_measure_46 : decode cX12_measure 46 = .ok (.bipush 30, 2) := by decide +kernel
theorem dX12_measure_48 : decode cX12_measure 48 = .ok (.iaload, 1) := by decide +kernel
theorem dX12_measure_49 : decode cX12_measure 49 = .ok (.imul, 1) := by decide +kernel
theorem dX12_measure_50 : decode cX12_measure 50 = .ok (.iadd, 1) := by decide +kernel
theorem dX12_measure_51 : decode cX12_measure 51 = .ok (.istore_n 3, 1) := by decide +kernel
theorem dX12_measure_52 : decode cX12_measure 52 = .ok (.aload_n 0, 1) := by decide +kernel
theorem dX12_measure_53 : decode cX12_measure 53 = .ok (.getfield 113, 3) := by decide +kernel
theorem dX12_measure_56 : decode cX12_measure 56 = .ok (.iload_n 3, 1) := by decide +kernel
theorem dX12_measure_57 : decode cX12_measure 57 = .ok (.iload_n 1, 1) := by decide +kernel
theorem dX12_measure_58 : decode cX12_measure 58 = .ok (.iastore, 1) := by decide +kernel
theorem dX12_measure_59 : decode cX12_measure 59 = .ok (.aload_n 0, 1) := by decide +kernel
theorem dX12_measure_60 : decode cX12_measure 60 = .ok (.getfield 113, 3) := by decide +kernel
theorem dX12_measure_63 : decode cX12_measure 63 = .ok (.iload_n 3, 1) := by decide +kernel
theorem dX12_measure_64 : decode cX12_measure 64 = .ok (.iconst 1, 1) := by decide +kernel
theorem dX12_measure_65 : decode cX12_measure 65 = .ok (.iadd, 1) := by decide +kernel
theorem dX12_measure_66 : decode cX12_measure 66 = .ok (.iload_n 2, 1) := by decide +kernel
theorem dX12_measure_67 : decode cX12_measure 67 = .ok (.iastore, 1) := by decide +kernel
theorem dX12_measure_68 : decode cX12_measure 68 = .ok (.aload_n 0, 1) := by decide +kernel
theorem dX12_measure_69 : decode cX12_measure 69 = .ok (.getfield 113, 3) := by decide +kernel
theorem dX12_measure_72 : decode cX12_measure 72 = .ok (.bipush 30, 2) := by decide +kernel
theorem dX12_measure_74 : decode cX12_measure 74 = .ok (.dup2, 1) := by decide +kernel
theorem dX12_measure_75 : decode cX12_measure 75 = .ok (.iaload, 1) := by decide +kernel
theorem dX12_measure_76 : decode cX12_measure 76 = .ok (.iconst 1, 1) := by decide +kernel
theorem dX12_measure_77 : decode cX12_measure 77 = .ok (.iadd, 1) := by decide +kernel
theorem dX12_measure_78 : decode cX12_measure 78 = .ok (.iastore, 1) := by decide +kernel
theorem dX12_measure_79 : decode cX12_measure 79 = .ok (.iconst 1, 1) := by decide +kernel
theorem dX12_measure_80 : decode cX12_measure 80 = .ok (.ireturn, 1) := by decide +kernel
abbrev wd_X12_measure (k : Nat → ClassId) (this : Nat) (this_thrown : Int32) (this_tape : Nat) (this_taped : Int32) (this_size : Int32) (this_sort : Nat) (this_place : Nat) (this_value : Nat) (this_at : Int32) (this_fault : Int32) (this_words : Nat) (this_towns : Nat) (this_op : Nat) (this_arg : Nat) (this_codes : Int32) (this_names : Nat) (this_readNames : Nat) (this_namesMany : Int32) (this_readMany : Int32) (this_once : Int32) (this_lines : Nat) (this_facts : Nat) (this_pile : Nat) (this_state : Nat) (this_state_f : Nat → Int32) (this_undos : Int32) (this_isMarked : Nat) (this_weight : Int32) (this_rounding : Int32) (this_lacks : Nat) (this_alikes : Nat) (this_g : Int64) : va_W := [(this, .inr (10, [.int this_thrown, .ref this_tape, .int this_taped, .int this_size, .ref this_sort, .ref this_place, .ref this_value, .int this_at, .int this_fault, .ref this_words, .ref this_towns, .ref this_op, .ref this_arg, .int this_codes, .ref this_names, .ref this_readNames, .int this_namesMany, .int this_readMany, .int this_once, .ref this_lines, .ref this_facts, .ref this_pile, .ref this_state, .int this_undos, .ref this_isMarked, .int this_weight, .int this_rounding, .ref this_lacks, .ref this_alikes, .long this_g])), (this_state, .inl (k 0, 1104, .inl this_state_f))]
set_option maxHeartbeats 4000000 in
set_option maxRecDepth 100000 in
theorem c_X12_measure (l : Launch) (D : va_G) (k : Nat → ClassId) (this : Nat) (this_thrown : Int32) (this_tape : Nat) (this_taped : Int32) (this_size : Int32) (this_sort : Nat) (this_place : Nat) (this_value : Nat) (this_at : Int32) (this_fault : Int32) (this_words : Nat) (this_towns : Nat) (this_op : Nat) (this_arg : Nat) (this_codes : Int32) (this_names : Nat) (this_readNames : Nat) (this_namesMany : Int32) (this_readMany : Int32) (this_once : Int32) (this_lines : Nat) (this_facts : Nat) (this_pile : Nat) (this_state : Nat) (this_state_f : Nat → Int32) (this_undos : Int32) (this_isMarked : Nat) (this_weight : Int32) (this_rounding : Int32) (this_lacks : Nat) (this_alikes : Nat) (this_g : Int64) (q1 : Int32) (q2 : Int32) (R0 : Int32 × Int32 × (Nat → Int32)) (hm : m_X12_measure this_state_f q1 q2 = some R0) : CW l D (TY k) yX12_measure cX12_measure 4 (some .boolean) 1 22 [.ref this, .int q1, .int q2] (wd_X12_measure k this this_thrown this_tape this_taped this_size this_sort this_place this_value this_at this_fault this_words this_towns this_op this_arg this_codes this_names this_readNames this_namesMany this_readMany this_once this_lines this_facts this_pile this_state this_state_f this_undos this_isMarked this_weight this_rounding this_lacks this_alikes this_g) (some (.int R0.1)) (wd_X12_measure k this R0.2.1 this_tape this_taped this_size this_sort this_place this_value this_at this_fault this_words this_towns this_op this_arg this_codes this_names this_readNames this_namesMany this_readMany this_once this_lines this_facts this_pile this_state R0.2.2 this_undos this_isMarked this_weight this_rounding this_lacks this_alikes this_g) := by
  refine CW.mk (by decide) (Nat.le_of_ble_eq_true rfl) ?_
  intro p e s m args below meth c ls A ⟨hx, hb, hr, hts, hown, hlocks, hml⟩ hP hG hD hA hl hS hq
  have hl : lv_has ls 4 [(0, .ref this), (1, .int q1), (2, .int q2)] := hl
  unfold m_X12_measure at hm
  suffices hgo : ∀ (H : Heap) (locs : List Loc), va_P D vwCl (wd_X12_measure k this this_thrown this_tape this_taped this_size this_sort this_place this_value this_at this_fault this_words this_towns this_op this_arg this_codes this_names this_readNames this_namesMany this_readMany this_once this_lines this_facts this_pile this_state this_state_f this_undos this_isMarked this_weight this_rounding this_lacks this_alikes this_g) H → va_D A (wd_X12_measure k this this_thrown this_tape this_taped this_size this_sort this_place this_value this_at this_fault this_words this_towns this_op this_arg this_codes this_names this_readNames this_namesMany this_readMany this_once this_lines this_facts this_pile this_state this_state_f this_undos this_isMarked this_weight this_rounding this_lacks this_alikes this_g) → va_S A s.heap H locs → W p l e (Rm 1 22) s m args below meth c H locs 0 0 (MQ below (QW D (some (.int R0.1)) (wd_X12_measure k this this_thrown this_tape this_taped this_size this_sort this_place this_value this_at this_fault this_words this_towns this_op this_arg this_codes this_names this_readNames this_namesMany this_readMany this_once this_lines this_facts this_pile this_state this_state_f this_undos this_isMarked this_weight this_rounding this_lacks this_alikes this_g) (wd_X12_measure k this R0.2.1 this_tape this_taped this_size this_sort this_place this_value this_at this_fault this_words this_towns this_op this_arg this_codes this_names this_readNames this_namesMany this_readMany this_once this_lines this_facts this_pile this_state R0.2.2 this_undos this_isMarked this_weight this_rounding this_lacks this_alikes this_g) s.heap.size) args s 0 0 A) (F0 m 0 ls []) from hgo _ _ hP hD hS
  clear hP hD hS
  intro H locs hP hD hS
  refine lv_aload_n (pc := 0) hx hb dX12_measure_0 rfl (lv_at hl 0 rfl) ?_
  refine lv_iconst (v := 0) (pc := 1) hx hb dX12_measure_1 (by decide) ?_
  refine va_put (pc := 2) (D := D) (ci := 10) (v := .int 0) (ty := .int) (C := RX12) (T := TX12) (N := 30) hx hb hts hiX12 tyX12 tyX12_ok nmX12 hown hG.1 hP hD hS 0 rfl rfl 0 (Nat.le_of_ble_eq_true rfl) (hts _ kw_1257) (fun _ h9 => h9) rfl (by decide +kernel) rfl rfl (Nat.le_of_ble_eq_true rfl) dX12_measure_2 (fun H locs hP hD hS => ?_)
  have hP : va_P D vwCl (wd_X12_measure k this 0 this_tape this_taped this_size this_sort this_place this_value this_at this_fault this_words this_towns this_op this_arg this_codes this_names this_readNames this_namesMany this_readMany this_once this_lines this_facts this_pile this_state this_state_f this_undos this_isMarked this_weight this_rounding this_lacks this_alikes this_g) H := hP
  have hD : va_D A (wd_X12_measure k this 0 this_tape this_taped this_size this_sort this_place this_value this_at this_fault this_words this_towns this_op this_arg this_codes this_names this_readNames this_namesMany this_readMany this_once this_lines this_facts this_pile this_state this_state_f this_undos this_isMarked this_weight this_rounding this_lacks this_alikes this_g) := hD
  refine lv_iload_n (pc := 5) hx hb dX12_measure_5 rfl (lv_at hl 1 rfl) ?_
  refine lv_iconst (v := 0) (pc := 6) hx hb dX12_measure_6 (by decide) ?_
  refine lv_bipush (v := 20) (pc := 7) hx hb dX12_measure_7 (by decide) ?_
  obtain ⟨r4, hcl, hm⟩ := bd hm
  refine cr_back (run_S (pc := 9) (n := 3) (As := [.int q1, .int 0, .int 20]) (rest := []) ⟨hx, hb, hml, hown, hts⟩ (c_X12_within l D k q1 0 20 r4 hcl) ⟨kw_1501, kw_16, by decide +kernel⟩ kw_1499 kw_1500 ⟨Nat.le_of_ble_eq_true rfl, Nat.le_of_ble_eq_true rfl⟩ pr_blind (prR (hP.sub [] rfl) hG) rfl hl.1 rfl (Nat.le_of_ble_eq_true rfl) dX12_measure_9 ⟨Nat.zero_le _, Nat.zero_le _⟩) ?_
  refine lv_if_eq (tgt := 37) (pc := 12) hx hb dX12_measure_12 (by decide) (fun hc => ?_) (fun hc => ?_)
  · rw [if_pos hc] at hm
    refine lv_iconst (v := 0) (pc := 37) hx hb dX12_measure_37 (by decide) ?_
    rw [← Option.some.inj hm]
    exact W.zret hx hb hr (nar_bool (Or.inl rfl)) (fun t ht _ => hq _ _ H t ht hP hD locs hS) hS.2.2 dX12_measure_38 hlocks
  · rw [if_neg hc] at hm
    refine lv_iload_n (pc := 15) hx hb dX12_measure_15 rfl (lv_at hl 2 rfl) ?_
    refine lv_iconst (v := 0) (pc := 16) hx hb dX12_measure_16 (by decide) ?_
    refine lv_bipush (v := 99) (pc := 17) hx hb dX12_measure_17 (by decide) ?_
    obtain ⟨r5, hcl, hm⟩ := bd hm
    refine cr_back (run_S (pc := 19) (n := 3) (As := [.int q2, .int 0, .int 99]) (rest := []) ⟨hx, hb, hml, hown, hts⟩ (c_X12_within l D k q2 0 99 r5 hcl) ⟨kw_1501, kw_16, by decide +kernel⟩ kw_1499 kw_1500 ⟨Nat.le_of_ble_eq_true rfl, Nat.le_of_ble_eq_true rfl⟩ pr_blind (prR (hP.sub [] rfl) hG) rfl hl.1 rfl (Nat.le_of_ble_eq_true rfl) dX12_measure_19 ⟨Nat.zero_le _, Nat.zero_le _⟩) ?_
    refine lv_if_eq (tgt := 37) (pc := 22) hx hb dX12_measure_22 (by decide) (fun hc => ?_) (fun hc => ?_)
    · rw [if_pos hc] at hm
      refine lv_iconst (v := 0) (pc := 37) hx hb dX12_measure_37 (by decide) ?_
      rw [← Option.some.inj hm]
      exact W.zret hx hb hr (nar_bool (Or.inl rfl)) (fun t ht _ => hq _ _ H t ht hP hD locs hS) hS.2.2 dX12_measure_38 hlocks
    · rw [if_neg hc] at hm
      refine lv_aload_n (pc := 25) hx hb dX12_measure_25 rfl (lv_at hl 0 rfl) ?_
      refine va_get (pc := 26) (D := D) (ci := 10) (C := RX12) (T := TX12) (N := 30) hx hb hts hiX12 hown hG.1 hP 0 rfl rfl 22 (Nat.le_of_ble_eq_true rfl) (hts _ kw_1279) (fun _ h9 => h9) rfl dX12_measure_26 ?_
      refine lv_bipush (v := 30) (pc := 29) hx hb dX12_measure_29 (by decide) ?_
      refine va_iald (pc := 31) (D := D) hx hb hG.1 hP 1 0 rfl rfl (pn_in (Nat.le_of_ble_eq_true rfl) (Nat.le_of_ble_eq_true rfl)) dX12_measure_31 ?_
      refine lv_bipush (v := 8) (pc := 32) hx hb dX12_measure_32 (by decide) ?_
      refine lv_icmp_ne (tgt := 39) (pc := 34) hx hb dX12_measure_34 (by decide) (fun hc => ?_) (fun hc => ?_)
      · rw [if_neg hc] at hm
        refine lv_bipush (v := 31) (pc := 39) hx hb dX12_measure_39 (by decide) ?_
        refine lv_iconst (v := 2) (pc := 41) hx hb dX12_measure_41 (by decide) ?_
        refine lv_aload_n (pc := 42) hx hb dX12_measure_42 rfl (lv_at hl 0 rfl) ?_
        refine va_get (pc := 43) (D := D) (ci := 10) (C := RX12) (T := TX12) (N := 30) hx hb hts hiX12 hown hG.1 hP 0 rfl rfl 22 (Nat.le_of_ble_eq_true rfl) (hts _ kw_1279) (fun _ h9 => h9) rfl dX12_measure_43 ?_
        refine lv_bipush (v := 30) (pc := 46) hx hb dX12_measure_46 (by decide) ?_
        refine va_iald (pc := 48) (D := D) hx hb hG.1 hP 1 0 rfl rfl (pn_in (Nat.le_of_ble_eq_true rfl) (Nat.le_of_ble_eq_true rfl)) dX12_measure_48 ?_
        refine lv_imul (pc := 49) hx hb dX12_measure_49 ?_
        refine lv_iadd (pc := 50) hx hb dX12_measure_50 ?_
        obtain ⟨z6, hv, hm⟩ := bd hm
        refine lv_topi (fun w ew => ?_)
        obtain rfl : z6 = w := (Option.some.inj hv).symm.trans ew.symm
        refine lv_istore_n (lv' := [(3, .int z6), (0, .ref this), (1, .int q1), (2, .int q2)]) (pc := 51) hx hb dX12_measure_51 rfl hl (Nat.le_of_ble_eq_true rfl) rfl (fun ls hl => ?_)
        refine lv_aload_n (pc := 52) hx hb dX12_measure_52 rfl (lv_at hl 1 rfl) ?_
        refine va_get (pc := 53) (D := D) (ci := 10) (C := RX12) (T := TX12) (N := 30) hx hb hts hiX12 hown hG.1 hP 0 rfl rfl 22 (Nat.le_of_ble_eq_true rfl) (hts _ kw_1279) (fun _ h9 => h9) rfl dX12_measure_53 ?_
        refine lv_iload_n (pc := 56) hx hb dX12_measure_56 rfl (lv_at hl 0 rfl) ?_
        refine lv_iload_n (pc := 57) hx hb dX12_measure_57 rfl (lv_at hl 2 rfl) ?_
        obtain ⟨hin, hm⟩ := gd hm
        refine va_iast (pc := 58) (D := D) hx hb hG.1 hP hD hS 1 0 rfl rfl hin dX12_measure_58 (fun H locs hP hD hS => ?_)
        have hP : va_P D vwCl (wd_X12_measure k this 0 this_tape this_taped this_size this_sort this_place this_value this_at this_fault this_words this_towns this_op this_arg this_codes this_names this_readNames this_namesMany this_readMany this_once this_lines this_facts this_pile this_state (upd this_state_f z6.toNatClampNeg q1) this_undos this_isMarked this_weight this_rounding this_lacks this_alikes this_g) H := hP
        have hD : va_D A (wd_X12_measure k this 0 this_tape this_taped this_size this_sort this_place this_value this_at this_fault this_words this_towns this_op this_arg this_codes this_names this_readNames this_namesMany this_readMany this_once this_lines this_facts this_pile this_state (upd this_state_f z6.toNatClampNeg q1) this_undos this_isMarked this_weight this_rounding this_lacks this_alikes this_g) := hD
        refine lv_aload_n (pc := 59) hx hb dX12_measure_59 rfl (lv_at hl 1 rfl) ?_
        refine va_get (pc := 60) (D := D) (ci := 10) (C := RX12) (T := TX12) (N := 30) hx hb hts hiX12 hown hG.1 hP 0 rfl rfl 22 (Nat.le_of_ble_eq_true rfl) (hts _ kw_1279) (fun _ h9 => h9) rfl dX12_measure_60 ?_
        refine lv_iload_n (pc := 63) hx hb dX12_measure_63 rfl (lv_at hl 0 rfl) ?_
        refine lv_iconst (v := 1) (pc := 64) hx hb dX12_measure_64 (by decide) ?_
        refine lv_iadd (pc := 65) hx hb dX12_measure_65 ?_
        refine lv_iload_n (pc := 66) hx hb dX12_measure_66 rfl (lv_at hl 3 rfl) ?_
        obtain ⟨hin, hm⟩ := gd hm
        refine va_iast (pc := 67) (D := D) hx hb hG.1 hP hD hS 1 0 rfl rfl hin dX12_measure_67 (fun H locs hP hD hS => ?_)
        have hP : va_P D vwCl (wd_X12_measure k this 0 this_tape this_taped this_size this_sort this_place this_value this_at this_fault this_words this_towns this_op this_arg this_codes this_names this_readNames this_namesMany this_readMany this_once this_lines this_facts this_pile this_state (upd (upd this_state_f z6.toNatClampNeg q1) (z6 + 1).toNatClampNeg q2) this_undos this_isMarked this_weight this_rounding this_lacks this_alikes this_g) H := hP
        have hD : va_D A (wd_X12_measure k this 0 this_tape this_taped this_size this_sort this_place this_value this_at this_fault this_words this_towns this_op this_arg this_codes this_names this_readNames this_namesMany this_readMany this_once this_lines this_facts this_pile this_state (upd (upd this_state_f z6.toNatClampNeg q1) (z6 + 1).toNatClampNeg q2) this_undos this_isMarked this_weight this_rounding this_lacks this_alikes this_g) := hD
        refine lv_aload_n (pc := 68) hx hb dX12_measure_68 rfl (lv_at hl 1 rfl) ?_
        refine va_get (pc := 69) (D := D) (ci := 10) (C := RX12) (T := TX12) (N := 30) hx hb hts hiX12 hown hG.1 hP 0 rfl rfl 22 (Nat.le_of_ble_eq_true rfl) (hts _ kw_1279) (fun _ h9 => h9) rfl dX12_measure_69 ?_
        refine lv_bipush (v := 30) (pc := 72) hx hb dX12_measure_72 (by decide) ?_
        refine lv_dup2_11 (pc := 74) hx hb dX12_measure_74 rfl rfl ?_
        refine va_iald (pc := 75) (D := D) hx hb hG.1 hP 1 0 rfl rfl (pn_in (Nat.le_of_ble_eq_true rfl) (Nat.le_of_ble_eq_true rfl)) dX12_measure_75 ?_
        refine lv_iconst (v := 1) (pc := 76) hx hb dX12_measure_76 (by decide) ?_
        refine lv_iadd (pc := 77) hx hb dX12_measure_77 ?_
        refine va_iast (pc := 78) (D := D) hx hb hG.1 hP hD hS 1 0 rfl rfl (pn_in (Nat.le_of_ble_eq_true rfl) (Nat.le_of_ble_eq_true rfl)) dX12_measure_78 (fun H locs hP hD hS => ?_)
        have hP : va_P D vwCl (wd_X12_measure k this 0 this_tape this_taped this_size this_sort this_place this_value this_at this_fault this_words this_towns this_op this_arg this_codes this_names this_readNames this_namesMany this_readMany this_once this_lines this_facts this_pile this_state (upd (upd (upd this_state_f z6.toNatClampNeg q1) (z6 + 1).toNatClampNeg q2) (30 : Int32).toNatClampNeg (((upd (upd this_state_f z6.toNatClampNeg q1) (z6 + 1).toNatClampNeg q2) (30 : Int32).toNatClampNeg) + 1)) this_undos this_isMarked this_weight this_rounding this_lacks this_alikes this_g) H := hP
        have hD : va_D A (wd_X12_measure k this 0 this_tape this_taped this_size this_sort this_place this_value this_at this_fault this_words this_towns this_op this_arg this_codes this_names this_readNames this_namesMany this_readMany this_once this_lines this_facts this_pile this_state (upd (upd (upd this_state_f z6.toNatClampNeg q1) (z6 + 1).toNatClampNeg q2) (30 : Int32).toNatClampNeg (((upd (upd this_state_f z6.toNatClampNeg q1) (z6 + 1).toNatClampNeg q2) (30 : Int32).toNatClampNeg) + 1)) this_undos this_isMarked this_weight this_rounding this_lacks this_alikes this_g) := hD
        refine lv_iconst (v := 1) (pc := 79) hx hb dX12_measure_79 (by decide) ?_
        rw [← Option.some.inj hm]
        exact W.zret hx hb hr (nar_bool (Or.inr rfl)) (fun t ht _ => hq _ _ H t ht hP hD locs hS) hS.2.2 dX12_measure_80 hlocks
      · rw [if_pos hc] at hm
        refine lv_iconst (v := 0) (pc := 37) hx hb dX12_measure_37 (by decide) ?_
        rw [← Option.some.inj hm]
        exact W.zret hx hb hr (nar_bool (Or.inl rfl)) (fun t ht _ => hq _ _ H t ht hP hD locs hS) hS.2.2 dX12_measure_38 hlocks
theorem dX12_isMeasured_0 : decode cX12_isMeasured 0 = .ok (.aload_n 0, 1) := by decide +kernel
theorem dX12_isMeasured_1 : decode cX12_isMeasured 1 = .ok (.iload_n 1, 1) := by decide +kernel
theorem dX12_isMeasured_2 : decode cX12_isMeasured 2 = .ok (.putfield 271, 3) := by decide +kernel
theorem dX12_isMeasured_5 : decode cX12_isMeasured 5 = .ok (.aload_n 0, 1) := by decide +kernel
theorem dX12_isMeasured_6 : decode cX12_isMeasured 6 = .ok (.iload_n 2, 1) := by decide +kernel
theorem dX12_isMeasured_7 : decode cX12_isMeasured 7 = .ok (.putfield 274, 3) := by decide +kernel
theorem dX12_isMeasured_10 : decode cX12_isMeasured 10 = .ok (.iconst 1, 1) := by decide +kernel
theorem dX12_isMeasured_11 : decode cX12_isMeasured 11 = .ok (.istore_n 3, 1) := by decide +kernel
theorem dX12_isMeasured_12 : decode cX12_isMeasured 12 = .ok (.iconst 0, 1) := by decide +kernel
theorem dX12_isMeasured_13 : decode cX12_isMeasured 13 = .ok (.istore 4, 2) := by decide +kernel
theorem dX12_isMeasured_15 : decode cX12_isMeasured 15 = .ok (.iload 4, 2) := by decide +kernel
theorem dX12_isMeasured_17 : decode cX12_isMeasured 17 = .ok (.aload_n 0, 1) := by decide +kernel
theorem dX12_isMeasured_18 : decode cX12_isMeasured 18 = .ok (.getfield 113, 3) := by decide +kernel
theorem dX12_isMeasured_21 : decode cX12_isMeasured 21 = .ok (.bipush 30, 2) := by decide +kernel
theorem dX12_isMeasured_23 : decode cX12_isMeasured 23 = .ok (.iaload, 1) := by decide +kernel
theorem dX12_isMeasured_24 : decode cX12_isMeasured 24 = .ok (.if_icmp .ge 55, 3) := by decide +kernel
theorem dX12_isMeasured_27 : decode cX12_isMeasured 27 = .ok (.iload_n 3, 1) := by decide +kernel
theorem dX12_isMeasured_28 : decode cX12_isMeasured 28 = .ok (.ifCond .eq 51, 3) := by decide +kernel
theorem dX12_isMeasured_31 : decode cX12_isMeasured 31 = .ok (.bipush 31, 2) := by decide +kernel
theorem dX12_isMeasured_33 : decode cX12_isMeasured 33 = .ok (.iconst 2, 1) := by decide +kernel
theorem dX12_isMeasured_34 : decode cX12_isMeasured 34 = .ok (.iload 4, 2) := by decide +kernel
theorem dX12_isMeasured_36 : decode cX12_isMeasured 36 = .ok (.imul, 1) := by decide +kernel
theorem dX12_isMeasured_37 : decode cX12_isMeasured 37 = .ok (.iadd, 1) := by decide +kernel
theorem dX12_isMeasured_38 : decode cX12_isMeasured 38 = .ok (.istore 5, 2) := by decide +kernel
theorem dX12_isMeasured_40 : decode cX12_isMeasured 40 = .ok (.aload_n 0, 1) := by decide +kernel
theorem dX12_isMeasured_41 : decode cX12_isMeasured 41 = .ok (.invokevirtual 318, 3) := by decide +kernel
theorem dX12_isMeasured_44 : decode cX12_isMeasured 44 = .ok (.aload_n 0, 1) := by decide +kernel
theorem dX12_isMeasured_45 : decode cX12_isMeasured 45 = .ok (.aload_n 0, 1) := by decide +kernel
theorem dX12_isMeasured_46 : decode cX12_isMeasured 46 = .ok (.getfield 113, 3) := by decide +kernel
theorem dX12_isMeasured_49 : decode cX12_isMeasured 49 = .ok (.iload 5, 2) := by decide +kernel
theorem dX12_isMeasured_51 : decode cX12_isMeasured 51 = .ok (.iaload, 1) := by decide +kernel
theorem dX12_isMeasured_52 : decode cX12_isMeasured 52 = .ok (.invokevirtual 321, 3) := by decide +kernel
theorem dX12_isMeasured_55 : decode cX12_isMeasured 55 = .ok (.aload_n 0, 1) := by decide +kernel
theorem dX12_isMeasured_56 : decode cX12_isMeasured 56 = .ok (.getfield 113, 3) := by decide +kernel
theorem dX12_isMeasured_59 : decode cX12_isMeasured 59 = .ok (.iload 5, 2) := by decide +kernel
theorem dX12_isMeasured_61 : decode cX12_isMeasured 61 = .ok (.iconst 1, 1) := by decide +kernel
theorem dX12_isMeasured_62 : decode cX12_isMeasured 62 = .ok (.iadd, 1) := by decide +kernel
theorem dX12_isMeasured_63 : decode cX12_isMeasured 63 = .ok (.iaload, 1) := by decide +kernel
theorem dX12_isMeasured_64 : decode cX12_isMeasured 64 = .ok (.if_icmp .ne 7, 3) := by decide +kernel
theorem dX12_isMeasured_67 : decode cX12_isMeasured 67 = .ok (.iconst 1, 1) := by decide +kernel
theorem dX12_isMeasured_68 : decode cX12_isMeasured 68 = .ok (.goto 4, 3) := by decide +kernel
theorem dX12_isMeasured_71 : decode cX12_isMeasured 71 = .ok (.iconst 0, 1) := by decide +kernel
theorem dX12_isMeasured_72 : decode cX12_isMeasured 72 = .ok (.istore_n 3, 1) := by decide +kernel
theorem dX12_isMeasured_73 : decode cX12_isMeasured 73 = .ok (.iinc 4 1, 3) := by decide +kernel
theorem dX12_isMeasured_76 : decode cX12_isMeasured 76 = .ok (.goto (-61), 3) := by decide +kernel
theorem dX12_isMeasured_79 : decode cX12_isMeasured 79 = .ok (.aload_n 0, 1) := by decide +kernel
theorem dX12_isMeasured_80 : decode cX12_isMeasured 80 = .ok (.invokevirtual 262, 3) := by decide +kernel
theorem dX12_isMeasured_83 : decode cX12_isMeasured 83 = .ok (.iload_n 3, 1) := by decide +kernel
theorem dX12_isMeasured_84 : decode cX12_isMeasured 84 = .ok (.ireturn, 1) := by decide +kernel
abbrev wd_X12_isMeasured (k : Nat → ClassId) (this : Nat) (this_thrown : Int32) (this_tape : Nat) (this_taped : Int32) (this_size : Int32) (this_sort : Nat) (this_place : Nat) (this_value : Nat) (this_at : Int32) (this_fault : Int32) (this_words : Nat) (this_towns : Nat) (this_towns_f : Nat → Int32) (this_op : Nat) (this_op_f : Nat → Int32) (this_arg : Nat) (this_arg_f : Nat → Int32) (this_codes : Int32) (this_names : Nat) (this_readNames : Nat) (this_namesMany : Int32) (this_readMany : Int32) (this_once : Int32) (this_lines : Nat) (this_facts : Nat) (this_facts_f : Nat → Int32) (this_pile : Nat) (this_pile_f : Nat → Int32) (this_state : Nat) (this_state_f : Nat → Int32) (this_undos : Int32) (this_isMarked : Nat) (this_weight : Int32) (this_rounding : Int32) (this_lacks : Nat) (this_lacks_f : Nat → Int32) (this_alikes : Nat) (this_g : Int64) : va_W := [(this, .inr (10, [.int this_thrown, .ref this_tape, .int this_taped, .int this_size, .ref this_sort, .ref this_place, .ref this_value, .int this_at, .int this_fault, .ref this_words, .ref this_towns, .ref this_op, .ref this_arg, .int this_codes, .ref this_names, .ref this_readNames, .int this_namesMany, .int this_readMany, .int this_once, .ref this_lines, .ref this_facts, .ref this_pile, .ref this_state, .int this_undos, .ref this_isMarked, .int this_weight, .int this_rounding, .ref this_lacks, .ref this_alikes, .long this_g])), (this_towns, .inl (k 0, 60, .inl this_towns_f)), (this_op, .inl (k 0, 2200, .inl this_op_f)), (this_arg, .inl (k 0, 2200, .inl this_arg_f)), (this_facts, .inl (k 0, 4, .inl this_facts_f)), (this_pile, .inl (k 0, 1100, .inl this_pile_f)), (this_state, .inl (k 0, 1104, .inl this_state_f)), (this_lacks, .inl (k 0, 6, .inl this_lacks_f))]
set_option maxHeartbeats 4000000 in
set_option maxRecDepth 100000 in
theorem c_X12_isMeasured (l : Launch) (D : va_G) (k : Nat → ClassId) (this : Nat) (this_thrown : Int32) (this_tape : Nat) (this_taped : Int32) (this_size : Int32) (this_sort : Nat) (this_place : Nat) (this_value : Nat) (this_at : Int32) (this_fault : Int32) (this_words : Nat) (this_towns : Nat) (this_towns_f : Nat → Int32) (this_op : Nat) (this_op_f : Nat → Int32) (this_arg : Nat) (this_arg_f : Nat → Int32) (this_codes : Int32) (this_names : Nat) (this_readNames : Nat) (this_namesMany : Int32) (this_readMany : Int32) (this_once : Int32) (this_lines : Nat) (this_facts : Nat) (this_facts_f : Nat → Int32) (this_pile : Nat) (this_pile_f : Nat → Int32) (this_state : Nat) (this_state_f : Nat → Int32) (this_undos : Int32) (this_isMarked : Nat) (this_weight : Int32) (this_rounding : Int32) (this_lacks : Nat) (this_lacks_f : Nat → Int32) (this_alikes : Nat) (this_g : Int64) (q1 : Int32) (q2 : Int32) (R0 : Int32 × Int32 × Int32 × (Nat → Int32) × (Nat → Int32) × (Nat → Int32) × (Nat → Int32)) (hm : m_X12_isMeasured this_towns_f this_op_f this_arg_f this_facts_f this_pile_f this_state_f this_lacks_f q1 q2 = some R0) : CW l D (TY k) yX12_isMeasured cX12_isMeasured 6 (some .boolean) 6 139 [.ref this, .int q1, .int q2] (wd_X12_isMeasured k this this_thrown this_tape this_taped this_size this_sort this_place this_value this_at this_fault this_words this_towns this_towns_f this_op this_op_f this_arg this_arg_f this_codes this_names this_readNames this_namesMany this_readMany this_once this_lines this_facts this_facts_f this_pile this_pile_f this_state this_state_f this_undos this_isMarked this_weight this_rounding this_lacks this_lacks_f this_alikes this_g) (some (.int R0.1)) (wd_X12_isMeasured k this this_thrown this_tape this_taped this_size this_sort this_place this_value this_at this_fault this_words this_towns this_towns_f this_op this_op_f this_arg this_arg_f this_codes this_names this_readNames this_namesMany this_readMany this_once this_lines this_facts R0.2.2.2.1 this_pile R0.2.2.2.2.1 this_state R0.2.2.2.2.2.1 this_undos this_isMarked R0.2.1 R0.2.2.1 this_lacks R0.2.2.2.2.2.2 this_alikes this_g) := by
  refine CW.mk (by decide) (Nat.le_of_ble_eq_true rfl) ?_
  intro p e s m args below meth c ls A ⟨hx, hb, hr, hts, hown, hlocks, hml⟩ hP hG hD hA hl hS hq
  have hl : lv_has ls 6 [(0, .ref this), (1, .int q1), (2, .int q2)] := hl
  have h_79 : ∀ (x3 : Int32) (u_this_weight : Int32) (u_this_rounding : Int32) (u_this_facts_f : Nat → Int32) (u_this_pile_f : Nat → Int32) (u_this_state_f : Nat → Int32) (u_this_lacks_f : Nat → Int32) (H : Heap) (locs : List Loc) (ls : Array Slot), va_P D vwCl (wd_X12_isMeasured k this this_thrown this_tape this_taped this_size this_sort this_place this_value this_at this_fault this_words this_towns this_towns_f this_op this_op_f this_arg this_arg_f this_codes this_names this_readNames this_namesMany this_readMany this_once this_lines this_facts u_this_facts_f this_pile u_this_pile_f this_state u_this_state_f this_undos this_isMarked u_this_weight u_this_rounding this_lacks u_this_lacks_f this_alikes this_g) H → va_D A (wd_X12_isMeasured k this this_thrown this_tape this_taped this_size this_sort this_place this_value this_at this_fault this_words this_towns this_towns_f this_op this_op_f this_arg this_arg_f this_codes this_names this_readNames this_namesMany this_readMany this_once this_lines this_facts u_this_facts_f this_pile u_this_pile_f this_state u_this_state_f this_undos this_isMarked u_this_weight u_this_rounding this_lacks u_this_lacks_f this_alikes this_g) → va_S A s.heap H locs → lv_has ls 6 [(0, .ref this), (3, .int x3)] → m_X12_isMeasured_79 this_towns_f this_op_f this_arg_f q1 q2 x3 u_this_weight u_this_rounding u_this_facts_f u_this_pile_f u_this_state_f u_this_lacks_f = some R0 → W p l e (Rm 6 139) s m args below meth c H locs 0 0 (MQ below (QW D (some (.int R0.1)) (wd_X12_isMeasured k this this_thrown this_tape this_taped this_size this_sort this_place this_value this_at this_fault this_words this_towns this_towns_f this_op this_op_f this_arg this_arg_f this_codes this_names this_readNames this_namesMany this_readMany this_once this_lines this_facts this_facts_f this_pile this_pile_f this_state this_state_f this_undos this_isMarked this_weight this_rounding this_lacks this_lacks_f this_alikes this_g) (wd_X12_isMeasured k this this_thrown this_tape this_taped this_size this_sort this_place this_value this_at this_fault this_words this_towns this_towns_f this_op this_op_f this_arg this_arg_f this_codes this_names this_readNames this_namesMany this_readMany this_once this_lines this_facts R0.2.2.2.1 this_pile R0.2.2.2.2.1 this_state R0.2.2.2.2.2.1 this_undos this_isMarked R0.2.1 R0.2.2.1 this_lacks R0.2.2.2.2.2.2 this_alikes this_g) s.heap.size) args s 0 0 A) (F0 m 79 ls []) := by
    intro  x3 u_this_weight u_this_rounding u_this_facts_f u_this_pile_f u_this_state_f u_this_lacks_f H locs ls hP hD hS hl hm
    unfold m_X12_isMeasured_79 at hm
    refine lv_aload_n (pc := 79) hx hb dX12_isMeasured_79 rfl (lv_at hl 0 rfl) ?_
    obtain ⟨r4, hcl, hm⟩ := bd hm
    refine cw_mask (ws' := (wd_X12_isMeasured k this this_thrown this_tape this_taped this_size this_sort this_place this_value this_at this_fault this_words this_towns this_towns_f this_op this_op_f this_arg this_arg_f this_codes this_names this_readNames this_namesMany this_readMany this_once this_lines this_facts u_this_facts_f this_pile u_this_pile_f this_state u_this_state_f this_undos this_isMarked r4.1 r4.2 this_lacks u_this_lacks_f this_alikes this_g)) (run_V (pc := 80) (n := 0) (As := []) (rest := []) ⟨hx, hb, hml, hown, hts⟩ ((c_X12_rulesAsTold l D k this this_thrown this_tape this_taped this_size this_sort this_place this_value this_at this_fault this_words this_towns this_towns_f this_op this_arg this_codes this_names this_readNames this_namesMany this_readMany this_once this_lines this_facts this_pile this_state this_undos this_isMarked u_this_weight u_this_rounding this_lacks this_alikes this_g r4 hcl) H.size) ⟨kw_1244, kw_16, by decide +kernel⟩ kw_1241 kw_1243 ks_95 ⟨Nat.le_of_ble_eq_true rfl, Nat.le_of_ble_eq_true rfl⟩ pw_blind (prW (P_pick [true, true] rfl hP) hG (D_pick [true, true] rfl hD)) (va_recv hG.1 hP (ci := 10) (q0 := 0) rfl rfl) rfl hl.1 rfl (Nat.le_of_ble_eq_true rfl) dX12_isMeasured_80 ⟨Nat.zero_le _, Nat.zero_le _⟩) hP hD hS hA [true, true] rfl rfl rfl (fun H locs hP hD hS => ?_)
    refine lv_iload_n (pc := 83) hx hb dX12_isMeasured_83 rfl (lv_at hl 1 rfl) ?_
    obtain ⟨hz, hm⟩ := gd hm
    rw [← Option.some.inj hm]
    exact W.zret hx hb hr (nar_bool hz) (fun t ht _ => hq _ _ H t ht hP hD locs hS) hS.2.2 dX12_isMeasured_84 hlocks
  have h_15 : ∀ (n : Nat), ∀ (x3 : Int32) (x4 : Int32) (u_this_weight : Int32) (u_this_rounding : Int32) (u_this_facts_f : Nat → Int32) (u_this_pile_f : Nat → Int32) (u_this_state_f : Nat → Int32) (u_this_lacks_f : Nat → Int32) (H : Heap) (locs : List Loc) (ls : Array Slot), va_P D vwCl (wd_X12_isMeasured k this this_thrown this_tape this_taped this_size this_sort this_place this_value this_at this_fault this_words this_towns this_towns_f this_op this_op_f this_arg this_arg_f this_codes this_names this_readNames this_namesMany this_readMany this_once this_lines this_facts u_this_facts_f this_pile u_this_pile_f this_state u_this_state_f this_undos this_isMarked u_this_weight u_this_rounding this_lacks u_this_lacks_f this_alikes this_g) H → va_D A (wd_X12_isMeasured k this this_thrown this_tape this_taped this_size this_sort this_place this_value this_at this_fault this_words this_towns this_towns_f this_op this_op_f this_arg this_arg_f this_codes this_names this_readNames this_namesMany this_readMany this_once this_lines this_facts u_this_facts_f this_pile u_this_pile_f this_state u_this_state_f this_undos this_isMarked u_this_weight u_this_rounding this_lacks u_this_lacks_f this_alikes this_g) → va_S A s.heap H locs → lv_has ls 6 [(0, .ref this), (3, .int x3), (4, .int x4)] → m_X12_isMeasured_15 this_towns_f this_op_f this_arg_f q1 q2 n x3 x4 u_this_weight u_this_rounding u_this_facts_f u_this_pile_f u_this_state_f u_this_lacks_f = some R0 → W p l e (Rm 6 139) s m args below meth c H locs 0 0 (MQ below (QW D (some (.int R0.1)) (wd_X12_isMeasured k this this_thrown this_tape this_taped this_size this_sort this_place this_value this_at this_fault this_words this_towns this_towns_f this_op this_op_f this_arg this_arg_f this_codes this_names this_readNames this_namesMany this_readMany this_once this_lines this_facts this_facts_f this_pile this_pile_f this_state this_state_f this_undos this_isMarked this_weight this_rounding this_lacks this_lacks_f this_alikes this_g) (wd_X12_isMeasured k this this_thrown this_tape this_taped this_size this_sort this_place this_value this_at this_fault this_words this_towns this_towns_f this_op this_op_f this_arg this_arg_f this_codes this_names this_readNames this_namesMany this_readMany this_once this_lines this_facts R0.2.2.2.1 this_pile R0.2.2.2.2.1 this_state R0.2.2.2.2.2.1 this_undos this_isMarked R0.2.1 R0.2.2.1 this_lacks R0.2.2.2.2.2.2 this_alikes this_g) s.heap.size) args s 0 0 A) (F0 m 15 ls []) := by
    intro n
    induction n with
    | zero => intro x3 x4 u_this_weight u_this_rounding u_this_facts_f u_this_pile_f u_this_state_f u_this_lacks_f H locs ls hP hD hS hl hm; cases hm
    | succ n ih =>
      intro x3 x4 u_this_weight u_this_rounding u_this_facts_f u_this_pile_f u_this_state_f u_this_lacks_f H locs ls hP hD hS hl hm
      unfold m_X12_isMeasured_15 at hm
      refine lv_iload (pc := 15) hx hb dX12_isMeasured_15 (lv_at hl 2 rfl) ?_
      refine lv_aload_n (pc := 17) hx hb dX12_isMeasured_17 rfl (lv_at hl 0 rfl) ?_
      refine va_get (pc := 18) (D := D) (ci := 10) (C := RX12) (T := TX12) (N := 30) hx hb hts hiX12 hown hG.1 hP 0 rfl rfl 22 (Nat.le_of_ble_eq_true rfl) (hts _ kw_1279) (fun _ h9 => h9) rfl dX12_isMeasured_18 ?_
      refine lv_bipush (v := 30) (pc := 21) hx hb dX12_isMeasured_21 (by decide) ?_
      refine va_iald (pc := 23) (D := D) hx hb hG.1 hP 6 0 rfl rfl (pn_in (Nat.le_of_ble_eq_true rfl) (Nat.le_of_ble_eq_true rfl)) dX12_isMeasured_23 ?_
      refine lv_icmp_ge (tgt := 79) (pc := 24) hx hb dX12_isMeasured_24 (by decide) (fun hc => ?_) (fun hc => ?_)
      · rw [if_pos hc] at hm
        exact h_79 x3 u_this_weight u_this_rounding u_this_facts_f u_this_pile_f u_this_state_f u_this_lacks_f H locs ls hP hD hS (lv_sub hl [0, 1] rfl) hm
      · rw [if_neg hc] at hm
        refine lv_iload_n (pc := 27) hx hb dX12_isMeasured_27 rfl (lv_at hl 1 rfl) ?_
        refine lv_if_eq (tgt := 79) (pc := 28) hx hb dX12_isMeasured_28 (by decide) (fun hc => ?_) (fun hc => ?_)
        · rw [if_pos hc] at hm
          exact h_79 x3 u_this_weight u_this_rounding u_this_facts_f u_this_pile_f u_this_state_f u_this_lacks_f H locs ls hP hD hS (lv_sub hl [0, 1] rfl) hm
        · rw [if_neg hc] at hm
          refine lv_bipush (v := 31) (pc := 31) hx hb dX12_isMeasured_31 (by decide) ?_
          refine lv_iconst (v := 2) (pc := 33) hx hb dX12_isMeasured_33 (by decide) ?_
          refine lv_iload (pc := 34) hx hb dX12_isMeasured_34 (lv_at hl 2 rfl) ?_
          refine lv_imul (pc := 36) hx hb dX12_isMeasured_36 ?_
          refine lv_iadd (pc := 37) hx hb dX12_isMeasured_37 ?_
          refine lv_istore (lv' := [(5, .int (31 + (2 * x4))), (0, .ref this), (3, .int x3), (4, .int x4)]) (pc := 38) hx hb dX12_isMeasured_38 hl (Nat.le_of_ble_eq_true rfl) rfl (fun ls hl => ?_)
          refine lv_aload_n (pc := 40) hx hb dX12_isMeasured_40 rfl (lv_at hl 1 rfl) ?_
          obtain ⟨r5, hcl, hm⟩ := bd hm
          refine cw_mask (ws' := (wd_X12_isMeasured k this this_thrown this_tape this_taped this_size this_sort this_place this_value this_at this_fault this_words this_towns this_towns_f this_op this_op_f this_arg this_arg_f this_codes this_names this_readNames this_namesMany this_readMany this_once this_lines this_facts u_this_facts_f this_pile u_this_pile_f this_state r5 this_undos this_isMarked u_this_weight u_this_rounding this_lacks u_this_lacks_f this_alikes this_g)) (run_V (pc := 41) (n := 0) (As := []) (rest := []) ⟨hx, hb, hml, hown, hts⟩ ((c_X12_triesNow l D k this this_thrown this_tape this_taped this_size this_sort this_place this_value this_at this_fault this_words this_towns this_op this_arg this_codes this_names this_readNames this_namesMany this_readMany this_once this_lines this_facts this_pile this_state u_this_state_f this_undos this_isMarked u_this_weight u_this_rounding this_lacks this_alikes this_g r5 hcl) H.size) ⟨kw_1564, kw_16, by decide +kernel⟩ kw_1561 kw_1563 ks_134 ⟨Nat.le_of_ble_eq_true rfl, Nat.le_of_ble_eq_true rfl⟩ pw_blind (prW (P_pick [true, false, false, false, false, false, true] rfl hP) hG (D_pick [true, false, false, false, false, false, true] rfl hD)) (va_recv hG.1 hP (ci := 10) (q0 := 0) rfl rfl) rfl hl.1 rfl (Nat.le_of_ble_eq_true rfl) dX12_isMeasured_41 ⟨Nat.zero_le _, Nat.zero_le _⟩) hP hD hS hA [true, false, false, false, false, false, true] rfl rfl rfl (fun H locs hP hD hS => ?_)
          refine lv_aload_n (pc := 44) hx hb dX12_isMeasured_44 rfl (lv_at hl 1 rfl) ?_
          refine lv_aload_n (pc := 45) hx hb dX12_isMeasured_45 rfl (lv_at hl 1 rfl) ?_
          refine va_get (pc := 46) (D := D) (ci := 10) (C := RX12) (T := TX12) (N := 30) hx hb hts hiX12 hown hG.1 hP 0 rfl rfl 22 (Nat.le_of_ble_eq_true rfl) (hts _ kw_1279) (fun _ h9 => h9) rfl dX12_isMeasured_46 ?_
          refine lv_iload (pc := 49) hx hb dX12_isMeasured_49 (lv_at hl 0 rfl) ?_
          obtain ⟨hin, hm⟩ := gd hm
          refine va_iald (pc := 51) (D := D) hx hb hG.1 hP 6 0 rfl rfl hin dX12_isMeasured_51 ?_
          obtain ⟨r6, hcl, hm⟩ := bd hm
          refine cw_mask (ws' := (wd_X12_isMeasured k this this_thrown this_tape this_taped this_size this_sort this_place this_value this_at this_fault this_words this_towns this_towns_f this_op this_op_f this_arg this_arg_f this_codes this_names this_readNames this_namesMany this_readMany this_once this_lines this_facts r6.2.1 this_pile r6.2.2.1 this_state r6.2.2.2.1 this_undos this_isMarked u_this_weight u_this_rounding this_lacks r6.2.2.2.2 this_alikes this_g)) (run_V (pc := 52) (n := 1) (As := [.int (r5 (31 + (2 * x4)).toNatClampNeg)]) (rest := []) ⟨hx, hb, hml, hown, hts⟩ ((c_X12_highBehind l D k this this_thrown this_tape this_taped this_size this_sort this_place this_value this_at this_fault this_words this_towns this_towns_f this_op this_op_f this_arg this_arg_f this_codes this_names this_readNames this_namesMany this_readMany this_once this_lines this_facts u_this_facts_f this_pile u_this_pile_f this_state r5 this_undos this_isMarked u_this_weight u_this_rounding this_lacks u_this_lacks_f this_alikes this_g (r5 (31 + (2 * x4)).toNatClampNeg) r6 hcl) H.size) ⟨kw_1568, kw_16, by decide +kernel⟩ kw_1565 kw_1567 ks_135 ⟨Nat.le_of_ble_eq_true rfl, Nat.le_of_ble_eq_true rfl⟩ pw_blind (prW (P_pick [true, true, true, true, true, true, true, true] rfl hP) hG (D_pick [true, true, true, true, true, true, true, true] rfl hD)) (va_recv hG.1 hP (ci := 10) (q0 := 0) rfl rfl) rfl hl.1 rfl (Nat.le_of_ble_eq_true rfl) dX12_isMeasured_52 ⟨Nat.zero_le _, Nat.zero_le _⟩) hP hD hS hA [true, true, true, true, true, true, true, true] rfl rfl rfl (fun H locs hP hD hS => ?_)
          refine lv_aload_n (pc := 55) hx hb dX12_isMeasured_55 rfl (lv_at hl 1 rfl) ?_
          refine va_get (pc := 56) (D := D) (ci := 10) (C := RX12) (T := TX12) (N := 30) hx hb hts hiX12 hown hG.1 hP 0 rfl rfl 22 (Nat.le_of_ble_eq_true rfl) (hts _ kw_1279) (fun _ h9 => h9) rfl dX12_isMeasured_56 ?_
          refine lv_iload (pc := 59) hx hb dX12_isMeasured_59 (lv_at hl 0 rfl) ?_
          refine lv_iconst (v := 1) (pc := 61) hx hb dX12_isMeasured_61 (by decide) ?_
          refine lv_iadd (pc := 62) hx hb dX12_isMeasured_62 ?_
          obtain ⟨hin, hm⟩ := gd hm
          refine va_iald (pc := 63) (D := D) hx hb hG.1 hP 6 0 rfl rfl hin dX12_isMeasured_63 ?_
          refine lv_icmp_ne (tgt := 71) (pc := 64) hx hb dX12_isMeasured_64 (by decide) (fun hc => ?_) (fun hc => ?_)
          · rw [if_neg hc] at hm
            refine lv_iconst (v := 0) (pc := 71) hx hb dX12_isMeasured_71 (by decide) ?_
            refine lv_istore_n (lv' := [(3, .int 0), (5, .int (31 + (2 * x4))), (0, .ref this), (4, .int x4)]) (pc := 72) hx hb dX12_isMeasured_72 rfl hl (Nat.le_of_ble_eq_true rfl) rfl (fun ls hl => ?_)
            refine lv_iinc (k := 3) (v := x4 + 1) (lv' := [(4, .int (x4 + 1)), (3, .int 0), (5, .int (31 + (2 * x4))), (0, .ref this)]) (pc := 73) hx hb dX12_isMeasured_73 hl rfl rfl (Nat.le_of_ble_eq_true rfl) rfl (fun ls hl => ?_)
            refine lv_goto (tgt := 15) (pc := 76) hx hb dX12_isMeasured_76 (by decide) ?_
            exact ih 0 (x4 + 1) u_this_weight u_this_rounding r6.2.1 r6.2.2.1 r6.2.2.2.1 r6.2.2.2.2 H locs ls hP hD hS (lv_sub hl [3, 1, 0] rfl) hm
          · rw [if_pos hc] at hm
            refine lv_iconst (v := 1) (pc := 67) hx hb dX12_isMeasured_67 (by decide) ?_
            refine lv_goto (tgt := 72) (pc := 68) hx hb dX12_isMeasured_68 (by decide) ?_
            refine lv_istore_n (lv' := [(3, .int 1), (5, .int (31 + (2 * x4))), (0, .ref this), (4, .int x4)]) (pc := 72) hx hb dX12_isMeasured_72 rfl hl (Nat.le_of_ble_eq_true rfl) rfl (fun ls hl => ?_)
            refine lv_iinc (k := 3) (v := x4 + 1) (lv' := [(4, .int (x4 + 1)), (3, .int 1), (5, .int (31 + (2 * x4))), (0, .ref this)]) (pc := 73) hx hb dX12_isMeasured_73 hl rfl rfl (Nat.le_of_ble_eq_true rfl) rfl (fun ls hl => ?_)
            refine lv_goto (tgt := 15) (pc := 76) hx hb dX12_isMeasured_76 (by decide) ?_
            exact ih 1 (x4 + 1) u_this_weight u_this_rounding r6.2.1 r6.2.2.1 r6.2.2.2.1 r6.2.2.2.2 H locs ls hP hD hS (lv_sub hl [3, 1, 0] rfl) hm
  unfold m_X12_isMeasured at hm
  suffices hgo : ∀ (H : Heap) (locs : List Loc), va_P D vwCl (wd_X12_isMeasured k this this_thrown this_tape this_taped this_size this_sort this_place this_value this_at this_fault this_words this_towns this_towns_f this_op this_op_f this_arg this_arg_f this_codes this_names this_readNames this_namesMany this_readMany this_once this_lines this_facts this_facts_f this_pile this_pile_f this_state this_state_f this_undos this_isMarked this_weight this_rounding this_lacks this_lacks_f this_alikes this_g) H → va_D A (wd_X12_isMeasured k this this_thrown this_tape this_taped this_size this_sort this_place this_value this_at this_fault this_words this_towns this_towns_f this_op this_op_f this_arg this_arg_f this_codes this_names this_readNames this_namesMany this_readMany this_once this_lines this_facts this_facts_f this_pile this_pile_f this_state this_state_f this_undos this_isMarked this_weight this_rounding this_lacks this_lacks_f this_alikes this_g) → va_S A s.heap H locs → W p l e (Rm 6 139) s m args below meth c H locs 0 0 (MQ below (QW D (some (.int R0.1)) (wd_X12_isMeasured k this this_thrown this_tape this_taped this_size this_sort this_place this_value this_at this_fault this_words this_towns this_towns_f this_op this_op_f this_arg this_arg_f this_codes this_names this_readNames this_namesMany this_readMany this_once this_lines this_facts this_facts_f this_pile this_pile_f this_state this_state_f this_undos this_isMarked this_weight this_rounding this_lacks this_lacks_f this_alikes this_g) (wd_X12_isMeasured k this this_thrown this_tape this_taped this_size this_sort this_place this_value this_at this_fault this_words this_towns this_towns_f this_op this_op_f this_arg this_arg_f this_codes this_names this_readNames this_namesMany this_readMany this_once this_lines this_facts R0.2.2.2.1 this_pile R0.2.2.2.2.1 this_state R0.2.2.2.2.2.1 this_undos this_isMarked R0.2.1 R0.2.2.1 this_lacks R0.2.2.2.2.2.2 this_alikes this_g) s.heap.size) args s 0 0 A) (F0 m 0 ls []) from hgo _ _ hP hD hS
  clear hP hD hS
  intro H locs hP hD hS
  refine lv_aload_n (pc := 0) hx hb dX12_isMeasured_0 rfl (lv_at hl 0 rfl) ?_
  refine lv_iload_n (pc := 1) hx hb dX12_isMeasured_1 rfl (lv_at hl 1 rfl) ?_
  refine va_put (pc := 2) (D := D) (ci := 10) (v := .int q1) (ty := .int) (C := RX12) (T := TX12) (N := 30) hx hb hts hiX12 tyX12 tyX12_ok nmX12 hown hG.1 hP hD hS 0 rfl rfl 25 (Nat.le_of_ble_eq_true rfl) (hts _ kw_1282) (fun _ h9 => h9) rfl (by decide +kernel) rfl rfl (Nat.le_of_ble_eq_true rfl) dX12_isMeasured_2 (fun H locs hP hD hS => ?_)
  have hP : va_P D vwCl (wd_X12_isMeasured k this this_thrown this_tape this_taped this_size this_sort this_place this_value this_at this_fault this_words this_towns this_towns_f this_op this_op_f this_arg this_arg_f this_codes this_names this_readNames this_namesMany this_readMany this_once this_lines this_facts this_facts_f this_pile this_pile_f this_state this_state_f this_undos this_isMarked q1 this_rounding this_lacks this_lacks_f this_alikes this_g) H := hP
  have hD : va_D A (wd_X12_isMeasured k this this_thrown this_tape this_taped this_size this_sort this_place this_value this_at this_fault this_words this_towns this_towns_f this_op this_op_f this_arg this_arg_f this_codes this_names this_readNames this_namesMany this_readMany this_once this_lines this_facts this_facts_f this_pile this_pile_f this_state this_state_f this_undos this_isMarked q1 this_rounding this_lacks this_lacks_f this_alikes this_g) := hD
  refine lv_aload_n (pc := 5) hx hb dX12_isMeasured_5 rfl (lv_at hl 0 rfl) ?_
  refine lv_iload_n (pc := 6) hx hb dX12_isMeasured_6 rfl (lv_at hl 2 rfl) ?_
  refine va_put (pc := 7) (D := D) (ci := 10) (v := .int q2) (ty := .int) (C := RX12) (T := TX12) (N := 30) hx hb hts hiX12 tyX12 tyX12_ok nmX12 hown hG.1 hP hD hS 0 rfl rfl 26 (Nat.le_of_ble_eq_true rfl) (hts _ kw_1283) (fun _ h9 => h9) rfl (by decide +kernel) rfl rfl (Nat.le_of_ble_eq_true rfl) dX12_isMeasured_7 (fun H locs hP hD hS => ?_)
  have hP : va_P D vwCl (wd_X12_isMeasured k this this_thrown this_tape this_taped this_size this_sort this_place this_value this_at this_fault this_words this_towns this_towns_f this_op this_op_f this_arg this_arg_f this_codes this_names this_readNames this_namesMany this_readMany this_once this_lines this_facts this_facts_f this_pile this_pile_f this_state this_state_f this_undos this_isMarked q1 q2 this_lacks this_lacks_f this_alikes this_g) H := hP
  have hD : va_D A (wd_X12_isMeasured k this this_thrown this_tape this_taped this_size this_sort this_place this_value this_at this_fault this_words this_towns this_towns_f this_op this_op_f this_arg this_arg_f this_codes this_names this_readNames this_namesMany this_readMany this_once this_lines this_facts this_facts_f this_pile this_pile_f this_state this_state_f this_undos this_isMarked q1 q2 this_lacks this_lacks_f this_alikes this_g) := hD
  refine lv_iconst (v := 1) (pc := 10) hx hb dX12_isMeasured_10 (by decide) ?_
  refine lv_istore_n (lv' := [(3, .int 1), (0, .ref this), (1, .int q1), (2, .int q2)]) (pc := 11) hx hb dX12_isMeasured_11 rfl hl (Nat.le_of_ble_eq_true rfl) rfl (fun ls hl => ?_)
  refine lv_iconst (v := 0) (pc := 12) hx hb dX12_isMeasured_12 (by decide) ?_
  refine lv_istore (lv' := [(4, .int 0), (3, .int 1), (0, .ref this), (1, .int q1), (2, .int q2)]) (pc := 13) hx hb dX12_isMeasured_13 hl (Nat.le_of_ble_eq_true rfl) rfl (fun ls hl => ?_)
  exact h_15 FU 1 0 q1 q2 this_facts_f this_pile_f this_state_f this_lacks_f H locs ls hP hD hS (lv_sub hl [2, 1, 0] rfl) hm
theorem dX12_rules_0 : decode cX12_rules 0 = .ok (.aload_n 0, 1) := by decide +kernel
theorem dX12_rules_1 : decode cX12_rules 1 = .ok (.iconst 0, 1) := by decide +kernel
theorem dX12_rules_2 : decode cX12_rules 2 = .ok (.putfield 1, 3) := by decide +kernel
theorem dX12_rules_5 : decode cX12_rules 5 = .ok (.iload_n 1, 1) := by decide +kernel
theorem dX12_rules_6 : decode cX12_rules 6 = .ok (.iconst 0, 1) := by decide +kernel
theorem dX12_rules_7 : decode cX12_rules 7 = .ok (.iconst 2, 1) := by decide +kernel
theorem dX12_rules_8 : decode cX12_rules 8 = .ok (.invokestatic 306, 3) := by decide +kernel
theorem dX12_rules_11 : decode cX12_rules 11 = .ok (.ifCond .ne 5, 3) := by decide +kernel
theorem dX12_rules_14 : decode cX12_rules 14 = .ok (.iconst (-1), 1) := by decide +kernel
theorem dX12_rules_15 : decode cX12_rules 15 = .ok (.ireturn, 1) := by decide +kernel
theorem dX12_rules_16 : decode cX12_rules 16 = .ok (.iconst 0, 1) := by decide +kernel
theorem dX12_rules_17 : decode cX12_rules 17 = .ok (.istore_n 2, 1) := by decide +kernel
theorem dX12_rules_18 : decode cX12_rules 18 = .ok (.iconst (-1), 1) := by decide +kernel
theorem dX12_rules_19 : decode cX12_rules 19 = .ok (.istore_n 3, 1) := by decide +kernel
theorem dX12_rules_20 : decode cX12_rules 20 = .ok (.iconst 0, 1) := by decide +kernel
theorem dX12_rules_21 : decode cX12_rules 21 = .ok (.istore 4, 2) := by decide +kernel
theorem dX12_rules_23 : decode cX12_rules 23 = .ok (.iload 4, 2) := by decide +kernel
theorem dX12_rules_25 : decode cX12_rules 25 = .ok (.bipush 60, 2) := by decide +kernel
theorem dX12_rules_27 : decode cX12_rules 27 = .ok (.if_icmp .ge 54, 3) := by decide +kernel
theorem dX12_rules_30 : decode cX12_rules 30 = .ok (.aload_n 0, 1) := by decide +kernel
theorem dX12_rules_31 : decode cX12_rules 31 = .ok (.iconst 1, 1) := by decide +kernel
theorem dX12_rules_32 : decode cX12_rules 32 = .ok (.iload 4, 2) := by decide +kernel
theorem dX12_rules_34 : decode cX12_rules 34 = .ok (.iconst 3, 1) := by decide +kernel
theorem dX12_rules_35 : decode cX12_rules 35 = .ok (.idiv, 1) := by decide +kernel
theorem dX12_rules_36 : decode cX12_rules 36 = .ok (.iadd, 1) := by decide +kernel
theorem dX12_rules_37 : decode cX12_rules 37 = .ok (.iload 4, 2) := by decide +kernel
theorem dX12_rules_39 : decode cX12_rules 39 = .ok (.iconst 3, 1) := by decide +kernel
theorem dX12_rules_40 : decode cX12_rules 40 = .ok (.irem, 1) := by decide +kernel
theorem dX12_rules_41 : decode cX12_rules 41 = .ok (.invokevirtual 341, 3) := by decide +kernel
theorem dX12_rules_44 : decode cX12_rules 44 = .ok (.istore 5, 2) := by decide +kernel
theorem dX12_rules_46 : decode cX12_rules 46 = .ok (.iload_n 2, 1) := by decide +kernel
theorem dX12_rules_47 : decode cX12_rules 47 = .ok (.iload 5, 2) := by decide +kernel
theorem dX12_rules_49 : decode cX12_rules 49 = .ok (.ifCond .eq 7, 3) := by decide +kernel
theorem dX12_rules_52 : decode cX12_rules 52 = .ok (.iconst 1, 1) := by decide +kernel
theorem dX12_rules_53 : decode cX12_rules 53 = .ok (.goto 4, 3) := by decide +kernel
theorem dX12_rules_56 : decode cX12_rules 56 = .ok (.iconst 0, 1) := by decide +kernel
theorem dX12_rules_57 : decode cX12_rules 57 = .ok (.iadd, 1) := by decide +kernel
theorem dX12_rules_58 : decode cX12_rules 58 = .ok (.istore_n 2, 1) := by decide +kernel
theorem dX12_rules_59 : decode cX12_rules 59 = .ok (.iload 5, 2) := by decide +kernel
theorem dX12_rules_61 : decode cX12_rules 61 = .ok (.ifCond .eq 12, 3) := by decide +kernel
theorem dX12_rules_64 : decode cX12_rules 64 = .ok (.iload_n 3, 1) := by decide +kernel
theorem dX12_rules_65 : decode cX12_rules 65 = .ok (.ifCond .ge 8, 3) := by decide +kernel
theorem dX12_rules_68 : decode cX12_rules 68 = .ok (.iload 4, 2) := by decide +kernel
theorem dX12_rules_70 : decode cX12_rules 70 = .ok (.goto 4, 3) := by decide +kernel
theorem dX12_rules_73 : decode cX12_rules 73 = .ok (.iload_n 3, 1) := by decide +kernel
theorem dX12_rules_74 : decode cX12_rules 74 = .ok (.istore_n 3, 1) := by decide +kernel
theorem dX12_rules_75 : decode cX12_rules 75 = .ok (.iinc 4 1, 3) := by decide +kernel
theorem dX12_rules_78 : decode cX12_rules 78 = .ok (.goto (-55), 3) := by decide +kernel
theorem dX12_rules_81 : decode cX12_rules 81 = .ok (.iload_n 1, 1) := by decide +kernel
theorem dX12_rules_82 : decode cX12_rules 82 = .ok (.ifCond .ne 7, 3) := by decide +kernel
theorem dX12_rules_85 : decode cX12_rules 85 = .ok (.iload_n 2, 1) := by decide +kernel
theorem dX12_rules_86 : decode cX12_rules 86 = .ok (.goto 27, 3) := by decide +kernel
theorem dX12_rules_89 : decode cX12_rules 89 = .ok (.iload_n 3, 1) := by decide +kernel
theorem dX12_rules_90 : decode cX12_rules 90 = .ok (.ifCond .ge 7, 3) := by decide +kernel
theorem dX12_rules_93 : decode cX12_rules 93 = .ok (.iconst (-1), 1) := by decide +kernel
theorem dX12_rules_94 : decode cX12_rules 94 = .ok (.goto 19, 3) := by decide +kernel
theorem dX12_rules_97 : decode cX12_rules 97 = .ok (.iload_n 1, 1) := by decide +kernel
theorem dX12_rules_98 : decode cX12_rules 98 = .ok (.iconst 1, 1) := by decide +kernel
theorem dX12_rules_99 : decode cX12_rules 99 = .ok (.if_icmp .ne 11, 3) := by decide +kernel
theorem dX12_rules_102 : decode cX12_rules 102 = .ok (.iconst 1, 1) := by decide +kernel
theorem dX12_rules_103 : decode cX12_rules 103 = .ok (.iload_n 3, 1) := by decide +kernel
theorem dX12_rules_104 : decode cX12_rules 104 = .ok (.iconst 3, 1) := by decide +kernel
theorem dX12_rules_105 : decode cX12_rules 105 = .ok (.idiv, 1) := by decide +kernel
theorem dX12_rules_106 : decode cX12_rules 106 = .ok (.iadd, 1) := by decide +kernel
theorem dX12_rules_107 : decode cX12_rules 107 = .ok (.goto 6, 3) := by decide +kernel
theorem dX12_rules_110 : decode cX12_rules 110 = .ok (.iload_n 3, 1) := by decide +kernel
theorem dX12_rules_111 : decode cX12_rules 111 = .ok (.iconst 3, 1) := by decide +kernel
theorem dX12_rules_112 : decode cX12_rules 112 = .ok (.irem, 1) := by decide +kernel
theorem dX12_rules_113 : decode cX12_rules 113 = .ok (.ireturn, 1) := by decide +kernel
abbrev wd_X12_rules (k : Nat → ClassId) (this : Nat) (this_thrown : Int32) (this_tape : Nat) (this_taped : Int32) (this_size : Int32) (this_sort : Nat) (this_place : Nat) (this_value : Nat) (this_at : Int32) (this_fault : Int32) (this_words : Nat) (this_towns : Nat) (this_towns_f : Nat → Int32) (this_op : Nat) (this_op_f : Nat → Int32) (this_arg : Nat) (this_arg_f : Nat → Int32) (this_codes : Int32) (this_names : Nat) (this_readNames : Nat) (this_namesMany : Int32) (this_readMany : Int32) (this_once : Int32) (this_lines : Nat) (this_facts : Nat) (this_facts_f : Nat → Int32) (this_pile : Nat) (this_pile_f : Nat → Int32) (this_state : Nat) (this_state_f : Nat → Int32) (this_undos : Int32) (this_isMarked : Nat) (this_weight : Int32) (this_rounding : Int32) (this_lacks : Nat) (this_lacks_f : Nat → Int32) (this_alikes : Nat) (this_g : Int64) : va_W := [(this, .inr (10, [.int this_thrown, .ref this_tape, .int this_taped, .int this_size, .ref this_sort, .ref this_place, .ref this_value, .int this_at, .int this_fault, .ref this_words, .ref this_towns, .ref this_op, .ref this_arg, .int this_codes, .ref this_names, .ref this_readNames, .int this_namesMany, .int this_readMany, .int this_once, .ref this_lines, .ref this_facts, .ref this_pile, .ref this_state, .int this_undos, .ref this_isMarked, .int this_weight, .int this_rounding, .ref this_lacks, .ref this_alikes, .long this_g])), (this_towns, .inl (k 0, 60, .inl this_towns_f)), (this_op, .inl (k 0, 2200, .inl this_op_f)), (this_arg, .inl (k 0, 2200, .inl this_arg_f)), (this_facts, .inl (k 0, 4, .inl this_facts_f)), (this_pile, .inl (k 0, 1100, .inl this_pile_f)), (this_state, .inl (k 0, 1104, .inl this_state_f)), (this_lacks, .inl (k 0, 6, .inl this_lacks_f))]
set_option maxHeartbeats 4000000 in
set_option maxRecDepth 100000 in
theorem c_X12_rules (l : Launch) (D : va_G) (k : Nat → ClassId) (this : Nat) (this_thrown : Int32) (this_tape : Nat) (this_taped : Int32) (this_size : Int32) (this_sort : Nat) (this_place : Nat) (this_value : Nat) (this_at : Int32) (this_fault : Int32) (this_words : Nat) (this_towns : Nat) (this_towns_f : Nat → Int32) (this_op : Nat) (this_op_f : Nat → Int32) (this_arg : Nat) (this_arg_f : Nat → Int32) (this_codes : Int32) (this_names : Nat) (this_readNames : Nat) (this_namesMany : Int32) (this_readMany : Int32) (this_once : Int32) (this_lines : Nat) (this_facts : Nat) (this_facts_f : Nat → Int32) (this_pile : Nat) (this_pile_f : Nat → Int32) (this_state : Nat) (this_state_f : Nat → Int32) (this_undos : Int32) (this_isMarked : Nat) (this_weight : Int32) (this_rounding : Int32) (this_lacks : Nat) (this_lacks_f : Nat → Int32) (this_alikes : Nat) (this_g : Int64) (q1 : Int32) (R0 : Int32 × Int32 × Int32 × Int32 × (Nat → Int32) × (Nat → Int32) × (Nat → Int32) × (Nat → Int32)) (hm : m_X12_rules this_towns_f this_op_f this_arg_f this_facts_f this_pile_f this_state_f this_weight this_rounding this_lacks_f q1 = some R0) : CW l D (TY k) yX12_rules cX12_rules 6 (some .int) 7 164 [.ref this, .int q1] (wd_X12_rules k this this_thrown this_tape this_taped this_size this_sort this_place this_value this_at this_fault this_words this_towns this_towns_f this_op this_op_f this_arg this_arg_f this_codes this_names this_readNames this_namesMany this_readMany this_once this_lines this_facts this_facts_f this_pile this_pile_f this_state this_state_f this_undos this_isMarked this_weight this_rounding this_lacks this_lacks_f this_alikes this_g) (some (.int R0.1)) (wd_X12_rules k this R0.2.1 this_tape this_taped this_size this_sort this_place this_value this_at this_fault this_words this_towns this_towns_f this_op this_op_f this_arg this_arg_f this_codes this_names this_readNames this_namesMany this_readMany this_once this_lines this_facts R0.2.2.2.2.1 this_pile R0.2.2.2.2.2.1 this_state R0.2.2.2.2.2.2.1 this_undos this_isMarked R0.2.2.1 R0.2.2.2.1 this_lacks R0.2.2.2.2.2.2.2 this_alikes this_g) := by
  refine CW.mk (by decide) (Nat.le_of_ble_eq_true rfl) ?_
  intro p e s m args below meth c ls A ⟨hx, hb, hr, hts, hown, hlocks, hml⟩ hP hG hD hA hl hS hq
  have hl : lv_has ls 6 [(0, .ref this), (1, .int q1)] := hl
  have h_57 : ∀ (K23 : Int32 → Int32 → Int32 → Int32 → Int32 → Int32 → (Nat → Int32) → (Nat → Int32) → (Nat → Int32) → (Nat → Int32) → Option (Int32 × Int32 × Int32 × Int32 × (Nat → Int32) × (Nat → Int32) × (Nat → Int32) × (Nat → Int32))) (hK23 : ∀ (x2 : Int32) (x3 : Int32) (x4 : Int32) (u_this_thrown : Int32) (u_this_weight : Int32) (u_this_rounding : Int32) (u_this_facts_f : Nat → Int32) (u_this_pile_f : Nat → Int32) (u_this_state_f : Nat → Int32) (u_this_lacks_f : Nat → Int32) (H : Heap) (locs : List Loc) (ls : Array Slot), va_P D vwCl (wd_X12_rules k this u_this_thrown this_tape this_taped this_size this_sort this_place this_value this_at this_fault this_words this_towns this_towns_f this_op this_op_f this_arg this_arg_f this_codes this_names this_readNames this_namesMany this_readMany this_once this_lines this_facts u_this_facts_f this_pile u_this_pile_f this_state u_this_state_f this_undos this_isMarked u_this_weight u_this_rounding this_lacks u_this_lacks_f this_alikes this_g) H → va_D A (wd_X12_rules k this u_this_thrown this_tape this_taped this_size this_sort this_place this_value this_at this_fault this_words this_towns this_towns_f this_op this_op_f this_arg this_arg_f this_codes this_names this_readNames this_namesMany this_readMany this_once this_lines this_facts u_this_facts_f this_pile u_this_pile_f this_state u_this_state_f this_undos this_isMarked u_this_weight u_this_rounding this_lacks u_this_lacks_f this_alikes this_g) → va_S A s.heap H locs → lv_has ls 6 [(0, .ref this), (1, .int q1), (2, .int x2), (3, .int x3), (4, .int x4)] → K23 x2 x3 x4 u_this_thrown u_this_weight u_this_rounding u_this_facts_f u_this_pile_f u_this_state_f u_this_lacks_f = some R0 → W p l e (Rm 7 164) s m args below meth c H locs 0 0 (MQ below (QW D (some (.int R0.1)) (wd_X12_rules k this this_thrown this_tape this_taped this_size this_sort this_place this_value this_at this_fault this_words this_towns this_towns_f this_op this_op_f this_arg this_arg_f this_codes this_names this_readNames this_namesMany this_readMany this_once this_lines this_facts this_facts_f this_pile this_pile_f this_state this_state_f this_undos this_isMarked this_weight this_rounding this_lacks this_lacks_f this_alikes this_g) (wd_X12_rules k this R0.2.1 this_tape this_taped this_size this_sort this_place this_value this_at this_fault this_words this_towns this_towns_f this_op this_op_f this_arg this_arg_f this_codes this_names this_readNames this_namesMany this_readMany this_once this_lines this_facts R0.2.2.2.2.1 this_pile R0.2.2.2.2.2.1 this_state R0.2.2.2.2.2.2.1 this_undos this_isMarked R0.2.2.1 R0.2.2.2.1 this_lacks R0.2.2.2.2.2.2.2 this_alikes this_g) s.heap.size) args s 0 0 A) (F0 m 23 ls [])), ∀ (x3 : Int32) (x4 : Int32) (x5 : Int32) (t0 : Int32) (t1 : Int32) (u_this_thrown : Int32) (u_this_weight : Int32) (u_this_rounding : Int32) (u_this_facts_f : Nat → Int32) (u_this_pile_f : Nat → Int32) (u_this_state_f : Nat → Int32) (u_this_lacks_f : Nat → Int32) (H : Heap) (locs : List Loc) (ls : Array Slot), va_P D vwCl (wd_X12_rules k this u_this_thrown this_tape this_taped this_size this_sort this_place this_value this_at this_fault this_words this_towns this_towns_f this_op this_op_f this_arg this_arg_f this_codes this_names this_readNames this_namesMany this_readMany this_once this_lines this_facts u_this_facts_f this_pile u_this_pile_f this_state u_this_state_f this_undos this_isMarked u_this_weight u_this_rounding this_lacks u_this_lacks_f this_alikes this_g) H → va_D A (wd_X12_rules k this u_this_thrown this_tape this_taped this_size this_sort this_place this_value this_at this_fault this_words this_towns this_towns_f this_op this_op_f this_arg this_arg_f this_codes this_names this_readNames this_namesMany this_readMany this_once this_lines this_facts u_this_facts_f this_pile u_this_pile_f this_state u_this_state_f this_undos this_isMarked u_this_weight u_this_rounding this_lacks u_this_lacks_f this_alikes this_g) → va_S A s.heap H locs → lv_has ls 6 [(0, .ref this), (1, .int q1), (3, .int x3), (4, .int x4), (5, .int x5)] → m_X12_rules_57 this_towns_f this_op_f this_arg_f q1 K23 x3 x4 x5 t0 t1 u_this_thrown u_this_weight u_this_rounding u_this_facts_f u_this_pile_f u_this_state_f u_this_lacks_f = some R0 → W p l e (Rm 7 164) s m args below meth c H locs 0 0 (MQ below (QW D (some (.int R0.1)) (wd_X12_rules k this this_thrown this_tape this_taped this_size this_sort this_place this_value this_at this_fault this_words this_towns this_towns_f this_op this_op_f this_arg this_arg_f this_codes this_names this_readNames this_namesMany this_readMany this_once this_lines this_facts this_facts_f this_pile this_pile_f this_state this_state_f this_undos this_isMarked this_weight this_rounding this_lacks this_lacks_f this_alikes this_g) (wd_X12_rules k this R0.2.1 this_tape this_taped this_size this_sort this_place this_value this_at this_fault this_words this_towns this_towns_f this_op this_op_f this_arg this_arg_f this_codes this_names this_readNames this_namesMany this_readMany this_once this_lines this_facts R0.2.2.2.2.1 this_pile R0.2.2.2.2.2.1 this_state R0.2.2.2.2.2.2.1 this_undos this_isMarked R0.2.2.1 R0.2.2.2.1 this_lacks R0.2.2.2.2.2.2.2 this_alikes this_g) s.heap.size) args s 0 0 A) (F0 m 57 ls [.int t0, .int t1]) := by
    intro K23 hK23 x3 x4 x5 t0 t1 u_this_thrown u_this_weight u_this_rounding u_this_facts_f u_this_pile_f u_this_state_f u_this_lacks_f H locs ls hP hD hS hl hm
    unfold m_X12_rules_57 at hm
    refine lv_iadd (pc := 57) hx hb dX12_rules_57 ?_
    refine lv_istore_n (lv' := [(2, .int (t1 + t0)), (0, .ref this), (1, .int q1), (3, .int x3), (4, .int x4), (5, .int x5)]) (pc := 58) hx hb dX12_rules_58 rfl hl (Nat.le_of_ble_eq_true rfl) rfl (fun ls hl => ?_)
    refine lv_iload (pc := 59) hx hb dX12_rules_59 (lv_at hl 5 rfl) ?_
    refine lv_if_eq (tgt := 73) (pc := 61) hx hb dX12_rules_61 (by decide) (fun hc => ?_) (fun hc => ?_)
    · rw [if_pos hc] at hm
      refine lv_iload_n (pc := 73) hx hb dX12_rules_73 rfl (lv_at hl 3 rfl) ?_
      refine lv_istore_n (lv' := [(3, .int x3), (2, .int (t1 + t0)), (0, .ref this), (1, .int q1), (4, .int x4), (5, .int x5)]) (pc := 74) hx hb dX12_rules_74 rfl hl (Nat.le_of_ble_eq_true rfl) rfl (fun ls hl => ?_)
      refine lv_iinc (k := 4) (v := x4 + 1) (lv' := [(4, .int (x4 + 1)), (3, .int x3), (2, .int (t1 + t0)), (0, .ref this), (1, .int q1), (5, .int x5)]) (pc := 75) hx hb dX12_rules_75 hl rfl rfl (Nat.le_of_ble_eq_true rfl) rfl (fun ls hl => ?_)
      refine lv_goto (tgt := 23) (pc := 78) hx hb dX12_rules_78 (by decide) ?_
      exact hK23 (t1 + t0) x3 (x4 + 1) u_this_thrown u_this_weight u_this_rounding u_this_facts_f u_this_pile_f u_this_state_f u_this_lacks_f H locs ls hP hD hS (lv_sub hl [3, 4, 2, 1, 0] rfl) hm
    · rw [if_neg hc] at hm
      refine lv_iload_n (pc := 64) hx hb dX12_rules_64 rfl (lv_at hl 3 rfl) ?_
      refine lv_if_ge (tgt := 73) (pc := 65) hx hb dX12_rules_65 (by decide) (fun hc => ?_) (fun hc => ?_)
      · rw [if_pos hc] at hm
        refine lv_iload_n (pc := 73) hx hb dX12_rules_73 rfl (lv_at hl 3 rfl) ?_
        refine lv_istore_n (lv' := [(3, .int x3), (2, .int (t1 + t0)), (0, .ref this), (1, .int q1), (4, .int x4), (5, .int x5)]) (pc := 74) hx hb dX12_rules_74 rfl hl (Nat.le_of_ble_eq_true rfl) rfl (fun ls hl => ?_)
        refine lv_iinc (k := 4) (v := x4 + 1) (lv' := [(4, .int (x4 + 1)), (3, .int x3), (2, .int (t1 + t0)), (0, .ref this), (1, .int q1), (5, .int x5)]) (pc := 75) hx hb dX12_rules_75 hl rfl rfl (Nat.le_of_ble_eq_true rfl) rfl (fun ls hl => ?_)
        refine lv_goto (tgt := 23) (pc := 78) hx hb dX12_rules_78 (by decide) ?_
        exact hK23 (t1 + t0) x3 (x4 + 1) u_this_thrown u_this_weight u_this_rounding u_this_facts_f u_this_pile_f u_this_state_f u_this_lacks_f H locs ls hP hD hS (lv_sub hl [3, 4, 2, 1, 0] rfl) hm
      · rw [if_neg hc] at hm
        refine lv_iload (pc := 68) hx hb dX12_rules_68 (lv_at hl 4 rfl) ?_
        refine lv_goto (tgt := 74) (pc := 70) hx hb dX12_rules_70 (by decide) ?_
        refine lv_istore_n (lv' := [(3, .int x4), (2, .int (t1 + t0)), (0, .ref this), (1, .int q1), (4, .int x4), (5, .int x5)]) (pc := 74) hx hb dX12_rules_74 rfl hl (Nat.le_of_ble_eq_true rfl) rfl (fun ls hl => ?_)
        refine lv_iinc (k := 4) (v := x4 + 1) (lv' := [(4, .int (x4 + 1)), (3, .int x4), (2, .int (t1 + t0)), (0, .ref this), (1, .int q1), (5, .int x5)]) (pc := 75) hx hb dX12_rules_75 hl rfl rfl (Nat.le_of_ble_eq_true rfl) rfl (fun ls hl => ?_)
        refine lv_goto (tgt := 23) (pc := 78) hx hb dX12_rules_78 (by decide) ?_
        exact hK23 (t1 + t0) x4 (x4 + 1) u_this_thrown u_this_weight u_this_rounding u_this_facts_f u_this_pile_f u_this_state_f u_this_lacks_f H locs ls hP hD hS (lv_sub hl [3, 4, 2, 1, 0] rfl) hm
  have h_23 : ∀ (n : Nat), ∀ (x2 : Int32) (x3 : Int32) (x4 : Int32) (u_this_thrown : Int32) (u_this_weight : Int32) (u_this_rounding : Int32) (u_this_facts_f : Nat → Int32) (u_this_pile_f : Nat → Int32) (u_this_state_f : Nat → Int32) (u_this_lacks_f : Nat → Int32) (H : Heap) (locs : List Loc) (ls : Array Slot), va_P D vwCl (wd_X12_rules k this u_this_thrown this_tape this_taped this_size this_sort this_place this_value this_at this_fault this_words this_towns this_towns_f this_op this_op_f this_arg this_arg_f this_codes this_names this_readNames this_namesMany this_readMany this_once this_lines this_facts u_this_facts_f this_pile u_this_pile_f this_state u_this_state_f this_undos this_isMarked u_this_weight u_this_rounding this_lacks u_this_lacks_f this_alikes this_g) H → va_D A (wd_X12_rules k this u_this_thrown this_tape this_taped this_size this_sort this_place this_value this_at this_fault this_words this_towns this_towns_f this_op this_op_f this_arg this_arg_f this_codes this_names this_readNames this_namesMany this_readMany this_once this_lines this_facts u_this_facts_f this_pile u_this_pile_f this_state u_this_state_f this_undos this_isMarked u_this_weight u_this_rounding this_lacks u_this_lacks_f this_alikes this_g) → va_S A s.heap H locs → lv_has ls 6 [(0, .ref this), (1, .int q1), (2, .int x2), (3, .int x3), (4, .int x4)] → m_X12_rules_23 this_towns_f this_op_f this_arg_f q1 n x2 x3 x4 u_this_thrown u_this_weight u_this_rounding u_this_facts_f u_this_pile_f u_this_state_f u_this_lacks_f = some R0 → W p l e (Rm 7 164) s m args below meth c H locs 0 0 (MQ below (QW D (some (.int R0.1)) (wd_X12_rules k this this_thrown this_tape this_taped this_size this_sort this_place this_value this_at this_fault this_words this_towns this_towns_f this_op this_op_f this_arg this_arg_f this_codes this_names this_readNames this_namesMany this_readMany this_once this_lines this_facts this_facts_f this_pile this_pile_f this_state this_state_f this_undos this_isMarked this_weight this_rounding this_lacks this_lacks_f this_alikes this_g) (wd_X12_rules k this R0.2.1 this_tape this_taped this_size this_sort this_place this_value this_at this_fault this_words this_towns this_towns_f this_op this_op_f this_arg this_arg_f this_codes this_names this_readNames this_namesMany this_readMany this_once this_lines this_facts R0.2.2.2.2.1 this_pile R0.2.2.2.2.2.1 this_state R0.2.2.2.2.2.2.1 this_undos this_isMarked R0.2.2.1 R0.2.2.2.1 this_lacks R0.2.2.2.2.2.2.2 this_alikes this_g) s.heap.size) args s 0 0 A) (F0 m 23 ls []) := by
    intro n
    induction n with
    | zero => intro x2 x3 x4 u_this_thrown u_this_weight u_this_rounding u_this_facts_f u_this_pile_f u_this_state_f u_this_lacks_f H locs ls hP hD hS hl hm; cases hm
    | succ n ih =>
      intro x2 x3 x4 u_this_thrown u_this_weight u_this_rounding u_this_facts_f u_this_pile_f u_this_state_f u_this_lacks_f H locs ls hP hD hS hl hm
      unfold m_X12_rules_23 at hm
      refine lv_iload (pc := 23) hx hb dX12_rules_23 (lv_at hl 4 rfl) ?_
      refine lv_bipush (v := 60) (pc := 25) hx hb dX12_rules_25 (by decide) ?_
      refine lv_icmp_ge (tgt := 81) (pc := 27) hx hb dX12_rules_27 (by decide) (fun hc => ?_) (fun hc => ?_)
      · rw [if_pos hc] at hm
        refine lv_iload_n (pc := 81) hx hb dX12_rules_81 rfl (lv_at hl 1 rfl) ?_
        refine lv_if_ne (tgt := 89) (pc := 82) hx hb dX12_rules_82 (by decide) (fun hc => ?_) (fun hc => ?_)
        · rw [if_neg hc] at hm
          refine lv_iload_n (pc := 89) hx hb dX12_rules_89 rfl (lv_at hl 3 rfl) ?_
          refine lv_if_ge (tgt := 97) (pc := 90) hx hb dX12_rules_90 (by decide) (fun hc => ?_) (fun hc => ?_)
          · rw [if_pos hc] at hm
            refine lv_iload_n (pc := 97) hx hb dX12_rules_97 rfl (lv_at hl 1 rfl) ?_
            refine lv_iconst (v := 1) (pc := 98) hx hb dX12_rules_98 (by decide) ?_
            refine lv_icmp_ne (tgt := 110) (pc := 99) hx hb dX12_rules_99 (by decide) (fun hc => ?_) (fun hc => ?_)
            · rw [if_neg hc] at hm
              refine lv_iload_n (pc := 110) hx hb dX12_rules_110 rfl (lv_at hl 3 rfl) ?_
              refine lv_iconst (v := 3) (pc := 111) hx hb dX12_rules_111 (by decide) ?_
              refine lv_irem (pc := 112) hx hb dX12_rules_112 (by decide) ?_
              rw [← Option.some.inj hm]
              exact W.iret hx hb hr (fun t ht _ => hq _ _ H t ht hP hD locs hS) hS.2.2 dX12_rules_113 hlocks
            · rw [if_pos hc] at hm
              refine lv_iconst (v := 1) (pc := 102) hx hb dX12_rules_102 (by decide) ?_
              refine lv_iload_n (pc := 103) hx hb dX12_rules_103 rfl (lv_at hl 3 rfl) ?_
              refine lv_iconst (v := 3) (pc := 104) hx hb dX12_rules_104 (by decide) ?_
              refine lv_idiv (pc := 105) hx hb dX12_rules_105 (by decide) ?_
              refine lv_iadd (pc := 106) hx hb dX12_rules_106 ?_
              refine lv_goto (tgt := 113) (pc := 107) hx hb dX12_rules_107 (by decide) ?_
              rw [← Option.some.inj hm]
              exact W.iret hx hb hr (fun t ht _ => hq _ _ H t ht hP hD locs hS) hS.2.2 dX12_rules_113 hlocks
          · rw [if_neg hc] at hm
            refine lv_iconst (v := (-1)) (pc := 93) hx hb dX12_rules_93 (by decide) ?_
            refine lv_goto (tgt := 113) (pc := 94) hx hb dX12_rules_94 (by decide) ?_
            rw [← Option.some.inj hm]
            exact W.iret hx hb hr (fun t ht _ => hq _ _ H t ht hP hD locs hS) hS.2.2 dX12_rules_113 hlocks
        · rw [if_pos hc] at hm
          refine lv_iload_n (pc := 85) hx hb dX12_rules_85 rfl (lv_at hl 2 rfl) ?_
          refine lv_goto (tgt := 113) (pc := 86) hx hb dX12_rules_86 (by decide) ?_
          rw [← Option.some.inj hm]
          exact W.iret hx hb hr (fun t ht _ => hq _ _ H t ht hP hD locs hS) hS.2.2 dX12_rules_113 hlocks
      · rw [if_neg hc] at hm
        refine lv_aload_n (pc := 30) hx hb dX12_rules_30 rfl (lv_at hl 0 rfl) ?_
        refine lv_iconst (v := 1) (pc := 31) hx hb dX12_rules_31 (by decide) ?_
        refine lv_iload (pc := 32) hx hb dX12_rules_32 (lv_at hl 4 rfl) ?_
        refine lv_iconst (v := 3) (pc := 34) hx hb dX12_rules_34 (by decide) ?_
        refine lv_idiv (pc := 35) hx hb dX12_rules_35 (by decide) ?_
        refine lv_iadd (pc := 36) hx hb dX12_rules_36 ?_
        refine lv_iload (pc := 37) hx hb dX12_rules_37 (lv_at hl 4 rfl) ?_
        refine lv_iconst (v := 3) (pc := 39) hx hb dX12_rules_39 (by decide) ?_
        refine lv_irem (pc := 40) hx hb dX12_rules_40 (by decide) ?_
        obtain ⟨r3, hcl, hm⟩ := bd hm
        refine cw_mask (ws' := (wd_X12_rules k this u_this_thrown this_tape this_taped this_size this_sort this_place this_value this_at this_fault this_words this_towns this_towns_f this_op this_op_f this_arg this_arg_f this_codes this_names this_readNames this_namesMany this_readMany this_once this_lines this_facts r3.2.2.2.1 this_pile r3.2.2.2.2.1 this_state r3.2.2.2.2.2.1 this_undos this_isMarked r3.2.1 r3.2.2.1 this_lacks r3.2.2.2.2.2.2 this_alikes this_g)) (run_V (pc := 41) (n := 2) (As := [.int (1 + (x4 / 3)), .int (x4 - x4 / 3 * 3)]) (rest := []) ⟨hx, hb, hml, hown, hts⟩ ((c_X12_isMeasured l D k this u_this_thrown this_tape this_taped this_size this_sort this_place this_value this_at this_fault this_words this_towns this_towns_f this_op this_op_f this_arg this_arg_f this_codes this_names this_readNames this_namesMany this_readMany this_once this_lines this_facts u_this_facts_f this_pile u_this_pile_f this_state u_this_state_f this_undos this_isMarked u_this_weight u_this_rounding this_lacks u_this_lacks_f this_alikes this_g (1 + (x4 / 3)) (x4 - x4 / 3 * 3) r3 hcl) H.size) ⟨kw_1671, kw_16, by decide +kernel⟩ kw_1668 kw_1670 ks_140 ⟨Nat.le_of_ble_eq_true rfl, Nat.le_of_ble_eq_true rfl⟩ pw_blind (prW (P_pick [true, true, true, true, true, true, true, true] rfl hP) hG (D_pick [true, true, true, true, true, true, true, true] rfl hD)) (va_recv hG.1 hP (ci := 10) (q0 := 0) rfl rfl) rfl hl.1 rfl (Nat.le_of_ble_eq_true rfl) dX12_rules_41 ⟨Nat.zero_le _, Nat.zero_le _⟩) hP hD hS hA [true, true, true, true, true, true, true, true] rfl rfl rfl (fun H locs hP hD hS => ?_)
        refine lv_istore (lv' := [(5, .int r3.1), (0, .ref this), (1, .int q1), (2, .int x2), (3, .int x3), (4, .int x4)]) (pc := 44) hx hb dX12_rules_44 hl (Nat.le_of_ble_eq_true rfl) rfl (fun ls hl => ?_)
        refine lv_iload_n (pc := 46) hx hb dX12_rules_46 rfl (lv_at hl 3 rfl) ?_
        refine lv_iload (pc := 47) hx hb dX12_rules_47 (lv_at hl 0 rfl) ?_
        refine lv_if_eq (tgt := 56) (pc := 49) hx hb dX12_rules_49 (by decide) (fun hc => ?_) (fun hc => ?_)
        · rw [if_pos hc] at hm
          refine lv_iconst (v := 0) (pc := 56) hx hb dX12_rules_56 (by decide) ?_
          exact h_57 (m_X12_rules_23 this_towns_f this_op_f this_arg_f q1 n) ih x3 x4 r3.1 0 x2 u_this_thrown r3.2.1 r3.2.2.1 r3.2.2.2.1 r3.2.2.2.2.1 r3.2.2.2.2.2.1 r3.2.2.2.2.2.2 H locs ls hP hD hS (lv_sub hl [1, 2, 4, 5, 0] rfl) hm
        · rw [if_neg hc] at hm
          refine lv_iconst (v := 1) (pc := 52) hx hb dX12_rules_52 (by decide) ?_
          refine lv_goto (tgt := 57) (pc := 53) hx hb dX12_rules_53 (by decide) ?_
          exact h_57 (m_X12_rules_23 this_towns_f this_op_f this_arg_f q1 n) ih x3 x4 r3.1 1 x2 u_this_thrown r3.2.1 r3.2.2.1 r3.2.2.2.1 r3.2.2.2.2.1 r3.2.2.2.2.2.1 r3.2.2.2.2.2.2 H locs ls hP hD hS (lv_sub hl [1, 2, 4, 5, 0] rfl) hm
  unfold m_X12_rules at hm
  suffices hgo : ∀ (H : Heap) (locs : List Loc), va_P D vwCl (wd_X12_rules k this this_thrown this_tape this_taped this_size this_sort this_place this_value this_at this_fault this_words this_towns this_towns_f this_op this_op_f this_arg this_arg_f this_codes this_names this_readNames this_namesMany this_readMany this_once this_lines this_facts this_facts_f this_pile this_pile_f this_state this_state_f this_undos this_isMarked this_weight this_rounding this_lacks this_lacks_f this_alikes this_g) H → va_D A (wd_X12_rules k this this_thrown this_tape this_taped this_size this_sort this_place this_value this_at this_fault this_words this_towns this_towns_f this_op this_op_f this_arg this_arg_f this_codes this_names this_readNames this_namesMany this_readMany this_once this_lines this_facts this_facts_f this_pile this_pile_f this_state this_state_f this_undos this_isMarked this_weight this_rounding this_lacks this_lacks_f this_alikes this_g) → va_S A s.heap H locs → W p l e (Rm 7 164) s m args below meth c H locs 0 0 (MQ below (QW D (some (.int R0.1)) (wd_X12_rules k this this_thrown this_tape this_taped this_size this_sort this_place this_value this_at this_fault this_words this_towns this_towns_f this_op this_op_f this_arg this_arg_f this_codes this_names this_readNames this_namesMany this_readMany this_once this_lines this_facts this_facts_f this_pile this_pile_f this_state this_state_f this_undos this_isMarked this_weight this_rounding this_lacks this_lacks_f this_alikes this_g) (wd_X12_rules k this R0.2.1 this_tape this_taped this_size this_sort this_place this_value this_at this_fault this_words this_towns this_towns_f this_op this_op_f this_arg this_arg_f this_codes this_names this_readNames this_namesMany this_readMany this_once this_lines this_facts R0.2.2.2.2.1 this_pile R0.2.2.2.2.2.1 this_state R0.2.2.2.2.2.2.1 this_undos this_isMarked R0.2.2.1 R0.2.2.2.1 this_lacks R0.2.2.2.2.2.2.2 this_alikes this_g) s.heap.size) args s 0 0 A) (F0 m 0 ls []) from hgo _ _ hP hD hS
  clear hP hD hS
  intro H locs hP hD hS
  refine lv_aload_n (pc := 0) hx hb dX12_rules_0 rfl (lv_at hl 0 rfl) ?_
  refine lv_iconst (v := 0) (pc := 1) hx hb dX12_rules_1 (by decide) ?_
  refine va_put (pc := 2) (D := D) (ci := 10) (v := .int 0) (ty := .int) (C := RX12) (T := TX12) (N := 30) hx hb hts hiX12 tyX12 tyX12_ok nmX12 hown hG.1 hP hD hS 0 rfl rfl 0 (Nat.le_of_ble_eq_true rfl) (hts _ kw_1257) (fun _ h9 => h9) rfl (by decide +kernel) rfl rfl (Nat.le_of_ble_eq_true rfl) dX12_rules_2 (fun H locs hP hD hS => ?_)
  have hP : va_P D vwCl (wd_X12_rules k this 0 this_tape this_taped this_size this_sort this_place this_value this_at this_fault this_words this_towns this_towns_f this_op this_op_f this_arg this_arg_f this_codes this_names this_readNames this_namesMany this_readMany this_once this_lines this_facts this_facts_f this_pile this_pile_f this_state this_state_f this_undos this_isMarked this_weight this_rounding this_lacks this_lacks_f this_alikes this_g) H := hP
  have hD : va_D A (wd_X12_rules k this 0 this_tape this_taped this_size this_sort this_place this_value this_at this_fault this_words this_towns this_towns_f this_op this_op_f this_arg this_arg_f this_codes this_names this_readNames this_namesMany this_readMany this_once this_lines this_facts this_facts_f this_pile this_pile_f this_state this_state_f this_undos this_isMarked this_weight this_rounding this_lacks this_lacks_f this_alikes this_g) := hD
  refine lv_iload_n (pc := 5) hx hb dX12_rules_5 rfl (lv_at hl 1 rfl) ?_
  refine lv_iconst (v := 0) (pc := 6) hx hb dX12_rules_6 (by decide) ?_
  refine lv_iconst (v := 2) (pc := 7) hx hb dX12_rules_7 (by decide) ?_
  obtain ⟨r4, hcl, hm⟩ := bd hm
  refine cr_back (run_S (pc := 8) (n := 3) (As := [.int q1, .int 0, .int 2]) (rest := []) ⟨hx, hb, hml, hown, hts⟩ (c_X12_within l D k q1 0 2 r4 hcl) ⟨kw_1501, kw_16, by decide +kernel⟩ kw_1499 kw_1500 ⟨Nat.le_of_ble_eq_true rfl, Nat.le_of_ble_eq_true rfl⟩ pr_blind (prR (hP.sub [] rfl) hG) rfl hl.1 rfl (Nat.le_of_ble_eq_true rfl) dX12_rules_8 ⟨Nat.zero_le _, Nat.zero_le _⟩) ?_
  refine lv_if_ne (tgt := 16) (pc := 11) hx hb dX12_rules_11 (by decide) (fun hc => ?_) (fun hc => ?_)
  · rw [if_neg hc] at hm
    refine lv_iconst (v := 0) (pc := 16) hx hb dX12_rules_16 (by decide) ?_
    refine lv_istore_n (lv' := [(2, .int 0), (0, .ref this), (1, .int q1)]) (pc := 17) hx hb dX12_rules_17 rfl hl (Nat.le_of_ble_eq_true rfl) rfl (fun ls hl => ?_)
    refine lv_iconst (v := (-1)) (pc := 18) hx hb dX12_rules_18 (by decide) ?_
    refine lv_istore_n (lv' := [(3, .int (-1)), (2, .int 0), (0, .ref this), (1, .int q1)]) (pc := 19) hx hb dX12_rules_19 rfl hl (Nat.le_of_ble_eq_true rfl) rfl (fun ls hl => ?_)
    refine lv_iconst (v := 0) (pc := 20) hx hb dX12_rules_20 (by decide) ?_
    refine lv_istore (lv' := [(4, .int 0), (3, .int (-1)), (2, .int 0), (0, .ref this), (1, .int q1)]) (pc := 21) hx hb dX12_rules_21 hl (Nat.le_of_ble_eq_true rfl) rfl (fun ls hl => ?_)
    exact h_23 FU 0 (-1) 0 0 this_weight this_rounding this_facts_f this_pile_f this_state_f this_lacks_f H locs ls hP hD hS (lv_sub hl [3, 4, 2, 1, 0] rfl) hm
  · rw [if_pos hc] at hm
    refine lv_iconst (v := (-1)) (pc := 14) hx hb dX12_rules_14 (by decide) ?_
    rw [← Option.some.inj hm]
    exact W.iret hx hb hr (fun t ht _ => hq _ _ H t ht hP hD locs hS) hS.2.2 dX12_rules_15 hlocks
theorem dX12_feltIn_0 : decode cX12_feltIn 0 = .ok (.aload_n 0, 1) := by decide +kernel
theorem dX12_feltIn_1 : decode cX12_feltIn 1 = .ok (.getfield 113, 3) := by decide +kernel
theorem dX12_feltIn_4 : decode cX12_feltIn 4 = .ok (.bipush 7, 2) := by decide +kernel
theorem dX12_feltIn_6 : decode cX12_feltIn 6 = .ok (.iload_n 1, 1) := by decide +kernel
theorem dX12_feltIn_7 : decode cX12_feltIn 7 = .ok (.iadd, 1) := by decide +kernel
theorem dX12_feltIn_8 : decode cX12_feltIn 8 = .ok (.iaload, 1) := by decide +kernel
theorem dX12_feltIn_9 : decode cX12_feltIn 9 = .ok (.istore_n 3, 1) := by decide +kernel
theorem dX12_feltIn_10 : decode cX12_feltIn 10 = .ok (.iconst 1, 1) := by decide +kernel
theorem dX12_feltIn_11 : decode cX12_feltIn 11 = .ok (.istore 4, 2) := by decide +kernel
theorem dX12_feltIn_13 : decode cX12_feltIn 13 = .ok (.iload 4, 2) := by decide +kernel
theorem dX12_feltIn_15 : decode cX12_feltIn 15 = .ok (.iload_n 2, 1) := by decide +kernel
theorem dX12_feltIn_16 : decode cX12_feltIn 16 = .ok (.if_icmp .ge 54, 3) := by decide +kernel
theorem dX12_feltIn_19 : decode cX12_feltIn 19 = .ok (.iconst 0, 1) := by decide +kernel
theorem dX12_feltIn_20 : decode cX12_feltIn 20 = .ok (.istore 5, 2) := by decide +kernel
theorem dX12_feltIn_22 : decode cX12_feltIn 22 = .ok (.iload 5, 2) := by decide +kernel
theorem dX12_feltIn_24 : decode cX12_feltIn 24 = .ok (.aload_n 0, 1) := by decide +kernel
theorem dX12_feltIn_25 : decode cX12_feltIn 25 = .ok (.invokevirtual 255, 3) := by decide +kernel
theorem dX12_feltIn_28 : decode cX12_feltIn 28 = .ok (.if_icmp .ge 36, 3) := by decide +kernel
theorem dX12_feltIn_31 : decode cX12_feltIn 31 = .ok (.iload_n 3, 1) := by decide +kernel
theorem dX12_feltIn_32 : decode cX12_feltIn 32 = .ok (.iload_n 3, 1) := by decide +kernel
theorem dX12_feltIn_33 : decode cX12_feltIn 33 = .ok (.iload 5, 2) := by decide +kernel
theorem dX12_feltIn_35 : decode cX12_feltIn 35 = .ok (.ishr, 1) := by decide +kernel
theorem dX12_feltIn_36 : decode cX12_feltIn 36 = .ok (.iconst 1, 1) := by decide +kernel
theorem dX12_feltIn_37 : decode cX12_feltIn 37 = .ok (.iand, 1) := by decide +kernel
theorem dX12_feltIn_38 : decode cX12_feltIn 38 = .ok (.iconst 1, 1) := by decide +kernel
theorem dX12_feltIn_39 : decode cX12_feltIn 39 = .ok (.if_icmp .ne 16, 3) := by decide +kernel
theorem dX12_feltIn_42 : decode cX12_feltIn 42 = .ok (.aload_n 0, 1) := by decide +kernel
theorem dX12_feltIn_43 : decode cX12_feltIn 43 = .ok (.getfield 113, 3) := by decide +kernel
theorem dX12_feltIn_46 : decode cX12_feltIn 46 = .ok (.bipush 7, 2) := by decide +kernel
theorem dX12_feltIn_48 : decode cX12_feltIn 48 = .ok (.iload 5, 2) := by decide +kernel
theorem dX12_feltIn_50 : decode cX12_feltIn 50 = .ok (.iadd, 1) := by decide +kernel
theorem dX12_feltIn_51 : decode cX12_feltIn 51 = .ok (.iaload, 1) := by decide +kernel
theorem dX12_feltIn_52 : decode cX12_feltIn 52 = .ok (.goto 4, 3) := by decide +kernel
theorem dX12_feltIn_55 : decode cX12_feltIn 55 = .ok (.iconst 0, 1) := by decide +kernel
theorem dX12_feltIn_56 : decode cX12_feltIn 56 = .ok (.ior, 1) := by decide +kernel
theorem dX12_feltIn_57 : decode cX12_feltIn 57 = .ok (.istore_n 3, 1) := by decide +kernel
theorem dX12_feltIn_58 : decode cX12_feltIn 58 = .ok (.iinc 5 1, 3) := by decide +kernel
theorem dX12_feltIn_61 : decode cX12_feltIn 61 = .ok (.goto (-39), 3) := by decide +kernel
theorem dX12_feltIn_64 : decode cX12_feltIn 64 = .ok (.iinc 4 1, 3) := by decide +kernel
theorem dX12_feltIn_67 : decode cX12_feltIn 67 = .ok (.goto (-54), 3) := by decide +kernel
theorem dX12_feltIn_70 : decode cX12_feltIn 70 = .ok (.iload_n 3, 1) := by decide +kernel
theorem dX12_feltIn_71 : decode cX12_feltIn 71 = .ok (.ireturn, 1) := by decide +kernel
abbrev wd_X12_feltIn (k : Nat → ClassId) (this : Nat) (this_thrown : Int32) (this_tape : Nat) (this_taped : Int32) (this_size : Int32) (this_sort : Nat) (this_place : Nat) (this_value : Nat) (this_at : Int32) (this_fault : Int32) (this_words : Nat) (this_towns : Nat) (this_towns_f : Nat → Int32) (this_op : Nat) (this_arg : Nat) (this_codes : Int32) (this_names : Nat) (this_readNames : Nat) (this_namesMany : Int32) (this_readMany : Int32) (this_once : Int32) (this_lines : Nat) (this_facts : Nat) (this_pile : Nat) (this_state : Nat) (this_state_f : Nat → Int32) (this_undos : Int32) (this_isMarked : Nat) (this_weight : Int32) (this_rounding : Int32) (this_lacks : Nat) (this_alikes : Nat) (this_g : Int64) : va_W := [(this, .inr (10, [.int this_thrown, .ref this_tape, .int this_taped, .int this_size, .ref this_sort, .ref this_place, .ref this_value, .int this_at, .int this_fault, .ref this_words, .ref this_towns, .ref this_op, .ref this_arg, .int this_codes, .ref this_names, .ref this_readNames, .int this_namesMany, .int this_readMany, .int this_once, .ref this_lines, .ref this_facts, .ref this_pile, .ref this_state, .int this_undos, .ref this_isMarked, .int this_weight, .int this_rounding, .ref this_lacks, .ref this_alikes, .long this_g])), (this_towns, .inl (k 0, 60, .inl this_towns_f)), (this_state, .inl (k 0, 1104, .inl this_state_f))]
set_option maxHeartbeats 4000000 in
set_option maxRecDepth 100000 in
theorem c_X12_feltIn (l : Launch) (D : va_G) (k : Nat → ClassId) (this : Nat) (this_thrown : Int32) (this_tape : Nat) (this_taped : Int32) (this_size : Int32) (this_sort : Nat) (this_place : Nat) (this_value : Nat) (this_at : Int32) (this_fault : Int32) (this_words : Nat) (this_towns : Nat) (this_towns_f : Nat → Int32) (this_op : Nat) (this_arg : Nat) (this_codes : Int32) (this_names : Nat) (this_readNames : Nat) (this_namesMany : Int32) (this_readMany : Int32) (this_once : Int32) (this_lines : Nat) (this_facts : Nat) (this_pile : Nat) (this_state : Nat) (this_state_f : Nat → Int32) (this_undos : Int32) (this_isMarked : Nat) (this_weight : Int32) (this_rounding : Int32) (this_lacks : Nat) (this_alikes : Nat) (this_g : Int64) (q1 : Int32) (q2 : Int32) (R0 : Int32) (hm : m_X12_feltIn this_towns_f this_state_f q1 q2 = some R0) : CR l D (TY k) yX12_feltIn cX12_feltIn 6 (some .int) 1 20 [.ref this, .int q1, .int q2] (wd_X12_feltIn k this this_thrown this_tape this_taped this_size this_sort this_place this_value this_at this_fault this_words this_towns this_towns_f this_op this_arg this_codes this_names this_readNames this_namesMany this_readMany this_once this_lines this_facts this_pile this_state this_state_f this_undos this_isMarked this_weight this_rounding this_lacks this_alikes this_g) (some (.int R0)) := by
  refine CR.mk (by decide) (Nat.le_of_ble_eq_true rfl) ?_
  intro p e s m args below meth c ls ⟨hx, hb, hr, hts, hown, hlocks, hml⟩ hP hG hl
  have hl : lv_has ls 6 [(0, .ref this), (1, .int q1), (2, .int q2)] := hl
  have h_22 : ∀ (K13 : Int32 → Int32 → Option (Int32)) (hK13 : ∀ (x3 : Int32) (x4 : Int32) (ls : Array Slot), lv_has ls 6 [(0, .ref this), (2, .int q2), (3, .int x3), (4, .int x4)] → K13 x3 x4 = some R0 → W p l e (Rm 1 20) s m args below meth c s.heap [] 0 0 (MQ below (QR (some (.int R0))) args s 0 0 (fun _ => False)) (F0 m 13 ls [])), ∀ (n : Nat), ∀ (x3 : Int32) (x4 : Int32) (x5 : Int32) (ls : Array Slot), lv_has ls 6 [(0, .ref this), (2, .int q2), (3, .int x3), (4, .int x4), (5, .int x5)] → m_X12_feltIn_22 this_towns_f this_state_f q1 q2 K13 n x3 x4 x5 = some R0 → W p l e (Rm 1 20) s m args below meth c s.heap [] 0 0 (MQ below (QR (some (.int R0))) args s 0 0 (fun _ => False)) (F0 m 22 ls []) := by
    intro K13 hK13
    intro n
    induction n with
    | zero => intro x3 x4 x5 ls hl hm; cases hm
    | succ n ih =>
      intro x3 x4 x5 ls hl hm
      unfold m_X12_feltIn_22 at hm
      refine lv_iload (pc := 22) hx hb dX12_feltIn_22 (lv_at hl 4 rfl) ?_
      refine lv_aload_n (pc := 24) hx hb dX12_feltIn_24 rfl (lv_at hl 0 rfl) ?_
      obtain ⟨r3, hcl, hm⟩ := bd hm
      refine cr_back (run_V (pc := 25) (n := 0) (As := []) (rest := [.int x5]) ⟨hx, hb, hml, hown, hts⟩ (c_X12_persons l D k this this_thrown this_tape this_taped this_size this_sort this_place this_value this_at this_fault this_words this_towns this_towns_f this_op this_arg this_codes this_names this_readNames this_namesMany this_readMany this_once this_lines this_facts this_pile this_state this_undos this_isMarked this_weight this_rounding this_lacks this_alikes this_g r3 hcl) ⟨kw_1252, kw_16, by decide +kernel⟩ kw_1249 kw_1251 ks_97 ⟨Nat.le_of_ble_eq_true rfl, Nat.le_of_ble_eq_true rfl⟩ pr_blind (prR (hP.sub [0, 1] rfl) hG) (va_recv hG.1 hP (ci := 10) (q0 := 0) rfl rfl) rfl hl.1 rfl (Nat.le_of_ble_eq_true rfl) dX12_feltIn_25 ⟨Nat.zero_le _, Nat.zero_le _⟩) ?_
      refine lv_icmp_ge (tgt := 64) (pc := 28) hx hb dX12_feltIn_28 (by decide) (fun hc => ?_) (fun hc => ?_)
      · rw [if_pos hc] at hm
        refine lv_iinc (k := 3) (v := x4 + 1) (lv' := [(4, .int (x4 + 1)), (0, .ref this), (2, .int q2), (3, .int x3), (5, .int x5)]) (pc := 64) hx hb dX12_feltIn_64 hl rfl rfl (Nat.le_of_ble_eq_true rfl) rfl (fun ls hl => ?_)
        refine lv_goto (tgt := 13) (pc := 67) hx hb dX12_feltIn_67 (by decide) ?_
        exact hK13 x3 (x4 + 1) ls (lv_sub hl [1, 2, 3, 0] rfl) hm
      · rw [if_neg hc] at hm
        refine lv_iload_n (pc := 31) hx hb dX12_feltIn_31 rfl (lv_at hl 2 rfl) ?_
        refine lv_iload_n (pc := 32) hx hb dX12_feltIn_32 rfl (lv_at hl 2 rfl) ?_
        refine lv_iload (pc := 33) hx hb dX12_feltIn_33 (lv_at hl 4 rfl) ?_
        refine lv_ishr (pc := 35) hx hb dX12_feltIn_35 ?_
        refine lv_iconst (v := 1) (pc := 36) hx hb dX12_feltIn_36 (by decide) ?_
        refine lv_iand (pc := 37) hx hb dX12_feltIn_37 ?_
        refine lv_iconst (v := 1) (pc := 38) hx hb dX12_feltIn_38 (by decide) ?_
        refine lv_icmp_ne (tgt := 55) (pc := 39) hx hb dX12_feltIn_39 (by decide) (fun hc => ?_) (fun hc => ?_)
        · rw [if_neg hc] at hm
          refine lv_iconst (v := 0) (pc := 55) hx hb dX12_feltIn_55 (by decide) ?_
          refine lv_ior (pc := 56) hx hb dX12_feltIn_56 ?_
          refine lv_istore_n (lv' := [(3, .int (x3 ||| 0)), (0, .ref this), (2, .int q2), (4, .int x4), (5, .int x5)]) (pc := 57) hx hb dX12_feltIn_57 rfl hl (Nat.le_of_ble_eq_true rfl) rfl (fun ls hl => ?_)
          refine lv_iinc (k := 4) (v := x5 + 1) (lv' := [(5, .int (x5 + 1)), (3, .int (x3 ||| 0)), (0, .ref this), (2, .int q2), (4, .int x4)]) (pc := 58) hx hb dX12_feltIn_58 hl rfl rfl (Nat.le_of_ble_eq_true rfl) rfl (fun ls hl => ?_)
          refine lv_goto (tgt := 22) (pc := 61) hx hb dX12_feltIn_61 (by decide) ?_
          exact ih (x3 ||| 0) x4 (x5 + 1) ls (lv_sub hl [2, 3, 1, 4, 0] rfl) hm
        · rw [if_pos hc] at hm
          refine lv_aload_n (pc := 42) hx hb dX12_feltIn_42 rfl (lv_at hl 0 rfl) ?_
          refine va_get (pc := 43) (D := D) (ci := 10) (C := RX12) (T := TX12) (N := 30) hx hb hts hiX12 hown hG.1 hP 0 rfl rfl 22 (Nat.le_of_ble_eq_true rfl) (hts _ kw_1279) (fun _ h9 => h9) rfl dX12_feltIn_43 ?_
          refine lv_bipush (v := 7) (pc := 46) hx hb dX12_feltIn_46 (by decide) ?_
          refine lv_iload (pc := 48) hx hb dX12_feltIn_48 (lv_at hl 4 rfl) ?_
          refine lv_iadd (pc := 50) hx hb dX12_feltIn_50 ?_
          obtain ⟨hin, hm⟩ := gd hm
          refine va_iald (pc := 51) (D := D) hx hb hG.1 hP 2 0 rfl rfl hin dX12_feltIn_51 ?_
          refine lv_goto (tgt := 56) (pc := 52) hx hb dX12_feltIn_52 (by decide) ?_
          refine lv_ior (pc := 56) hx hb dX12_feltIn_56 ?_
          obtain ⟨z4, hv, hm⟩ := bd hm
          refine lv_topi (fun w ew => ?_)
          obtain rfl : z4 = w := (Option.some.inj hv).symm.trans ew.symm
          refine lv_istore_n (lv' := [(3, .int z4), (0, .ref this), (2, .int q2), (4, .int x4), (5, .int x5)]) (pc := 57) hx hb dX12_feltIn_57 rfl hl (Nat.le_of_ble_eq_true rfl) rfl (fun ls hl => ?_)
          refine lv_iinc (k := 4) (v := x5 + 1) (lv' := [(5, .int (x5 + 1)), (3, .int z4), (0, .ref this), (2, .int q2), (4, .int x4)]) (pc := 58) hx hb dX12_feltIn_58 hl rfl rfl (Nat.le_of_ble_eq_true rfl) rfl (fun ls hl => ?_)
          refine lv_goto (tgt := 22) (pc := 61) hx hb dX12_feltIn_61 (by decide) ?_
          exact ih z4 x4 (x5 + 1) ls (lv_sub hl [2, 3, 1, 4, 0] rfl) hm
  have h_13 : ∀ (n : Nat), ∀ (x3 : Int32) (x4 : Int32) (ls : Array Slot), lv_has ls 6 [(0, .ref this), (2, .int q2), (3, .int x3), (4, .int x4)] → m_X12_feltIn_13 this_towns_f this_state_f q1 q2 n x3 x4 = some R0 → W p l e (Rm 1 20) s m args below meth c s.heap [] 0 0 (MQ below (QR (some (.int R0))) args s 0 0 (fun _ => False)) (F0 m 13 ls []) := by
    intro n
    induction n with
    | zero => intro x3 x4 ls hl hm; cases hm
    | succ n ih =>
      intro x3 x4 ls hl hm
      unfold m_X12_feltIn_13 at hm
      refine lv_iload (pc := 13) hx hb dX12_feltIn_13 (lv_at hl 3 rfl) ?_
      refine lv_iload_n (pc := 15) hx hb dX12_feltIn_15 rfl (lv_at hl 1 rfl) ?_
      refine lv_icmp_ge (tgt := 70) (pc := 16) hx hb dX12_feltIn_16 (by decide) (fun hc => ?_) (fun hc => ?_)
      · rw [if_pos hc] at hm
        refine lv_iload_n (pc := 70) hx hb dX12_feltIn_70 rfl (lv_at hl 2 rfl) ?_
        rw [← Option.some.inj hm]
        exact W.iret hx hb hr (fun t ht _ => ⟨rfl, ht⟩) (fun _ h => by cases h) dX12_feltIn_71 hlocks
      · rw [if_neg hc] at hm
        refine lv_iconst (v := 0) (pc := 19) hx hb dX12_feltIn_19 (by decide) ?_
        refine lv_istore (lv' := [(5, .int 0), (0, .ref this), (2, .int q2), (3, .int x3), (4, .int x4)]) (pc := 20) hx hb dX12_feltIn_20 hl (Nat.le_of_ble_eq_true rfl) rfl (fun ls hl => ?_)
        exact h_22 (m_X12_feltIn_13 this_towns_f this_state_f q1 q2 n) ih FU x3 x4 0 ls (lv_sub hl [1, 2, 3, 4, 0] rfl) hm
  unfold m_X12_feltIn at hm
  refine lv_aload_n (pc := 0) hx hb dX12_feltIn_0 rfl (lv_at hl 0 rfl) ?_
  refine va_get (pc := 1) (D := D) (ci := 10) (C := RX12) (T := TX12) (N := 30) hx hb hts hiX12 hown hG.1 hP 0 rfl rfl 22 (Nat.le_of_ble_eq_true rfl) (hts _ kw_1279) (fun _ h9 => h9) rfl dX12_feltIn_1 ?_
  refine lv_bipush (v := 7) (pc := 4) hx hb dX12_feltIn_4 (by decide) ?_
  refine lv_iload_n (pc := 6) hx hb dX12_feltIn_6 rfl (lv_at hl 1 rfl) ?_
  refine lv_iadd (pc := 7) hx hb dX12_feltIn_7 ?_
  obtain ⟨hin, hm⟩ := gd hm
  refine va_iald (pc := 8) (D := D) hx hb hG.1 hP 2 0 rfl rfl hin dX12_feltIn_8 ?_
  refine lv_istore_n (lv' := [(3, .int (this_state_f (7 + q1).toNatClampNeg)), (0, .ref this), (1, .int q1), (2, .int q2)]) (pc := 9) hx hb dX12_feltIn_9 rfl hl (Nat.le_of_ble_eq_true rfl) rfl (fun ls hl => ?_)
  refine lv_iconst (v := 1) (pc := 10) hx hb dX12_feltIn_10 (by decide) ?_
  refine lv_istore (lv' := [(4, .int 1), (3, .int (this_state_f (7 + q1).toNatClampNeg)), (0, .ref this), (1, .int q1), (2, .int q2)]) (pc := 11) hx hb dX12_feltIn_11 hl (Nat.le_of_ble_eq_true rfl) rfl (fun ls hl => ?_)
  exact h_13 FU (this_state_f (7 + q1).toNatClampNeg) 1 ls (lv_sub hl [2, 4, 1, 0] rfl) hm
theorem dX12_reach_0 : decode cX12_reach 0 = .ok (.aload_n 0, 1) := by decide +kernel
theorem dX12_reach_1 : decode cX12_reach 1 = .ok (.iconst 0, 1) := by decide +kernel
theorem dX12_reach_2 : decode cX12_reach 2 = .ok (.putfield 1, 3) := by decide +kernel
theorem dX12_reach_5 : decode cX12_reach 5 = .ok (.aload_n 0, 1) := by decide +kernel
theorem dX12_reach_6 : decode cX12_reach 6 = .ok (.iload_n 1, 1) := by decide +kernel
theorem dX12_reach_7 : decode cX12_reach 7 = .ok (.invokevirtual 303, 3) := by decide +kernel
theorem dX12_reach_10 : decode cX12_reach 10 = .ok (.ifCond .eq 13, 3) := by decide +kernel
theorem dX12_reach_13 : decode cX12_reach 13 = .ok (.aload_n 0, 1) := by decide +kernel
theorem dX12_reach_14 : decode cX12_reach 14 = .ok (.iload_n 1, 1) := by decide +kernel
theorem dX12_reach_15 : decode cX12_reach 15 = .ok (.bipush 7, 2) := by decide +kernel
theorem dX12_reach_17 : decode cX12_reach 17 = .ok (.invokevirtual 344, 3) := by decide +kernel
theorem dX12_reach_20 : decode cX12_reach 20 = .ok (.goto 4, 3) := by decide +kernel
theorem dX12_reach_23 : decode cX12_reach 23 = .ok (.iconst (-1), 1) := by decide +kernel
theorem dX12_reach_24 : decode cX12_reach 24 = .ok (.ireturn, 1) := by decide +kernel
abbrev wd_X12_reach (k : Nat → ClassId) (this : Nat) (this_thrown : Int32) (this_tape : Nat) (this_taped : Int32) (this_size : Int32) (this_sort : Nat) (this_place : Nat) (this_value : Nat) (this_at : Int32) (this_fault : Int32) (this_words : Nat) (this_towns : Nat) (this_towns_f : Nat → Int32) (this_op : Nat) (this_arg : Nat) (this_codes : Int32) (this_names : Nat) (this_readNames : Nat) (this_namesMany : Int32) (this_readMany : Int32) (this_once : Int32) (this_lines : Nat) (this_facts : Nat) (this_pile : Nat) (this_state : Nat) (this_state_f : Nat → Int32) (this_undos : Int32) (this_isMarked : Nat) (this_weight : Int32) (this_rounding : Int32) (this_lacks : Nat) (this_alikes : Nat) (this_g : Int64) : va_W := [(this, .inr (10, [.int this_thrown, .ref this_tape, .int this_taped, .int this_size, .ref this_sort, .ref this_place, .ref this_value, .int this_at, .int this_fault, .ref this_words, .ref this_towns, .ref this_op, .ref this_arg, .int this_codes, .ref this_names, .ref this_readNames, .int this_namesMany, .int this_readMany, .int this_once, .ref this_lines, .ref this_facts, .ref this_pile, .ref this_state, .int this_undos, .ref this_isMarked, .int this_weight, .int this_rounding, .ref this_lacks, .ref this_alikes, .long this_g])), (this_towns, .inl (k 0, 60, .inl this_towns_f)), (this_state, .inl (k 0, 1104, .inl this_state_f))]
set_option maxHeartbeats 4000000 in
set_option maxRecDepth 100000 in
theorem c_X12_reach (l : Launch) (D : va_G) (k : Nat → ClassId) (this : Nat) (this_thrown : Int32) (this_tape : Nat) (this_taped : Int32) (this_size : Int32) (this_sort : Nat) (this_place : Nat) (this_value : Nat) (this_at : Int32) (this_fault : Int32) (this_words : Nat) (this_towns : Nat) (this_towns_f : Nat → Int32) (this_op : Nat) (this_arg : Nat) (this_codes : Int32) (this_names : Nat) (this_readNames : Nat) (this_namesMany : Int32) (this_readMany : Int32) (this_once : Int32) (this_lines : Nat) (this_facts : Nat) (this_pile : Nat) (this_state : Nat) (this_state_f : Nat → Int32) (this_undos : Int32) (this_isMarked : Nat) (this_weight : Int32) (this_rounding : Int32) (this_lacks : Nat) (this_alikes : Nat) (this_g : Int64) (q1 : Int32) (R0 : Int32 × Int32) (hm : m_X12_reach this_towns_f this_state_f q1 = some R0) : CW l D (TY k) yX12_reach cX12_reach 2 (some .int) 2 45 [.ref this, .int q1] (wd_X12_reach k this this_thrown this_tape this_taped this_size this_sort this_place this_value this_at this_fault this_words this_towns this_towns_f this_op this_arg this_codes this_names this_readNames this_namesMany this_readMany this_once this_lines this_facts this_pile this_state this_state_f this_undos this_isMarked this_weight this_rounding this_lacks this_alikes this_g) (some (.int R0.1)) (wd_X12_reach k this R0.2 this_tape this_taped this_size this_sort this_place this_value this_at this_fault this_words this_towns this_towns_f this_op this_arg this_codes this_names this_readNames this_namesMany this_readMany this_once this_lines this_facts this_pile this_state this_state_f this_undos this_isMarked this_weight this_rounding this_lacks this_alikes this_g) := by
  refine CW.mk (by decide) (Nat.le_of_ble_eq_true rfl) ?_
  intro p e s m args below meth c ls A ⟨hx, hb, hr, hts, hown, hlocks, hml⟩ hP hG hD hA hl hS hq
  have hl : lv_has ls 2 [(0, .ref this), (1, .int q1)] := hl
  unfold m_X12_reach at hm
  suffices hgo : ∀ (H : Heap) (locs : List Loc), va_P D vwCl (wd_X12_reach k this this_thrown this_tape this_taped this_size this_sort this_place this_value this_at this_fault this_words this_towns this_towns_f this_op this_arg this_codes this_names this_readNames this_namesMany this_readMany this_once this_lines this_facts this_pile this_state this_state_f this_undos this_isMarked this_weight this_rounding this_lacks this_alikes this_g) H → va_D A (wd_X12_reach k this this_thrown this_tape this_taped this_size this_sort this_place this_value this_at this_fault this_words this_towns this_towns_f this_op this_arg this_codes this_names this_readNames this_namesMany this_readMany this_once this_lines this_facts this_pile this_state this_state_f this_undos this_isMarked this_weight this_rounding this_lacks this_alikes this_g) → va_S A s.heap H locs → W p l e (Rm 2 45) s m args below meth c H locs 0 0 (MQ below (QW D (some (.int R0.1)) (wd_X12_reach k this this_thrown this_tape this_taped this_size this_sort this_place this_value this_at this_fault this_words this_towns this_towns_f this_op this_arg this_codes this_names this_readNames this_namesMany this_readMany this_once this_lines this_facts this_pile this_state this_state_f this_undos this_isMarked this_weight this_rounding this_lacks this_alikes this_g) (wd_X12_reach k this R0.2 this_tape this_taped this_size this_sort this_place this_value this_at this_fault this_words this_towns this_towns_f this_op this_arg this_codes this_names this_readNames this_namesMany this_readMany this_once this_lines this_facts this_pile this_state this_state_f this_undos this_isMarked this_weight this_rounding this_lacks this_alikes this_g) s.heap.size) args s 0 0 A) (F0 m 0 ls []) from hgo _ _ hP hD hS
  clear hP hD hS
  intro H locs hP hD hS
  refine lv_aload_n (pc := 0) hx hb dX12_reach_0 rfl (lv_at hl 0 rfl) ?_
  refine lv_iconst (v := 0) (pc := 1) hx hb dX12_reach_1 (by decide) ?_
  refine va_put (pc := 2) (D := D) (ci := 10) (v := .int 0) (ty := .int) (C := RX12) (T := TX12) (N := 30) hx hb hts hiX12 tyX12 tyX12_ok nmX12 hown hG.1 hP hD hS 0 rfl rfl 0 (Nat.le_of_ble_eq_true rfl) (hts _ kw_1257) (fun _ h9 => h9) rfl (by decide +kernel) rfl rfl (Nat.le_of_ble_eq_true rfl) dX12_reach_2 (fun H locs hP hD hS => ?_)
  have hP : va_P D vwCl (wd_X12_reach k this 0 this_tape this_taped this_size this_sort this_place this_value this_at this_fault this_words this_towns this_towns_f this_op this_arg this_codes this_names this_readNames this_namesMany this_readMany this_once this_lines this_facts this_pile this_state this_state_f this_undos this_isMarked this_weight this_rounding this_lacks this_alikes this_g) H := hP
  have hD : va_D A (wd_X12_reach k this 0 this_tape this_taped this_size this_sort this_place this_value this_at this_fault this_words this_towns this_towns_f this_op this_arg this_codes this_names this_readNames this_namesMany this_readMany this_once this_lines this_facts this_pile this_state this_state_f this_undos this_isMarked this_weight this_rounding this_lacks this_alikes this_g) := hD
  refine lv_aload_n (pc := 5) hx hb dX12_reach_5 rfl (lv_at hl 0 rfl) ?_
  refine lv_iload_n (pc := 6) hx hb dX12_reach_6 rfl (lv_at hl 1 rfl) ?_
  obtain ⟨r3, hcl, hm⟩ := bd hm
  refine cr_back (run_V (pc := 7) (n := 1) (As := [.int q1]) (rest := []) ⟨hx, hb, hml, hown, hts⟩ (c_X12_isPerson l D k this 0 this_tape this_taped this_size this_sort this_place this_value this_at this_fault this_words this_towns this_towns_f this_op this_arg this_codes this_names this_readNames this_namesMany this_readMany this_once this_lines this_facts this_pile this_state this_undos this_isMarked this_weight this_rounding this_lacks this_alikes this_g q1 r3 hcl) ⟨kw_1498, kw_16, by decide +kernel⟩ kw_1495 kw_1497 ks_127 ⟨Nat.le_of_ble_eq_true rfl, Nat.le_of_ble_eq_true rfl⟩ pr_blind (prR (hP.sub [0, 1] rfl) hG) (va_recv hG.1 hP (ci := 10) (q0 := 0) rfl rfl) rfl hl.1 rfl (Nat.le_of_ble_eq_true rfl) dX12_reach_7 ⟨Nat.zero_le _, Nat.zero_le _⟩) ?_
  refine lv_if_eq (tgt := 23) (pc := 10) hx hb dX12_reach_10 (by decide) (fun hc => ?_) (fun hc => ?_)
  · rw [if_pos hc] at hm
    refine lv_iconst (v := (-1)) (pc := 23) hx hb dX12_reach_23 (by decide) ?_
    rw [← Option.some.inj hm]
    exact W.iret hx hb hr (fun t ht _ => hq _ _ H t ht hP hD locs hS) hS.2.2 dX12_reach_24 hlocks
  · rw [if_neg hc] at hm
    refine lv_aload_n (pc := 13) hx hb dX12_reach_13 rfl (lv_at hl 0 rfl) ?_
    refine lv_iload_n (pc := 14) hx hb dX12_reach_14 rfl (lv_at hl 1 rfl) ?_
    refine lv_bipush (v := 7) (pc := 15) hx hb dX12_reach_15 (by decide) ?_
    obtain ⟨r4, hcl, hm⟩ := bd hm
    refine cr_back (run_V (pc := 17) (n := 2) (As := [.int q1, .int 7]) (rest := []) ⟨hx, hb, hml, hown, hts⟩ (c_X12_feltIn l D k this 0 this_tape this_taped this_size this_sort this_place this_value this_at this_fault this_words this_towns this_towns_f this_op this_arg this_codes this_names this_readNames this_namesMany this_readMany this_once this_lines this_facts this_pile this_state this_state_f this_undos this_isMarked this_weight this_rounding this_lacks this_alikes this_g q1 7 r4 hcl) ⟨kw_1679, kw_16, by decide +kernel⟩ kw_1676 kw_1678 ks_141 ⟨Nat.le_of_ble_eq_true rfl, Nat.le_of_ble_eq_true rfl⟩ pr_blind (prR (hP.sub [0, 1, 2] rfl) hG) (va_recv hG.1 hP (ci := 10) (q0 := 0) rfl rfl) rfl hl.1 rfl (Nat.le_of_ble_eq_true rfl) dX12_reach_17 ⟨Nat.zero_le _, Nat.zero_le _⟩) ?_
    refine lv_goto (tgt := 24) (pc := 20) hx hb dX12_reach_20 (by decide) ?_
    rw [← Option.some.inj hm]
    exact W.iret hx hb hr (fun t ht _ => hq _ _ H t ht hP hD locs hS) hS.2.2 dX12_reach_24 hlocks
theorem dX12_through_0 : decode cX12_through 0 = .ok (.aload_n 0, 1) := by decide +kernel
theorem dX12_through_1 : decode cX12_through 1 = .ok (.iconst 0, 1) := by decide +kernel
theorem dX12_through_2 : decode cX12_through 2 = .ok (.putfield 1, 3) := by decide +kernel
theorem dX12_through_5 : decode cX12_through 5 = .ok (.aload_n 0, 1) := by decide +kernel
theorem dX12_through_6 : decode cX12_through 6 = .ok (.iload_n 1, 1) := by decide +kernel
theorem dX12_through_7 : decode cX12_through 7 = .ok (.invokevirtual 303, 3) := by decide +kernel
theorem dX12_through_10 : decode cX12_through 10 = .ok (.ifCond .eq 11, 3) := by decide +kernel
theorem dX12_through_13 : decode cX12_through 13 = .ok (.aload_n 0, 1) := by decide +kernel
theorem dX12_through_14 : decode cX12_through 14 = .ok (.iload_n 2, 1) := by decide +kernel
theorem dX12_through_15 : decode cX12_through 15 = .ok (.invokevirtual 303, 3) := by decide +kernel
theorem dX12_through_18 : decode cX12_through 18 = .ok (.ifCond .ne 5, 3) := by decide +kernel
theorem dX12_through_21 : decode cX12_through 21 = .ok (.iconst (-1), 1) := by decide +kernel
theorem dX12_through_22 : decode cX12_through 22 = .ok (.ireturn, 1) := by decide +kernel
theorem dX12_through_23 : decode cX12_through 23 = .ok (.aload_n 0, 1) := by decide +kernel
theorem dX12_through_24 : decode cX12_through 24 = .ok (.getfield 113, 3) := by decide +kernel
theorem dX12_through_27 : decode cX12_through 27 = .ok (.bipush 7, 2) := by decide +kernel
theorem dX12_through_29 : decode cX12_through 29 = .ok (.iload_n 1, 1) := by decide +kernel
theorem dX12_through_30 : decode cX12_through 30 = .ok (.iadd, 1) := by decide +kernel
theorem dX12_through_31 : decode cX12_through 31 = .ok (.iaload, 1) := by decide +kernel
theorem dX12_through_32 : decode cX12_through 32 = .ok (.istore_n 3, 1) := by decide +kernel
theorem dX12_through_33 : decode cX12_through 33 = .ok (.iconst 1, 1) := by decide +kernel
theorem dX12_through_34 : decode cX12_through 34 = .ok (.istore 4, 2) := by decide +kernel
theorem dX12_through_36 : decode cX12_through 36 = .ok (.iload 4, 2) := by decide +kernel
theorem dX12_through_38 : decode cX12_through 38 = .ok (.bipush 6, 2) := by decide +kernel
theorem dX12_through_40 : decode cX12_through 40 = .ok (.if_icmp .gt 74, 3) := by decide +kernel
theorem dX12_through_43 : decode cX12_through 43 = .ok (.iload_n 3, 1) := by decide +kernel
theorem dX12_through_44 : decode cX12_through 44 = .ok (.iload_n 2, 1) := by decide +kernel
theorem dX12_through_45 : decode cX12_through 45 = .ok (.ishr, 1) := by decide +kernel
theorem dX12_through_46 : decode cX12_through 46 = .ok (.iconst 1, 1) := by decide +kernel
theorem dX12_through_47 : decode cX12_through 47 = .ok (.iand, 1) := by decide +kernel
theorem dX12_through_48 : decode cX12_through 48 = .ok (.iconst 1, 1) := by decide +kernel
theorem dX12_through_49 : decode cX12_through 49 = .ok (.if_icmp .ne 6, 3) := by decide +kernel
theorem dX12_through_52 : decode cX12_through 52 = .ok (.iload 4, 2) := by decide +kernel
theorem dX12_through_54 : decode cX12_through 54 = .ok (.ireturn, 1) := by decide +kernel
theorem dX12_through_55 : decode cX12_through 55 = .ok (.iload_n 3, 1) := by decide +kernel
theorem dX12_through_56 : decode cX12_through 56 = .ok (.istore 5, 2) := by decide +kernel
theorem dX12_through_58 : decode cX12_through 58 = .ok (.iconst 0, 1) := by decide +kernel
theorem dX12_through_59 : decode cX12_through 59 = .ok (.istore 6, 2) := by decide +kernel
theorem dX12_through_61 : decode cX12_through 61 = .ok (.iload 6, 2) := by decide +kernel
theorem dX12_through_63 : decode cX12_through 63 = .ok (.aload_n 0, 1) := by decide +kernel
theorem dX12_through_64 : decode cX12_through 64 = .ok (.invokevirtual 255, 3) := by decide +kernel
theorem dX12_through_67 : decode cX12_through 67 = .ok (.if_icmp .ge 38, 3) := by decide +kernel
theorem dX12_through_70 : decode cX12_through 70 = .ok (.iload 5, 2) := by decide +kernel
theorem dX12_through_72 : decode cX12_through 72 = .ok (.iload_n 3, 1) := by decide +kernel
theorem dX12_through_73 : decode cX12_through 73 = .ok (.iload 6, 2) := by decide +kernel
theorem dX12_through_75 : decode cX12_through 75 = .ok (.ishr, 1) := by decide +kernel
theorem dX12_through_76 : decode cX12_through 76 = .ok (.iconst 1, 1) := by decide +kernel
theorem dX12_through_77 : decode cX12_through 77 = .ok (.iand, 1) := by decide +kernel
theorem dX12_through_78 : decode cX12_through 78 = .ok (.iconst 1, 1) := by decide +kernel
theorem dX12_through_79 : decode cX12_through 79 = .ok (.if_icmp .ne 16, 3) := by decide +kernel
theorem dX12_through_82 : decode cX12_through 82 = .ok (.aload_n 0, 1) := by decide +kernel
theorem dX12_through_83 : decode cX12_through 83 = .ok (.getfield 113, 3) := by decide +kernel
theorem dX12_through_86 : decode cX12_through 86 = .ok (.bipush 7, 2) := by decide +kernel
theorem dX12_through_88 : decode cX12_through 88 = .ok (.iload 6, 2) := by decide +kernel
theorem dX12_through_90 : decode cX12_through 90 = .ok (.iadd, 1) := by decide +kernel
theorem dX12_through_91 : decode cX12_through 91 = .ok (.iaload, 1) := by decide +kernel
theorem dX12_through_92 : decode cX12_through 92 = .ok (.goto 4, 3) := by decide +kernel
theorem dX12_through_95 : decode cX12_through 95 = .ok (.iconst 0, 1) := by decide +kernel
theorem dX12_through_96 : decode cX12_through 96 = .ok (.ior, 1) := by decide +kernel
theorem dX12_through_97 : decode cX12_through 97 = .ok (.istore 5, 2) := by decide +kernel
theorem dX12_through_99 : decode cX12_through 99 = .ok (.iinc 6 1, 3) := by decide +kernel
theorem dX12_through_102 : decode cX12_through 102 = .ok (.goto (-41), 3) := by decide +kernel
theorem dX12_through_105 : decode cX12_through 105 = .ok (.iload 5, 2) := by decide +kernel
theorem dX12_through_107 : decode cX12_through 107 = .ok (.istore_n 3, 1) := by decide +kernel
theorem dX12_through_108 : decode cX12_through 108 = .ok (.iinc 4 1, 3) := by decide +kernel
theorem dX12_through_111 : decode cX12_through 111 = .ok (.goto (-75), 3) := by decide +kernel
theorem dX12_through_114 : decode cX12_through 114 = .ok (.iconst (-1), 1) := by decide +kernel
theorem dX12_through_115 : decode cX12_through 115 = .ok (.ireturn, 1) := by decide +kernel
abbrev wd_X12_through (k : Nat → ClassId) (this : Nat) (this_thrown : Int32) (this_tape : Nat) (this_taped : Int32) (this_size : Int32) (this_sort : Nat) (this_place : Nat) (this_value : Nat) (this_at : Int32) (this_fault : Int32) (this_words : Nat) (this_towns : Nat) (this_towns_f : Nat → Int32) (this_op : Nat) (this_arg : Nat) (this_codes : Int32) (this_names : Nat) (this_readNames : Nat) (this_namesMany : Int32) (this_readMany : Int32) (this_once : Int32) (this_lines : Nat) (this_facts : Nat) (this_pile : Nat) (this_state : Nat) (this_state_f : Nat → Int32) (this_undos : Int32) (this_isMarked : Nat) (this_weight : Int32) (this_rounding : Int32) (this_lacks : Nat) (this_alikes : Nat) (this_g : Int64) : va_W := [(this, .inr (10, [.int this_thrown, .ref this_tape, .int this_taped, .int this_size, .ref this_sort, .ref this_place, .ref this_value, .int this_at, .int this_fault, .ref this_words, .ref this_towns, .ref this_op, .ref this_arg, .int this_codes, .ref this_names, .ref this_readNames, .int this_namesMany, .int this_readMany, .int this_once, .ref this_lines, .ref this_facts, .ref this_pile, .ref this_state, .int this_undos, .ref this_isMarked, .int this_weight, .int this_rounding, .ref this_lacks, .ref this_alikes, .long this_g])), (this_towns, .inl (k 0, 60, .inl this_towns_f)), (this_state, .inl (k 0, 1104, .inl this_state_f))]
set_option maxHeartbeats 4000000 in
set_option maxRecDepth 100000 in
theorem c_X12_through (l : Launch) (D : va_G) (k : Nat → ClassId) (this : Nat) (this_thrown : Int32) (this_tape : Nat) (this_taped : Int32) (this_size : Int32) (this_sort : Nat) (this_place : Nat) (this_value : Nat) (this_at : Int32) (this_fault : Int32) (this_words : Nat) (this_towns : Nat) (this_towns_f : Nat → Int32) (this_op : Nat) (this_arg : Nat) (this_codes : Int32) (this_names : Nat) (this_readNames : Nat) (this_namesMany : Int32) (this_readMany : Int32) (this_once : Int32) (this_lines : Nat) (this_facts : Nat) (this_pile : Nat) (this_state : Nat) (this_state_f : Nat → Int32) (this_undos : Int32) (this_isMarked : Nat) (this_weight : Int32) (this_rounding : Int32) (this_lacks : Nat) (this_alikes : Nat) (this_g : Int64) (q1 : Int32) (q2 : Int32) (R0 : Int32 × Int32) (hm : m_X12_through this_towns_f this_state_f q1 q2 = some R0) : CW l D (TY k) yX12_through cX12_through 7 (some .int) 2 41 [.ref this, .int q1, .int q2] (wd_X12_through k this this_thrown this_tape this_taped this_size this_sort this_place this_value this_at this_fault this_words this_towns this_towns_f this_op this_arg this_codes this_names this_readNames this_namesMany this_readMany this_once this_lines this_facts this_pile this_state this_state_f this_undos this_isMarked this_weight this_rounding this_lacks this_alikes this_g) (some (.int R0.1)) (wd_X12_through k this R0.2 this_tape this_taped this_size this_sort this_place this_value this_at this_fault this_words this_towns this_towns_f this_op this_arg this_codes this_names this_readNames this_namesMany this_readMany this_once this_lines this_facts this_pile this_state this_state_f this_undos this_isMarked this_weight this_rounding this_lacks this_alikes this_g) := by
  refine CW.mk (by decide) (Nat.le_of_ble_eq_true rfl) ?_
  intro p e s m args below meth c ls A ⟨hx, hb, hr, hts, hown, hlocks, hml⟩ hP hG hD hA hl hS hq
  have hl : lv_has ls 7 [(0, .ref this), (1, .int q1), (2, .int q2)] := hl
  have h_61 : ∀ (K36 : Int32 → Int32 → Int32 → Option (Int32 × Int32)) (hK36 : ∀ (x3 : Int32) (x4 : Int32) (u_this_thrown : Int32) (H : Heap) (locs : List Loc) (ls : Array Slot), va_P D vwCl (wd_X12_through k this u_this_thrown this_tape this_taped this_size this_sort this_place this_value this_at this_fault this_words this_towns this_towns_f this_op this_arg this_codes this_names this_readNames this_namesMany this_readMany this_once this_lines this_facts this_pile this_state this_state_f this_undos this_isMarked this_weight this_rounding this_lacks this_alikes this_g) H → va_D A (wd_X12_through k this u_this_thrown this_tape this_taped this_size this_sort this_place this_value this_at this_fault this_words this_towns this_towns_f this_op this_arg this_codes this_names this_readNames this_namesMany this_readMany this_once this_lines this_facts this_pile this_state this_state_f this_undos this_isMarked this_weight this_rounding this_lacks this_alikes this_g) → va_S A s.heap H locs → lv_has ls 7 [(0, .ref this), (2, .int q2), (3, .int x3), (4, .int x4)] → K36 x3 x4 u_this_thrown = some R0 → W p l e (Rm 2 41) s m args below meth c H locs 0 0 (MQ below (QW D (some (.int R0.1)) (wd_X12_through k this this_thrown this_tape this_taped this_size this_sort this_place this_value this_at this_fault this_words this_towns this_towns_f this_op this_arg this_codes this_names this_readNames this_namesMany this_readMany this_once this_lines this_facts this_pile this_state this_state_f this_undos this_isMarked this_weight this_rounding this_lacks this_alikes this_g) (wd_X12_through k this R0.2 this_tape this_taped this_size this_sort this_place this_value this_at this_fault this_words this_towns this_towns_f this_op this_arg this_codes this_names this_readNames this_namesMany this_readMany this_once this_lines this_facts this_pile this_state this_state_f this_undos this_isMarked this_weight this_rounding this_lacks this_alikes this_g) s.heap.size) args s 0 0 A) (F0 m 36 ls [])), ∀ (n : Nat), ∀ (x3 : Int32) (x4 : Int32) (x5 : Int32) (x6 : Int32) (u_this_thrown : Int32) (H : Heap) (locs : List Loc) (ls : Array Slot), va_P D vwCl (wd_X12_through k this u_this_thrown this_tape this_taped this_size this_sort this_place this_value this_at this_fault this_words this_towns this_towns_f this_op this_arg this_codes this_names this_readNames this_namesMany this_readMany this_once this_lines this_facts this_pile this_state this_state_f this_undos this_isMarked this_weight this_rounding this_lacks this_alikes this_g) H → va_D A (wd_X12_through k this u_this_thrown this_tape this_taped this_size this_sort this_place this_value this_at this_fault this_words this_towns this_towns_f this_op this_arg this_codes this_names this_readNames this_namesMany this_readMany this_once this_lines this_facts this_pile this_state this_state_f this_undos this_isMarked this_weight this_rounding this_lacks this_alikes this_g) → va_S A s.heap H locs → lv_has ls 7 [(0, .ref this), (2, .int q2), (3, .int x3), (4, .int x4), (5, .int x5), (6, .int x6)] → m_X12_through_61 this_towns_f this_state_f q1 q2 K36 n x3 x4 x5 x6 u_this_thrown = some R0 → W p l e (Rm 2 41) s m args below meth c H locs 0 0 (MQ below (QW D (some (.int R0.1)) (wd_X12_through k this this_thrown this_tape this_taped this_size this_sort this_place this_value this_at this_fault this_words this_towns this_towns_f this_op this_arg this_codes this_names this_readNames this_namesMany this_readMany this_once this_lines this_facts this_pile this_state this_state_f this_undos this_isMarked this_weight this_rounding this_lacks this_alikes this_g) (wd_X12_through k this R0.2 this_tape this_taped this_size this_sort this_place this_value this_at this_fault this_words this_towns this_towns_f this_op this_arg this_codes this_names this_readNames this_namesMany this_readMany this_once this_lines this_facts this_pile this_state this_state_f this_undos this_isMarked this_weight this_rounding this_lacks this_alikes this_g) s.heap.size) args s 0 0 A) (F0 m 61 ls []) := by
    intro K36 hK36
    intro n
    induction n with
    | zero => intro x3 x4 x5 x6 u_this_thrown H locs ls hP hD hS hl hm; cases hm
    | succ n ih =>
      intro x3 x4 x5 x6 u_this_thrown H locs ls hP hD hS hl hm
      unfold m_X12_through_61 at hm
      refine lv_iload (pc := 61) hx hb dX12_through_61 (lv_at hl 5 rfl) ?_
      refine lv_aload_n (pc := 63) hx hb dX12_through_63 rfl (lv_at hl 0 rfl) ?_
      obtain ⟨r5, hcl, hm⟩ := bd hm
      refine cr_back (run_V (pc := 64) (n := 0) (As := []) (rest := [.int x6]) ⟨hx, hb, hml, hown, hts⟩ (c_X12_persons l D k this u_this_thrown this_tape this_taped this_size this_sort this_place this_value this_at this_fault this_words this_towns this_towns_f this_op this_arg this_codes this_names this_readNames this_namesMany this_readMany this_once this_lines this_facts this_pile this_state this_undos this_isMarked this_weight this_rounding this_lacks this_alikes this_g r5 hcl) ⟨kw_1252, kw_16, by decide +kernel⟩ kw_1249 kw_1251 ks_97 ⟨Nat.le_of_ble_eq_true rfl, Nat.le_of_ble_eq_true rfl⟩ pr_blind (prR (hP.sub [0, 1] rfl) hG) (va_recv hG.1 hP (ci := 10) (q0 := 0) rfl rfl) rfl hl.1 rfl (Nat.le_of_ble_eq_true rfl) dX12_through_64 ⟨Nat.zero_le _, Nat.zero_le _⟩) ?_
      refine lv_icmp_ge (tgt := 105) (pc := 67) hx hb dX12_through_67 (by decide) (fun hc => ?_) (fun hc => ?_)
      · rw [if_pos hc] at hm
        refine lv_iload (pc := 105) hx hb dX12_through_105 (lv_at hl 4 rfl) ?_
        refine lv_istore_n (lv' := [(3, .int x5), (0, .ref this), (2, .int q2), (4, .int x4), (5, .int x5), (6, .int x6)]) (pc := 107) hx hb dX12_through_107 rfl hl (Nat.le_of_ble_eq_true rfl) rfl (fun ls hl => ?_)
        refine lv_iinc (k := 3) (v := x4 + 1) (lv' := [(4, .int (x4 + 1)), (3, .int x5), (0, .ref this), (2, .int q2), (5, .int x5), (6, .int x6)]) (pc := 108) hx hb dX12_through_108 hl rfl rfl (Nat.le_of_ble_eq_true rfl) rfl (fun ls hl => ?_)
        refine lv_goto (tgt := 36) (pc := 111) hx hb dX12_through_111 (by decide) ?_
        exact hK36 x5 (x4 + 1) u_this_thrown H locs ls hP hD hS (lv_sub hl [2, 3, 1, 0] rfl) hm
      · rw [if_neg hc] at hm
        refine lv_iload (pc := 70) hx hb dX12_through_70 (lv_at hl 4 rfl) ?_
        refine lv_iload_n (pc := 72) hx hb dX12_through_72 rfl (lv_at hl 2 rfl) ?_
        refine lv_iload (pc := 73) hx hb dX12_through_73 (lv_at hl 5 rfl) ?_
        refine lv_ishr (pc := 75) hx hb dX12_through_75 ?_
        refine lv_iconst (v := 1) (pc := 76) hx hb dX12_through_76 (by decide) ?_
        refine lv_iand (pc := 77) hx hb dX12_through_77 ?_
        refine lv_iconst (v := 1) (pc := 78) hx hb dX12_through_78 (by decide) ?_
        refine lv_icmp_ne (tgt := 95) (pc := 79) hx hb dX12_through_79 (by decide) (fun hc => ?_) (fun hc => ?_)
        · rw [if_neg hc] at hm
          refine lv_iconst (v := 0) (pc := 95) hx hb dX12_through_95 (by decide) ?_
          refine lv_ior (pc := 96) hx hb dX12_through_96 ?_
          refine lv_istore (lv' := [(5, .int (x5 ||| 0)), (0, .ref this), (2, .int q2), (3, .int x3), (4, .int x4), (6, .int x6)]) (pc := 97) hx hb dX12_through_97 hl (Nat.le_of_ble_eq_true rfl) rfl (fun ls hl => ?_)
          refine lv_iinc (k := 5) (v := x6 + 1) (lv' := [(6, .int (x6 + 1)), (5, .int (x5 ||| 0)), (0, .ref this), (2, .int q2), (3, .int x3), (4, .int x4)]) (pc := 99) hx hb dX12_through_99 hl rfl rfl (Nat.le_of_ble_eq_true rfl) rfl (fun ls hl => ?_)
          refine lv_goto (tgt := 61) (pc := 102) hx hb dX12_through_102 (by decide) ?_
          exact ih x3 x4 (x5 ||| 0) (x6 + 1) u_this_thrown H locs ls hP hD hS (lv_sub hl [2, 3, 4, 5, 1, 0] rfl) hm
        · rw [if_pos hc] at hm
          refine lv_aload_n (pc := 82) hx hb dX12_through_82 rfl (lv_at hl 0 rfl) ?_
          refine va_get (pc := 83) (D := D) (ci := 10) (C := RX12) (T := TX12) (N := 30) hx hb hts hiX12 hown hG.1 hP 0 rfl rfl 22 (Nat.le_of_ble_eq_true rfl) (hts _ kw_1279) (fun _ h9 => h9) rfl dX12_through_83 ?_
          refine lv_bipush (v := 7) (pc := 86) hx hb dX12_through_86 (by decide) ?_
          refine lv_iload (pc := 88) hx hb dX12_through_88 (lv_at hl 5 rfl) ?_
          refine lv_iadd (pc := 90) hx hb dX12_through_90 ?_
          obtain ⟨hin, hm⟩ := gd hm
          refine va_iald (pc := 91) (D := D) hx hb hG.1 hP 2 0 rfl rfl hin dX12_through_91 ?_
          refine lv_goto (tgt := 96) (pc := 92) hx hb dX12_through_92 (by decide) ?_
          refine lv_ior (pc := 96) hx hb dX12_through_96 ?_
          obtain ⟨z6, hv, hm⟩ := bd hm
          refine lv_topi (fun w ew => ?_)
          obtain rfl : z6 = w := (Option.some.inj hv).symm.trans ew.symm
          refine lv_istore (lv' := [(5, .int z6), (0, .ref this), (2, .int q2), (3, .int x3), (4, .int x4), (6, .int x6)]) (pc := 97) hx hb dX12_through_97 hl (Nat.le_of_ble_eq_true rfl) rfl (fun ls hl => ?_)
          refine lv_iinc (k := 5) (v := x6 + 1) (lv' := [(6, .int (x6 + 1)), (5, .int z6), (0, .ref this), (2, .int q2), (3, .int x3), (4, .int x4)]) (pc := 99) hx hb dX12_through_99 hl rfl rfl (Nat.le_of_ble_eq_true rfl) rfl (fun ls hl => ?_)
          refine lv_goto (tgt := 61) (pc := 102) hx hb dX12_through_102 (by decide) ?_
          exact ih x3 x4 z6 (x6 + 1) u_this_thrown H locs ls hP hD hS (lv_sub hl [2, 3, 4, 5, 1, 0] rfl) hm
  have h_36 : ∀ (n : Nat), ∀ (x3 : Int32) (x4 : Int32) (u_this_thrown : Int32) (H : Heap) (locs : List Loc) (ls : Array Slot), va_P D vwCl (wd_X12_through k this u_this_thrown this_tape this_taped this_size this_sort this_place this_value this_at this_fault this_words this_towns this_towns_f this_op this_arg this_codes this_names this_readNames this_namesMany this_readMany this_once this_lines this_facts this_pile this_state this_state_f this_undos this_isMarked this_weight this_rounding this_lacks this_alikes this_g) H → va_D A (wd_X12_through k this u_this_thrown this_tape this_taped this_size this_sort this_place this_value this_at this_fault this_words this_towns this_towns_f this_op this_arg this_codes this_names this_readNames this_namesMany this_readMany this_once this_lines this_facts this_pile this_state this_state_f this_undos this_isMarked this_weight this_rounding this_lacks this_alikes this_g) → va_S A s.heap H locs → lv_has ls 7 [(0, .ref this), (2, .int q2), (3, .int x3), (4, .int x4)] → m_X12_through_36 this_towns_f this_state_f q1 q2 n x3 x4 u_this_thrown = some R0 → W p l e (Rm 2 41) s m args below meth c H locs 0 0 (MQ below (QW D (some (.int R0.1)) (wd_X12_through k this this_thrown this_tape this_taped this_size this_sort this_place this_value this_at this_fault this_words this_towns this_towns_f this_op this_arg this_codes this_names this_readNames this_namesMany this_readMany this_once this_lines this_facts this_pile this_state this_state_f this_undos this_isMarked this_weight this_rounding this_lacks this_alikes this_g) (wd_X12_through k this R0.2 this_tape this_taped this_size this_sort this_place this_value this_at this_fault this_words this_towns this_towns_f this_op this_arg this_codes this_names this_readNames this_namesMany this_readMany this_once this_lines this_facts this_pile this_state this_state_f this_undos this_isMarked this_weight this_rounding this_lacks this_alikes this_g) s.heap.size) args s 0 0 A) (F0 m 36 ls []) := by
    intro n
    induction n with
    | zero => intro x3 x4 u_this_thrown H locs ls hP hD hS hl hm; cases hm
    | succ n ih =>
      intro x3 x4 u_this_thrown H locs ls hP hD hS hl hm
      unfold m_X12_through_36 at hm
      refine lv_iload (pc := 36) hx hb dX12_through_36 (lv_at hl 3 rfl) ?_
      refine lv_bipush (v := 6) (pc := 38) hx hb dX12_through_38 (by decide) ?_
      refine lv_icmp_gt (tgt := 114) (pc := 40) hx hb dX12_through_40 (by decide) (fun hc => ?_) (fun hc => ?_)
      · rw [if_pos hc] at hm
        refine lv_iconst (v := (-1)) (pc := 114) hx hb dX12_through_114 (by decide) ?_
        rw [← Option.some.inj hm]
        exact W.iret hx hb hr (fun t ht _ => hq _ _ H t ht hP hD locs hS) hS.2.2 dX12_through_115 hlocks
      · rw [if_neg hc] at hm
        refine lv_iload_n (pc := 43) hx hb dX12_through_43 rfl (lv_at hl 2 rfl) ?_
        refine lv_iload_n (pc := 44) hx hb dX12_through_44 rfl (lv_at hl 1 rfl) ?_
        refine lv_ishr (pc := 45) hx hb dX12_through_45 ?_
        refine lv_iconst (v := 1) (pc := 46) hx hb dX12_through_46 (by decide) ?_
        refine lv_iand (pc := 47) hx hb dX12_through_47 ?_
        refine lv_iconst (v := 1) (pc := 48) hx hb dX12_through_48 (by decide) ?_
        refine lv_icmp_ne (tgt := 55) (pc := 49) hx hb dX12_through_49 (by decide) (fun hc => ?_) (fun hc => ?_)
        · rw [if_neg hc] at hm
          refine lv_iload_n (pc := 55) hx hb dX12_through_55 rfl (lv_at hl 2 rfl) ?_
          refine lv_istore (lv' := [(5, .int x3), (0, .ref this), (2, .int q2), (3, .int x3), (4, .int x4)]) (pc := 56) hx hb dX12_through_56 hl (Nat.le_of_ble_eq_true rfl) rfl (fun ls hl => ?_)
          refine lv_iconst (v := 0) (pc := 58) hx hb dX12_through_58 (by decide) ?_
          refine lv_istore (lv' := [(6, .int 0), (5, .int x3), (0, .ref this), (2, .int q2), (3, .int x3), (4, .int x4)]) (pc := 59) hx hb dX12_through_59 hl (Nat.le_of_ble_eq_true rfl) rfl (fun ls hl => ?_)
          exact h_61 (m_X12_through_36 this_towns_f this_state_f q1 q2 n) ih FU x3 x4 x3 0 u_this_thrown H locs ls hP hD hS (lv_sub hl [2, 3, 4, 5, 1, 0] rfl) hm
        · rw [if_pos hc] at hm
          refine lv_iload (pc := 52) hx hb dX12_through_52 (lv_at hl 3 rfl) ?_
          rw [← Option.some.inj hm]
          exact W.iret hx hb hr (fun t ht _ => hq _ _ H t ht hP hD locs hS) hS.2.2 dX12_through_54 hlocks
  unfold m_X12_through at hm
  suffices hgo : ∀ (H : Heap) (locs : List Loc), va_P D vwCl (wd_X12_through k this this_thrown this_tape this_taped this_size this_sort this_place this_value this_at this_fault this_words this_towns this_towns_f this_op this_arg this_codes this_names this_readNames this_namesMany this_readMany this_once this_lines this_facts this_pile this_state this_state_f this_undos this_isMarked this_weight this_rounding this_lacks this_alikes this_g) H → va_D A (wd_X12_through k this this_thrown this_tape this_taped this_size this_sort this_place this_value this_at this_fault this_words this_towns this_towns_f this_op this_arg this_codes this_names this_readNames this_namesMany this_readMany this_once this_lines this_facts this_pile this_state this_state_f this_undos this_isMarked this_weight this_rounding this_lacks this_alikes this_g) → va_S A s.heap H locs → W p l e (Rm 2 41) s m args below meth c H locs 0 0 (MQ below (QW D (some (.int R0.1)) (wd_X12_through k this this_thrown this_tape this_taped this_size this_sort this_place this_value this_at this_fault this_words this_towns this_towns_f this_op this_arg this_codes this_names this_readNames this_namesMany this_readMany this_once this_lines this_facts this_pile this_state this_state_f this_undos this_isMarked this_weight this_rounding this_lacks this_alikes this_g) (wd_X12_through k this R0.2 this_tape this_taped this_size this_sort this_place this_value this_at this_fault this_words this_towns this_towns_f this_op this_arg this_codes this_names this_readNames this_namesMany this_readMany this_once this_lines this_facts this_pile this_state this_state_f this_undos this_isMarked this_weight this_rounding this_lacks this_alikes this_g) s.heap.size) args s 0 0 A) (F0 m 0 ls []) from hgo _ _ hP hD hS
  clear hP hD hS
  intro H locs hP hD hS
  refine lv_aload_n (pc := 0) hx hb dX12_through_0 rfl (lv_at hl 0 rfl) ?_
  refine lv_iconst (v := 0) (pc := 1) hx hb dX12_through_1 (by decide) ?_
  refine va_put (pc := 2) (D := D) (ci := 10) (v := .int 0) (ty := .int) (C := RX12) (T := TX12) (N := 30) hx hb hts hiX12 tyX12 tyX12_ok nmX12 hown hG.1 hP hD hS 0 rfl rfl 0 (Nat.le_of_ble_eq_true rfl) (hts _ kw_1257) (fun _ h9 => h9) rfl (by decide +kernel) rfl rfl (Nat.le_of_ble_eq_true rfl) dX12_through_2 (fun H locs hP hD hS => ?_)
  have hP : va_P D vwCl (wd_X12_through k this 0 this_tape this_taped this_size this_sort this_place this_value this_at this_fault this_words this_towns this_towns_f this_op this_arg this_codes this_names this_readNames this_namesMany this_readMany this_once this_lines this_facts this_pile this_state this_state_f this_undos this_isMarked this_weight this_rounding this_lacks this_alikes this_g) H := hP
  have hD : va_D A (wd_X12_through k this 0 this_tape this_taped this_size this_sort this_place this_value this_at this_fault this_words this_towns this_towns_f this_op this_arg this_codes this_names this_readNames this_namesMany this_readMany this_once this_lines this_facts this_pile this_state this_state_f this_undos this_isMarked this_weight this_rounding this_lacks this_alikes this_g) := hD
  refine lv_aload_n (pc := 5) hx hb dX12_through_5 rfl (lv_at hl 0 rfl) ?_
  refine lv_iload_n (pc := 6) hx hb dX12_through_6 rfl (lv_at hl 1 rfl) ?_
  obtain ⟨r7, hcl, hm⟩ := bd hm
  refine cr_back (run_V (pc := 7) (n := 1) (As := [.int q1]) (rest := []) ⟨hx, hb, hml, hown, hts⟩ (c_X12_isPerson l D k this 0 this_tape this_taped this_size this_sort this_place this_value this_at this_fault this_words this_towns this_towns_f this_op this_arg this_codes this_names this_readNames this_namesMany this_readMany this_once this_lines this_facts this_pile this_state this_undos this_isMarked this_weight this_rounding this_lacks this_alikes this_g q1 r7 hcl) ⟨kw_1498, kw_16, by decide +kernel⟩ kw_1495 kw_1497 ks_127 ⟨Nat.le_of_ble_eq_true rfl, Nat.le_of_ble_eq_true rfl⟩ pr_blind (prR (hP.sub [0, 1] rfl) hG) (va_recv hG.1 hP (ci := 10) (q0 := 0) rfl rfl) rfl hl.1 rfl (Nat.le_of_ble_eq_true rfl) dX12_through_7 ⟨Nat.zero_le _, Nat.zero_le _⟩) ?_
  refine lv_if_eq (tgt := 21) (pc := 10) hx hb dX12_through_10 (by decide) (fun hc => ?_) (fun hc => ?_)
  · rw [if_pos hc] at hm
    refine lv_iconst (v := (-1)) (pc := 21) hx hb dX12_through_21 (by decide) ?_
    rw [← Option.some.inj hm]
    exact W.iret hx hb hr (fun t ht _ => hq _ _ H t ht hP hD locs hS) hS.2.2 dX12_through_22 hlocks
  · rw [if_neg hc] at hm
    refine lv_aload_n (pc := 13) hx hb dX12_through_13 rfl (lv_at hl 0 rfl) ?_
    refine lv_iload_n (pc := 14) hx hb dX12_through_14 rfl (lv_at hl 2 rfl) ?_
    obtain ⟨r8, hcl, hm⟩ := bd hm
    refine cr_back (run_V (pc := 15) (n := 1) (As := [.int q2]) (rest := []) ⟨hx, hb, hml, hown, hts⟩ (c_X12_isPerson l D k this 0 this_tape this_taped this_size this_sort this_place this_value this_at this_fault this_words this_towns this_towns_f this_op this_arg this_codes this_names this_readNames this_namesMany this_readMany this_once this_lines this_facts this_pile this_state this_undos this_isMarked this_weight this_rounding this_lacks this_alikes this_g q2 r8 hcl) ⟨kw_1498, kw_16, by decide +kernel⟩ kw_1495 kw_1497 ks_127 ⟨Nat.le_of_ble_eq_true rfl, Nat.le_of_ble_eq_true rfl⟩ pr_blind (prR (hP.sub [0, 1] rfl) hG) (va_recv hG.1 hP (ci := 10) (q0 := 0) rfl rfl) rfl hl.1 rfl (Nat.le_of_ble_eq_true rfl) dX12_through_15 ⟨Nat.zero_le _, Nat.zero_le _⟩) ?_
    refine lv_if_ne (tgt := 23) (pc := 18) hx hb dX12_through_18 (by decide) (fun hc => ?_) (fun hc => ?_)
    · rw [if_neg hc] at hm
      refine lv_aload_n (pc := 23) hx hb dX12_through_23 rfl (lv_at hl 0 rfl) ?_
      refine va_get (pc := 24) (D := D) (ci := 10) (C := RX12) (T := TX12) (N := 30) hx hb hts hiX12 hown hG.1 hP 0 rfl rfl 22 (Nat.le_of_ble_eq_true rfl) (hts _ kw_1279) (fun _ h9 => h9) rfl dX12_through_24 ?_
      refine lv_bipush (v := 7) (pc := 27) hx hb dX12_through_27 (by decide) ?_
      refine lv_iload_n (pc := 29) hx hb dX12_through_29 rfl (lv_at hl 1 rfl) ?_
      refine lv_iadd (pc := 30) hx hb dX12_through_30 ?_
      obtain ⟨hin, hm⟩ := gd hm
      refine va_iald (pc := 31) (D := D) hx hb hG.1 hP 2 0 rfl rfl hin dX12_through_31 ?_
      refine lv_istore_n (lv' := [(3, .int (this_state_f (7 + q1).toNatClampNeg)), (0, .ref this), (1, .int q1), (2, .int q2)]) (pc := 32) hx hb dX12_through_32 rfl hl (Nat.le_of_ble_eq_true rfl) rfl (fun ls hl => ?_)
      refine lv_iconst (v := 1) (pc := 33) hx hb dX12_through_33 (by decide) ?_
      refine lv_istore (lv' := [(4, .int 1), (3, .int (this_state_f (7 + q1).toNatClampNeg)), (0, .ref this), (1, .int q1), (2, .int q2)]) (pc := 34) hx hb dX12_through_34 hl (Nat.le_of_ble_eq_true rfl) rfl (fun ls hl => ?_)
      exact h_36 FU (this_state_f (7 + q1).toNatClampNeg) 1 0 H locs ls hP hD hS (lv_sub hl [2, 4, 1, 0] rfl) hm
    · rw [if_pos hc] at hm
      refine lv_iconst (v := (-1)) (pc := 21) hx hb dX12_through_21 (by decide) ?_
      rw [← Option.some.inj hm]
      exact W.iret hx hb hr (fun t ht _ => hq _ _ H t ht hP hD locs hS) hS.2.2 dX12_through_22 hlocks
theorem dX12_groups_0 : decode cX12_groups 0 = .ok (.aload_n 0, 1) := by decide +kernel
theorem dX12_groups_1 : decode cX12_groups 1 = .ok (.iconst 0, 1) := by decide +kernel
theorem dX12_groups_2 : decode cX12_groups 2 = .ok (.putfield 1, 3) := by decide +kernel
theorem dX12_groups_5 : decode cX12_groups 5 = .ok (.iconst 0, 1) := by decide +kernel
theorem dX12_groups_6 : decode cX12_groups 6 = .ok (.istore_n 1, 1) := by decide +kernel
theorem dX12_groups_7 : decode cX12_groups 7 = .ok (.iconst 0, 1) := by decide +kernel
theorem dX12_groups_8 : decode cX12_groups 8 = .ok (.istore_n 2, 1) := by decide +kernel
theorem dX12_groups_9 : decode cX12_groups 9 = .ok (.iload_n 2, 1) := by decide +kernel
theorem dX12_groups_10 : decode cX12_groups 10 = .ok (.aload_n 0, 1) := by decide +kernel
theorem dX12_groups_11 : decode cX12_groups 11 = .ok (.invokevirtual 255, 3) := by decide +kernel
theorem dX12_groups_14 : decode cX12_groups 14 = .ok (.if_icmp .ge 78, 3) := by decide +kernel
theorem dX12_groups_17 : decode cX12_groups 17 = .ok (.iconst 1, 1) := by decide +kernel
theorem dX12_groups_18 : decode cX12_groups 18 = .ok (.istore_n 3, 1) := by decide +kernel
theorem dX12_groups_19 : decode cX12_groups 19 = .ok (.iconst 0, 1) := by decide +kernel
theorem dX12_groups_20 : decode cX12_groups 20 = .ok (.istore 4, 2) := by decide +kernel
theorem dX12_groups_22 : decode cX12_groups 22 = .ok (.iload 4, 2) := by decide +kernel
theorem dX12_groups_24 : decode cX12_groups 24 = .ok (.iload_n 2, 1) := by decide +kernel
theorem dX12_groups_25 : decode cX12_groups 25 = .ok (.if_icmp .ge 49, 3) := by decide +kernel
theorem dX12_groups_28 : decode cX12_groups 28 = .ok (.iload_n 3, 1) := by decide +kernel
theorem dX12_groups_29 : decode cX12_groups 29 = .ok (.ifCond .eq 37, 3) := by decide +kernel
theorem dX12_groups_32 : decode cX12_groups 32 = .ok (.aload_n 0, 1) := by decide +kernel
theorem dX12_groups_33 : decode cX12_groups 33 = .ok (.iload_n 2, 1) := by decide +kernel
theorem dX12_groups_34 : decode cX12_groups 34 = .ok (.bipush 7, 2) := by decide +kernel
theorem dX12_groups_36 : decode cX12_groups 36 = .ok (.invokevirtual 344, 3) := by decide +kernel
theorem dX12_groups_39 : decode cX12_groups 39 = .ok (.iload 4, 2) := by decide +kernel
theorem dX12_groups_41 : decode cX12_groups 41 = .ok (.ishr, 1) := by decide +kernel
theorem dX12_groups_42 : decode cX12_groups 42 = .ok (.iconst 1, 1) := by decide +kernel
theorem dX12_groups_43 : decode cX12_groups 43 = .ok (.iand, 1) := by decide +kernel
theorem dX12_groups_44 : decode cX12_groups 44 = .ok (.ifCond .eq 18, 3) := by decide +kernel
theorem dX12_groups_47 : decode cX12_groups 47 = .ok (.aload_n 0, 1) := by decide +kernel
theorem dX12_groups_48 : decode cX12_groups 48 = .ok (.iload 4, 2) := by decide +kernel
theorem dX12_groups_50 : decode cX12_groups 50 = .ok (.bipush 7, 2) := by decide +kernel
theorem dX12_groups_52 : decode cX12_groups 52 = .ok (.invokevirtual 344, 3) := by decide +kernel
theorem dX12_groups_55 : decode cX12_groups 55 = .ok (.iload_n 2, 1) := by decide +kernel
theorem dX12_groups_56 : decode cX12_groups 56 = .ok (.ishr, 1) := by decide +kernel
theorem dX12_groups_57 : decode cX12_groups 57 = .ok (.iconst 1, 1) := by decide +kernel
theorem dX12_groups_58 : decode cX12_groups 58 = .ok (.iand, 1) := by decide +kernel
theorem dX12_groups_59 : decode cX12_groups 59 = .ok (.ifCond .ne 7, 3) := by decide +kernel
theorem dX12_groups_62 : decode cX12_groups 62 = .ok (.iconst 1, 1) := by decide +kernel
theorem dX12_groups_63 : decode cX12_groups 63 = .ok (.goto 4, 3) := by decide +kernel
theorem dX12_groups_66 : decode cX12_groups 66 = .ok (.iconst 0, 1) := by decide +kernel
theorem dX12_groups_67 : decode cX12_groups 67 = .ok (.istore_n 3, 1) := by decide +kernel
theorem dX12_groups_68 : decode cX12_groups 68 = .ok (.iinc 4 1, 3) := by decide +kernel
theorem dX12_groups_71 : decode cX12_groups 71 = .ok (.goto (-49), 3) := by decide +kernel
theorem dX12_groups_74 : decode cX12_groups 74 = .ok (.iload_n 1, 1) := by decide +kernel
theorem dX12_groups_75 : decode cX12_groups 75 = .ok (.iload_n 3, 1) := by decide +kernel
theorem dX12_groups_76 : decode cX12_groups 76 = .ok (.ifCond .eq 7, 3) := by decide +kernel
theorem dX12_groups_79 : decode cX12_groups 79 = .ok (.iconst 1, 1) := by decide +kernel
theorem dX12_groups_80 : decode cX12_groups 80 = .ok (.goto 4, 3) := by decide +kernel
theorem dX12_groups_83 : decode cX12_groups 83 = .ok (.iconst 0, 1) := by decide +kernel
theorem dX12_groups_84 : decode cX12_groups 84 = .ok (.iadd, 1) := by decide +kernel
theorem dX12_groups_85 : decode cX12_groups 85 = .ok (.istore_n 1, 1) := by decide +kernel
theorem dX12_groups_86 : decode cX12_groups 86 = .ok (.iinc 2 1, 3) := by decide +kernel
theorem dX12_groups_89 : decode cX12_groups 89 = .ok (.goto (-80), 3) := by decide +kernel
theorem dX12_groups_92 : decode cX12_groups 92 = .ok (.iload_n 1, 1) := by decide +kernel
theorem dX12_groups_93 : decode cX12_groups 93 = .ok (.ireturn, 1) := by decide +kernel
abbrev wd_X12_groups (k : Nat → ClassId) (this : Nat) (this_thrown : Int32) (this_tape : Nat) (this_taped : Int32) (this_size : Int32) (this_sort : Nat) (this_place : Nat) (this_value : Nat) (this_at : Int32) (this_fault : Int32) (this_words : Nat) (this_towns : Nat) (this_towns_f : Nat → Int32) (this_op : Nat) (this_arg : Nat) (this_codes : Int32) (this_names : Nat) (this_readNames : Nat) (this_namesMany : Int32) (this_readMany : Int32) (this_once : Int32) (this_lines : Nat) (this_facts : Nat) (this_pile : Nat) (this_state : Nat) (this_state_f : Nat → Int32) (this_undos : Int32) (this_isMarked : Nat) (this_weight : Int32) (this_rounding : Int32) (this_lacks : Nat) (this_alikes : Nat) (this_g : Int64) : va_W := [(this, .inr (10, [.int this_thrown, .ref this_tape, .int this_taped, .int this_size, .ref this_sort, .ref this_place, .ref this_value, .int this_at, .int this_fault, .ref this_words, .ref this_towns, .ref this_op, .ref this_arg, .int this_codes, .ref this_names, .ref this_readNames, .int this_namesMany, .int this_readMany, .int this_once, .ref this_lines, .ref this_facts, .ref this_pile, .ref this_state, .int this_undos, .ref this_isMarked, .int this_weight, .int this_rounding, .ref this_lacks, .ref this_alikes, .long this_g])), (this_towns, .inl (k 0, 60, .inl this_towns_f)), (this_state, .inl (k 0, 1104, .inl this_state_f))]
set_option maxHeartbeats 4000000 in
set_option maxRecDepth 100000 in
theorem c_X12_groups (l : Launch) (D : va_G) (k : Nat → ClassId) (this : Nat) (this_thrown : Int32) (this_tape : Nat) (this_taped : Int32) (this_size : Int32) (this_sort : Nat) (this_place : Nat) (this_value : Nat) (this_at : Int32) (this_fault : Int32) (this_words : Nat) (this_towns : Nat) (this_towns_f : Nat → Int32) (this_op : Nat) (this_arg : Nat) (this_codes : Int32) (this_names : Nat) (this_readNames : Nat) (this_namesMany : Int32) (this_readMany : Int32) (this_once : Int32) (this_lines : Nat) (this_facts : Nat) (this_pile : Nat) (this_state : Nat) (this_state_f : Nat → Int32) (this_undos : Int32) (this_isMarked : Nat) (this_weight : Int32) (this_rounding : Int32) (this_lacks : Nat) (this_alikes : Nat) (this_g : Int64) (R0 : Int32 × Int32) (hm : m_X12_groups this_towns_f this_state_f = some R0) : CW l D (TY k) yX12_groups cX12_groups 5 (some .int) 2 45 [.ref this] (wd_X12_groups k this this_thrown this_tape this_taped this_size this_sort this_place this_value this_at this_fault this_words this_towns this_towns_f this_op this_arg this_codes this_names this_readNames this_namesMany this_readMany this_once this_lines this_facts this_pile this_state this_state_f this_undos this_isMarked this_weight this_rounding this_lacks this_alikes this_g) (some (.int R0.1)) (wd_X12_groups k this R0.2 this_tape this_taped this_size this_sort this_place this_value this_at this_fault this_words this_towns this_towns_f this_op this_arg this_codes this_names this_readNames this_namesMany this_readMany this_once this_lines this_facts this_pile this_state this_state_f this_undos this_isMarked this_weight this_rounding this_lacks this_alikes this_g) := by
  refine CW.mk (by decide) (Nat.le_of_ble_eq_true rfl) ?_
  intro p e s m args below meth c ls A ⟨hx, hb, hr, hts, hown, hlocks, hml⟩ hP hG hD hA hl hS hq
  have hl : lv_has ls 5 [(0, .ref this)] := hl
  have h_22 : ∀ (K9 : Int32 → Int32 → Int32 → Option (Int32 × Int32)) (hK9 : ∀ (x1 : Int32) (x2 : Int32) (u_this_thrown : Int32) (H : Heap) (locs : List Loc) (ls : Array Slot), va_P D vwCl (wd_X12_groups k this u_this_thrown this_tape this_taped this_size this_sort this_place this_value this_at this_fault this_words this_towns this_towns_f this_op this_arg this_codes this_names this_readNames this_namesMany this_readMany this_once this_lines this_facts this_pile this_state this_state_f this_undos this_isMarked this_weight this_rounding this_lacks this_alikes this_g) H → va_D A (wd_X12_groups k this u_this_thrown this_tape this_taped this_size this_sort this_place this_value this_at this_fault this_words this_towns this_towns_f this_op this_arg this_codes this_names this_readNames this_namesMany this_readMany this_once this_lines this_facts this_pile this_state this_state_f this_undos this_isMarked this_weight this_rounding this_lacks this_alikes this_g) → va_S A s.heap H locs → lv_has ls 5 [(0, .ref this), (1, .int x1), (2, .int x2)] → K9 x1 x2 u_this_thrown = some R0 → W p l e (Rm 2 45) s m args below meth c H locs 0 0 (MQ below (QW D (some (.int R0.1)) (wd_X12_groups k this this_thrown this_tape this_taped this_size this_sort this_place this_value this_at this_fault this_words this_towns this_towns_f this_op this_arg this_codes this_names this_readNames this_namesMany this_readMany this_once this_lines this_facts this_pile this_state this_state_f this_undos this_isMarked this_weight this_rounding this_lacks this_alikes this_g) (wd_X12_groups k this R0.2 this_tape this_taped this_size this_sort this_place this_value this_at this_fault this_words this_towns this_towns_f this_op this_arg this_codes this_names this_readNames this_namesMany this_readMany this_once this_lines this_facts this_pile this_state this_state_f this_undos this_isMarked this_weight this_rounding this_lacks this_alikes this_g) s.heap.size) args s 0 0 A) (F0 m 9 ls [])), ∀ (n : Nat), ∀ (x1 : Int32) (x2 : Int32) (x3 : Int32) (x4 : Int32) (u_this_thrown : Int32) (H : Heap) (locs : List Loc) (ls : Array Slot), va_P D vwCl (wd_X12_groups k this u_this_thrown this_tape this_taped this_size this_sort this_place this_value this_at this_fault this_words this_towns this_towns_f this_op this_arg this_codes this_names this_readNames this_namesMany this_readMany this_once this_lines this_facts this_pile this_state this_state_f this_undos this_isMarked this_weight this_rounding this_lacks this_alikes this_g) H → va_D A (wd_X12_groups k this u_this_thrown this_tape this_taped this_size this_sort this_place this_value this_at this_fault this_words this_towns this_towns_f this_op this_arg this_codes this_names this_readNames this_namesMany this_readMany this_once this_lines this_facts this_pile this_state this_state_f this_undos this_isMarked this_weight this_rounding this_lacks this_alikes this_g) → va_S A s.heap H locs → lv_has ls 5 [(0, .ref this), (1, .int x1), (2, .int x2), (3, .int x3), (4, .int x4)] → m_X12_groups_22 this_towns_f this_state_f K9 n x1 x2 x3 x4 u_this_thrown = some R0 → W p l e (Rm 2 45) s m args below meth c H locs 0 0 (MQ below (QW D (some (.int R0.1)) (wd_X12_groups k this this_thrown this_tape this_taped this_size this_sort this_place this_value this_at this_fault this_words this_towns this_towns_f this_op this_arg this_codes this_names this_readNames this_namesMany this_readMany this_once this_lines this_facts this_pile this_state this_state_f this_undos this_isMarked this_weight this_rounding this_lacks this_alikes this_g) (wd_X12_groups k this R0.2 this_tape this_taped this_size this_sort this_place this_value this_at this_fault this_words this_towns this_towns_f this_op this_arg this_codes this_names this_readNames this_namesMany this_readMany this_once this_lines this_facts this_pile this_state this_state_f this_undos this_isMarked this_weight this_rounding this_lacks this_alikes this_g) s.heap.size) args s 0 0 A) (F0 m 22 ls []) := by
    intro K9 hK9
    intro n
    induction n with
    | zero => intro x1 x2 x3 x4 u_this_thrown H locs ls hP hD hS hl hm; cases hm
    | succ n ih =>
      intro x1 x2 x3 x4 u_this_thrown H locs ls hP hD hS hl hm
      unfold m_X12_groups_22 at hm
      refine lv_iload (pc := 22) hx hb dX12_groups_22 (lv_at hl 4 rfl) ?_
      refine lv_iload_n (pc := 24) hx hb dX12_groups_24 rfl (lv_at hl 2 rfl) ?_
      refine lv_icmp_ge (tgt := 74) (pc := 25) hx hb dX12_groups_25 (by decide) (fun hc => ?_) (fun hc => ?_)
      · rw [if_pos hc] at hm
        refine lv_iload_n (pc := 74) hx hb dX12_groups_74 rfl (lv_at hl 1 rfl) ?_
        refine lv_iload_n (pc := 75) hx hb dX12_groups_75 rfl (lv_at hl 3 rfl) ?_
        refine lv_if_eq (tgt := 83) (pc := 76) hx hb dX12_groups_76 (by decide) (fun hc => ?_) (fun hc => ?_)
        · rw [if_pos hc] at hm
          refine lv_iconst (v := 0) (pc := 83) hx hb dX12_groups_83 (by decide) ?_
          refine lv_iadd (pc := 84) hx hb dX12_groups_84 ?_
          refine lv_istore_n (lv' := [(1, .int (x1 + 0)), (0, .ref this), (2, .int x2), (3, .int x3), (4, .int x4)]) (pc := 85) hx hb dX12_groups_85 rfl hl (Nat.le_of_ble_eq_true rfl) rfl (fun ls hl => ?_)
          refine lv_iinc (k := 2) (v := x2 + 1) (lv' := [(2, .int (x2 + 1)), (1, .int (x1 + 0)), (0, .ref this), (3, .int x3), (4, .int x4)]) (pc := 86) hx hb dX12_groups_86 hl rfl rfl (Nat.le_of_ble_eq_true rfl) rfl (fun ls hl => ?_)
          refine lv_goto (tgt := 9) (pc := 89) hx hb dX12_groups_89 (by decide) ?_
          exact hK9 (x1 + 0) (x2 + 1) u_this_thrown H locs ls hP hD hS (lv_sub hl [2, 1, 0] rfl) hm
        · rw [if_neg hc] at hm
          refine lv_iconst (v := 1) (pc := 79) hx hb dX12_groups_79 (by decide) ?_
          refine lv_goto (tgt := 84) (pc := 80) hx hb dX12_groups_80 (by decide) ?_
          refine lv_iadd (pc := 84) hx hb dX12_groups_84 ?_
          refine lv_istore_n (lv' := [(1, .int (x1 + 1)), (0, .ref this), (2, .int x2), (3, .int x3), (4, .int x4)]) (pc := 85) hx hb dX12_groups_85 rfl hl (Nat.le_of_ble_eq_true rfl) rfl (fun ls hl => ?_)
          refine lv_iinc (k := 2) (v := x2 + 1) (lv' := [(2, .int (x2 + 1)), (1, .int (x1 + 1)), (0, .ref this), (3, .int x3), (4, .int x4)]) (pc := 86) hx hb dX12_groups_86 hl rfl rfl (Nat.le_of_ble_eq_true rfl) rfl (fun ls hl => ?_)
          refine lv_goto (tgt := 9) (pc := 89) hx hb dX12_groups_89 (by decide) ?_
          exact hK9 (x1 + 1) (x2 + 1) u_this_thrown H locs ls hP hD hS (lv_sub hl [2, 1, 0] rfl) hm
      · rw [if_neg hc] at hm
        refine lv_iload_n (pc := 28) hx hb dX12_groups_28 rfl (lv_at hl 3 rfl) ?_
        refine lv_if_eq (tgt := 66) (pc := 29) hx hb dX12_groups_29 (by decide) (fun hc => ?_) (fun hc => ?_)
        · rw [if_pos hc] at hm
          refine lv_iconst (v := 0) (pc := 66) hx hb dX12_groups_66 (by decide) ?_
          refine lv_istore_n (lv' := [(3, .int 0), (0, .ref this), (1, .int x1), (2, .int x2), (4, .int x4)]) (pc := 67) hx hb dX12_groups_67 rfl hl (Nat.le_of_ble_eq_true rfl) rfl (fun ls hl => ?_)
          refine lv_iinc (k := 4) (v := x4 + 1) (lv' := [(4, .int (x4 + 1)), (3, .int 0), (0, .ref this), (1, .int x1), (2, .int x2)]) (pc := 68) hx hb dX12_groups_68 hl rfl rfl (Nat.le_of_ble_eq_true rfl) rfl (fun ls hl => ?_)
          refine lv_goto (tgt := 22) (pc := 71) hx hb dX12_groups_71 (by decide) ?_
          exact ih x1 x2 0 (x4 + 1) u_this_thrown H locs ls hP hD hS (lv_sub hl [2, 3, 4, 1, 0] rfl) hm
        · rw [if_neg hc] at hm
          refine lv_aload_n (pc := 32) hx hb dX12_groups_32 rfl (lv_at hl 0 rfl) ?_
          refine lv_iload_n (pc := 33) hx hb dX12_groups_33 rfl (lv_at hl 2 rfl) ?_
          refine lv_bipush (v := 7) (pc := 34) hx hb dX12_groups_34 (by decide) ?_
          obtain ⟨r4, hcl, hm⟩ := bd hm
          refine cr_back (run_V (pc := 36) (n := 2) (As := [.int x2, .int 7]) (rest := []) ⟨hx, hb, hml, hown, hts⟩ (c_X12_feltIn l D k this u_this_thrown this_tape this_taped this_size this_sort this_place this_value this_at this_fault this_words this_towns this_towns_f this_op this_arg this_codes this_names this_readNames this_namesMany this_readMany this_once this_lines this_facts this_pile this_state this_state_f this_undos this_isMarked this_weight this_rounding this_lacks this_alikes this_g x2 7 r4 hcl) ⟨kw_1679, kw_16, by decide +kernel⟩ kw_1676 kw_1678 ks_141 ⟨Nat.le_of_ble_eq_true rfl, Nat.le_of_ble_eq_true rfl⟩ pr_blind (prR (hP.sub [0, 1, 2] rfl) hG) (va_recv hG.1 hP (ci := 10) (q0 := 0) rfl rfl) rfl hl.1 rfl (Nat.le_of_ble_eq_true rfl) dX12_groups_36 ⟨Nat.zero_le _, Nat.zero_le _⟩) ?_
          refine lv_iload (pc := 39) hx hb dX12_groups_39 (lv_at hl 4 rfl) ?_
          refine lv_ishr (pc := 41) hx hb dX12_groups_41 ?_
          refine lv_iconst (v := 1) (pc := 42) hx hb dX12_groups_42 (by decide) ?_
          refine lv_iand (pc := 43) hx hb dX12_groups_43 ?_
          refine lv_if_eq (tgt := 62) (pc := 44) hx hb dX12_groups_44 (by decide) (fun hc => ?_) (fun hc => ?_)
          · rw [if_pos hc] at hm
            refine lv_iconst (v := 1) (pc := 62) hx hb dX12_groups_62 (by decide) ?_
            refine lv_goto (tgt := 67) (pc := 63) hx hb dX12_groups_63 (by decide) ?_
            refine lv_istore_n (lv' := [(3, .int 1), (0, .ref this), (1, .int x1), (2, .int x2), (4, .int x4)]) (pc := 67) hx hb dX12_groups_67 rfl hl (Nat.le_of_ble_eq_true rfl) rfl (fun ls hl => ?_)
            refine lv_iinc (k := 4) (v := x4 + 1) (lv' := [(4, .int (x4 + 1)), (3, .int 1), (0, .ref this), (1, .int x1), (2, .int x2)]) (pc := 68) hx hb dX12_groups_68 hl rfl rfl (Nat.le_of_ble_eq_true rfl) rfl (fun ls hl => ?_)
            refine lv_goto (tgt := 22) (pc := 71) hx hb dX12_groups_71 (by decide) ?_
            exact ih x1 x2 1 (x4 + 1) u_this_thrown H locs ls hP hD hS (lv_sub hl [2, 3, 4, 1, 0] rfl) hm
          · rw [if_neg hc] at hm
            refine lv_aload_n (pc := 47) hx hb dX12_groups_47 rfl (lv_at hl 0 rfl) ?_
            refine lv_iload (pc := 48) hx hb dX12_groups_48 (lv_at hl 4 rfl) ?_
            refine lv_bipush (v := 7) (pc := 50) hx hb dX12_groups_50 (by decide) ?_
            obtain ⟨r5, hcl, hm⟩ := bd hm
            refine cr_back (run_V (pc := 52) (n := 2) (As := [.int x4, .int 7]) (rest := []) ⟨hx, hb, hml, hown, hts⟩ (c_X12_feltIn l D k this u_this_thrown this_tape this_taped this_size this_sort this_place this_value this_at this_fault this_words this_towns this_towns_f this_op this_arg this_codes this_names this_readNames this_namesMany this_readMany this_once this_lines this_facts this_pile this_state this_state_f this_undos this_isMarked this_weight this_rounding this_lacks this_alikes this_g x4 7 r5 hcl) ⟨kw_1679, kw_16, by decide +kernel⟩ kw_1676 kw_1678 ks_141 ⟨Nat.le_of_ble_eq_true rfl, Nat.le_of_ble_eq_true rfl⟩ pr_blind (prR (hP.sub [0, 1, 2] rfl) hG) (va_recv hG.1 hP (ci := 10) (q0 := 0) rfl rfl) rfl hl.1 rfl (Nat.le_of_ble_eq_true rfl) dX12_groups_52 ⟨Nat.zero_le _, Nat.zero_le _⟩) ?_
            refine lv_iload_n (pc := 55) hx hb dX12_groups_55 rfl (lv_at hl 2 rfl) ?_
            refine lv_ishr (pc := 56) hx hb dX12_groups_56 ?_
            refine lv_iconst (v := 1) (pc := 57) hx hb dX12_groups_57 (by decide) ?_
            refine lv_iand (pc := 58) hx hb dX12_groups_58 ?_
            refine lv_if_ne (tgt := 66) (pc := 59) hx hb dX12_groups_59 (by decide) (fun hc => ?_) (fun hc => ?_)
            · rw [if_neg hc] at hm
              refine lv_iconst (v := 0) (pc := 66) hx hb dX12_groups_66 (by decide) ?_
              refine lv_istore_n (lv' := [(3, .int 0), (0, .ref this), (1, .int x1), (2, .int x2), (4, .int x4)]) (pc := 67) hx hb dX12_groups_67 rfl hl (Nat.le_of_ble_eq_true rfl) rfl (fun ls hl => ?_)
              refine lv_iinc (k := 4) (v := x4 + 1) (lv' := [(4, .int (x4 + 1)), (3, .int 0), (0, .ref this), (1, .int x1), (2, .int x2)]) (pc := 68) hx hb dX12_groups_68 hl rfl rfl (Nat.le_of_ble_eq_true rfl) rfl (fun ls hl => ?_)
              refine lv_goto (tgt := 22) (pc := 71) hx hb dX12_groups_71 (by decide) ?_
              exact ih x1 x2 0 (x4 + 1) u_this_thrown H locs ls hP hD hS (lv_sub hl [2, 3, 4, 1, 0] rfl) hm
            · rw [if_pos hc] at hm
              refine lv_iconst (v := 1) (pc := 62) hx hb dX12_groups_62 (by decide) ?_
              refine lv_goto (tgt := 67) (pc := 63) hx hb dX12_groups_63 (by decide) ?_
              refine lv_istore_n (lv' := [(3, .int 1), (0, .ref this), (1, .int x1), (2, .int x2), (4, .int x4)]) (pc := 67) hx hb dX12_groups_67 rfl hl (Nat.le_of_ble_eq_true rfl) rfl (fun ls hl => ?_)
              refine lv_iinc (k := 4) (v := x4 + 1) (lv' := [(4, .int (x4 + 1)), (3, .int 1), (0, .ref this), (1, .int x1), (2, .int x2)]) (pc := 68) hx hb dX12_groups_68 hl rfl rfl (Nat.le_of_ble_eq_true rfl) rfl (fun ls hl => ?_)
              refine lv_goto (tgt := 22) (pc := 71) hx hb dX12_groups_71 (by decide) ?_
              exact ih x1 x2 1 (x4 + 1) u_this_thrown H locs ls hP hD hS (lv_sub hl [2, 3, 4, 1, 0] rfl) hm
  have h_9 : ∀ (n : Nat), ∀ (x1 : Int32) (x2 : Int32) (u_this_thrown : Int32) (H : Heap) (locs : List Loc) (ls : Array Slot), va_P D vwCl (wd_X12_groups k this u_this_thrown this_tape this_taped this_size this_sort this_place this_value this_at this_fault this_words this_towns this_towns_f this_op this_arg this_codes this_names this_readNames this_namesMany this_readMany this_once this_lines this_facts this_pile this_state this_state_f this_undos this_isMarked this_weight this_rounding this_lacks this_alikes this_g) H → va_D A (wd_X12_groups k this u_this_thrown this_tape this_taped this_size this_sort this_place this_value this_at this_fault this_words this_towns this_towns_f this_op this_arg this_codes this_names this_readNames this_namesMany this_readMany this_once this_lines this_facts this_pile this_state this_state_f this_undos this_isMarked this_weight this_rounding this_lacks this_alikes this_g) → va_S A s.heap H locs → lv_has ls 5 [(0, .ref this), (1, .int x1), (2, .int x2)] → m_X12_groups_9 this_towns_f this_state_f n x1 x2 u_this_thrown = some R0 → W p l e (Rm 2 45) s m args below meth c H locs 0 0 (MQ below (QW D (some (.int R0.1)) (wd_X12_groups k this this_thrown this_tape this_taped this_size this_sort this_place this_value this_at this_fault this_words this_towns this_towns_f this_op this_arg this_codes this_names this_readNames this_namesMany this_readMany this_once this_lines this_facts this_pile this_state this_state_f this_undos this_isMarked this_weight this_rounding this_lacks this_alikes this_g) (wd_X12_groups k this R0.2 this_tape this_taped this_size this_sort this_place this_value this_at this_fault this_words this_towns this_towns_f this_op this_arg this_codes this_names this_readNames this_namesMany this_readMany this_once this_lines this_facts this_pile this_state this_state_f this_undos this_isMarked this_weight this_rounding this_lacks this_alikes this_g) s.heap.size) args s 0 0 A) (F0 m 9 ls []) := by
    intro n
    induction n with
    | zero => intro x1 x2 u_this_thrown H locs ls hP hD hS hl hm; cases hm
    | succ n ih =>
      intro x1 x2 u_this_thrown H locs ls hP hD hS hl hm
      unfold m_X12_groups_9 at hm
      refine lv_iload_n (pc := 9) hx hb dX12_groups_9 rfl (lv_at hl 2 rfl) ?_
      refine lv_aload_n (pc := 10) hx hb dX12_groups_10 rfl (lv_at hl 0 rfl) ?_
      obtain ⟨r6, hcl, hm⟩ := bd hm
      refine cr_back (run_V (pc := 11) (n := 0) (As := []) (rest := [.int x2]) ⟨hx, hb, hml, hown, hts⟩ (c_X12_persons l D k this u_this_thrown this_tape this_taped this_size this_sort this_place this_value this_at this_fault this_words this_towns this_towns_f this_op this_arg this_codes this_names this_readNames this_namesMany this_readMany this_once this_lines this_facts this_pile this_state this_undos this_isMarked this_weight this_rounding this_lacks this_alikes this_g r6 hcl) ⟨kw_1252, kw_16, by decide +kernel⟩ kw_1249 kw_1251 ks_97 ⟨Nat.le_of_ble_eq_true rfl, Nat.le_of_ble_eq_true rfl⟩ pr_blind (prR (hP.sub [0, 1] rfl) hG) (va_recv hG.1 hP (ci := 10) (q0 := 0) rfl rfl) rfl hl.1 rfl (Nat.le_of_ble_eq_true rfl) dX12_groups_11 ⟨Nat.zero_le _, Nat.zero_le _⟩) ?_
      refine lv_icmp_ge (tgt := 92) (pc := 14) hx hb dX12_groups_14 (by decide) (fun hc => ?_) (fun hc => ?_)
      · rw [if_pos hc] at hm
        refine lv_iload_n (pc := 92) hx hb dX12_groups_92 rfl (lv_at hl 1 rfl) ?_
        rw [← Option.some.inj hm]
        exact W.iret hx hb hr (fun t ht _ => hq _ _ H t ht hP hD locs hS) hS.2.2 dX12_groups_93 hlocks
      · rw [if_neg hc] at hm
        refine lv_iconst (v := 1) (pc := 17) hx hb dX12_groups_17 (by decide) ?_
        refine lv_istore_n (lv' := [(3, .int 1), (0, .ref this), (1, .int x1), (2, .int x2)]) (pc := 18) hx hb dX12_groups_18 rfl hl (Nat.le_of_ble_eq_true rfl) rfl (fun ls hl => ?_)
        refine lv_iconst (v := 0) (pc := 19) hx hb dX12_groups_19 (by decide) ?_
        refine lv_istore (lv' := [(4, .int 0), (3, .int 1), (0, .ref this), (1, .int x1), (2, .int x2)]) (pc := 20) hx hb dX12_groups_20 hl (Nat.le_of_ble_eq_true rfl) rfl (fun ls hl => ?_)
        exact h_22 (m_X12_groups_9 this_towns_f this_state_f n) ih FU x1 x2 1 0 u_this_thrown H locs ls hP hD hS (lv_sub hl [2, 3, 4, 1, 0] rfl) hm
  unfold m_X12_groups at hm
  suffices hgo : ∀ (H : Heap) (locs : List Loc), va_P D vwCl (wd_X12_groups k this this_thrown this_tape this_taped this_size this_sort this_place this_value this_at this_fault this_words this_towns this_towns_f this_op this_arg this_codes this_names this_readNames this_namesMany this_readMany this_once this_lines this_facts this_pile this_state this_state_f this_undos this_isMarked this_weight this_rounding this_lacks this_alikes this_g) H → va_D A (wd_X12_groups k this this_thrown this_tape this_taped this_size this_sort this_place this_value this_at this_fault this_words this_towns this_towns_f this_op this_arg this_codes this_names this_readNames this_namesMany this_readMany this_once this_lines this_facts this_pile this_state this_state_f this_undos this_isMarked this_weight this_rounding this_lacks this_alikes this_g) → va_S A s.heap H locs → W p l e (Rm 2 45) s m args below meth c H locs 0 0 (MQ below (QW D (some (.int R0.1)) (wd_X12_groups k this this_thrown this_tape this_taped this_size this_sort this_place this_value this_at this_fault this_words this_towns this_towns_f this_op this_arg this_codes this_names this_readNames this_namesMany this_readMany this_once this_lines this_facts this_pile this_state this_state_f this_undos this_isMarked this_weight this_rounding this_lacks this_alikes this_g) (wd_X12_groups k this R0.2 this_tape this_taped this_size this_sort this_place this_value this_at this_fault this_words this_towns this_towns_f this_op this_arg this_codes this_names this_readNames this_namesMany this_readMany this_once this_lines this_facts this_pile this_state this_state_f this_undos this_isMarked this_weight this_rounding this_lacks this_alikes this_g) s.heap.size) args s 0 0 A) (F0 m 0 ls []) from hgo _ _ hP hD hS
  clear hP hD hS
  intro H locs hP hD hS
  refine lv_aload_n (pc := 0) hx hb dX12_groups_0 rfl (lv_at hl 0 rfl) ?_
  refine lv_iconst (v := 0) (pc := 1) hx hb dX12_groups_1 (by decide) ?_
  refine va_put (pc := 2) (D := D) (ci := 10) (v := .int 0) (ty := .int) (C := RX12) (T := TX12) (N := 30) hx hb hts hiX12 tyX12 tyX12_ok nmX12 hown hG.1 hP hD hS 0 rfl rfl 0 (Nat.le_of_ble_eq_true rfl) (hts _ kw_1257) (fun _ h9 => h9) rfl (by decide +kernel) rfl rfl (Nat.le_of_ble_eq_true rfl) dX12_groups_2 (fun H locs hP hD hS => ?_)
  have hP : va_P D vwCl (wd_X12_groups k this 0 this_tape this_taped this_size this_sort this_place this_value this_at this_fault this_words this_towns this_towns_f this_op this_arg this_codes this_names this_readNames this_namesMany this_readMany this_once this_lines this_facts this_pile this_state this_state_f this_undos this_isMarked this_weight this_rounding this_lacks this_alikes this_g) H := hP
  have hD : va_D A (wd_X12_groups k this 0 this_tape this_taped this_size this_sort this_place this_value this_at this_fault this_words this_towns this_towns_f this_op this_arg this_codes this_names this_readNames this_namesMany this_readMany this_once this_lines this_facts this_pile this_state this_state_f this_undos this_isMarked this_weight this_rounding this_lacks this_alikes this_g) := hD
  refine lv_iconst (v := 0) (pc := 5) hx hb dX12_groups_5 (by decide) ?_
  refine lv_istore_n (lv' := [(1, .int 0), (0, .ref this)]) (pc := 6) hx hb dX12_groups_6 rfl hl (Nat.le_of_ble_eq_true rfl) rfl (fun ls hl => ?_)
  refine lv_iconst (v := 0) (pc := 7) hx hb dX12_groups_7 (by decide) ?_
  refine lv_istore_n (lv' := [(2, .int 0), (1, .int 0), (0, .ref this)]) (pc := 8) hx hb dX12_groups_8 rfl hl (Nat.le_of_ble_eq_true rfl) rfl (fun ls hl => ?_)
  exact h_9 FU 0 0 0 H locs ls hP hD hS (lv_sub hl [2, 1, 0] rfl) hm
