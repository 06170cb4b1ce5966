theorem dX12_even_0 : decode cX12_even 0 = .ok (.aload_n 0, 1) := by decide +kernel
theorem dX12_even_1 : decode cX12_even 1 = .ok (.iconst 0, 1) := by decide +kernel
theorem dX12_even_2 : decode cX12_even 2 = .ok (.putfield 1, 3) := by decide +kernel
theorem dX12_even_5 : decode cX12_even 5 = .ok (.aload_n 0, 1) := by decide +kernel
theorem dX12_even_6 : decode cX12_even 6 = .ok (.iconst 0, 1) := by decide +kernel
theorem dX12_even_7 : decode cX12_even 7 = .ok (.invokevirtual 293, 3) := by decide +kernel
theorem dX12_even_10 : decode cX12_even 10 = .ok (.istore_n 1, 1) := by decide +kernel
theorem dX12_even_11 : decode cX12_even 11 = .ok (.iconst 0, 1) := by decide +kernel
theorem dX12_even_12 : decode cX12_even 12 = .ok (.istore_n 2, 1) := by decide +kernel
theorem dX12_even_13 : decode cX12_even 13 = .ok (.iload_n 1, 1) := by decide +kernel
theorem dX12_even_14 : decode cX12_even 14 = .ok (.ifCond .le 24, 3) := by decide +kernel
theorem dX12_even_17 : decode cX12_even 17 = .ok (.aload_n 0, 1) := by decide +kernel
theorem dX12_even_18 : decode cX12_even 18 = .ok (.aload_n 0, 1) := by decide +kernel
theorem dX12_even_19 : decode cX12_even 19 = .ok (.iconst 0, 1) := by decide +kernel
theorem dX12_even_20 : decode cX12_even 20 = .ok (.invokevirtual 287, 3) := by decide +kernel
theorem dX12_even_23 : decode cX12_even 23 = .ok (.iload_n 2, 1) := by decide +kernel
theorem dX12_even_24 : decode cX12_even 24 = .ok (.iadd, 1) := by decide +kernel
theorem dX12_even_25 : decode cX12_even 25 = .ok (.invokevirtual 290, 3) := by decide +kernel
theorem dX12_even_28 : decode cX12_even 28 = .ok (.iload_n 1, 1) := by decide +kernel
theorem dX12_even_29 : decode cX12_even 29 = .ok (.if_icmp .ne 9, 3) := by decide +kernel
theorem dX12_even_32 : decode cX12_even 32 = .ok (.iinc 2 1, 3) := by decide +kernel
theorem dX12_even_35 : decode cX12_even 35 = .ok (.goto (-22), 3) := by decide +kernel
theorem dX12_even_38 : decode cX12_even 38 = .ok (.iload_n 2, 1) := by decide +kernel
theorem dX12_even_39 : decode cX12_even 39 = .ok (.ireturn, 1) := by decide +kernel
abbrev wd_X12_even (k : Nat → ClassId) (this : Nat) (this_thrown : Int32) (this_tape : Nat) (this_taped : Int32) (this_size : Int32) (this_sort : Nat) (this_place : Nat) (this_value : Nat) (this_at : Int32) (this_fault : Int32) (this_words : Nat) (this_towns : Nat) (this_towns_f : Nat → Int32) (this_op : Nat) (this_arg : Nat) (this_codes : Int32) (this_names : Nat) (this_readNames : Nat) (this_namesMany : Int32) (this_readMany : Int32) (this_once : Int32) (this_lines : Nat) (this_facts : Nat) (this_pile : Nat) (this_state : Nat) (this_state_f : Nat → Int32) (this_undos : Int32) (this_isMarked : Nat) (this_weight : Int32) (this_rounding : Int32) (this_lacks : Nat) (this_alikes : Nat) (this_g : Int64) : va_W := [(this, .inr (10, [.int this_thrown, .ref this_tape, .int this_taped, .int this_size, .ref this_sort, .ref this_place, .ref this_value, .int this_at, .int this_fault, .ref this_words, .ref this_towns, .ref this_op, .ref this_arg, .int this_codes, .ref this_names, .ref this_readNames, .int this_namesMany, .int this_readMany, .int this_once, .ref this_lines, .ref this_facts, .ref this_pile, .ref this_state, .int this_undos, .ref this_isMarked, .int this_weight, .int this_rounding, .ref this_lacks, .ref this_alikes, .long this_g])), (this_towns, .inl (k 0, 60, .inl this_towns_f)), (this_state, .inl (k 0, 1104, .inl this_state_f))]
set_option maxHeartbeats 4000000 in
set_option maxRecDepth 100000 in
theorem c_X12_even (l : Launch) (D : va_G) (k : Nat → ClassId) (this : Nat) (this_thrown : Int32) (this_tape : Nat) (this_taped : Int32) (this_size : Int32) (this_sort : Nat) (this_place : Nat) (this_value : Nat) (this_at : Int32) (this_fault : Int32) (this_words : Nat) (this_towns : Nat) (this_towns_f : Nat → Int32) (this_op : Nat) (this_arg : Nat) (this_codes : Int32) (this_names : Nat) (this_readNames : Nat) (this_namesMany : Int32) (this_readMany : Int32) (this_once : Int32) (this_lines : Nat) (this_facts : Nat) (this_pile : Nat) (this_state : Nat) (this_state_f : Nat → Int32) (this_undos : Int32) (this_isMarked : Nat) (this_weight : Int32) (this_rounding : Int32) (this_lacks : Nat) (this_alikes : Nat) (this_g : Int64) (R0 : Int32 × Int32) (hm : m_X12_even this_towns_f this_state_f this_weight this_rounding = some R0) : CW l D (TY k) yX12_even cX12_even 3 (some .int) 4 90 [.ref this] (wd_X12_even k this this_thrown this_tape this_taped this_size this_sort this_place this_value this_at this_fault this_words this_towns this_towns_f this_op this_arg this_codes this_names this_readNames this_namesMany this_readMany this_once this_lines this_facts this_pile this_state this_state_f this_undos this_isMarked this_weight this_rounding this_lacks this_alikes this_g) (some (.int R0.1)) (wd_X12_even k this R0.2 this_tape this_taped this_size this_sort this_place this_value this_at this_fault this_words this_towns this_towns_f this_op this_arg this_codes this_names this_readNames this_namesMany this_readMany this_once this_lines this_facts this_pile this_state this_state_f this_undos this_isMarked this_weight this_rounding this_lacks this_alikes this_g) := by
  refine CW.mk (by decide) (Nat.le_of_ble_eq_true rfl) ?_
  intro p e s m args below meth c ls A ⟨hx, hb, hr, hts, hown, hlocks, hml⟩ hP hG hD hA hl hS hq
  have hl : lv_has ls 3 [(0, .ref this)] := hl
  have h_13 : ∀ (n : Nat), ∀ (x1 : Int32) (x2 : Int32) (u_this_thrown : Int32) (H : Heap) (locs : List Loc) (ls : Array Slot), va_P D vwCl (wd_X12_even k this u_this_thrown this_tape this_taped this_size this_sort this_place this_value this_at this_fault this_words this_towns this_towns_f this_op this_arg this_codes this_names this_readNames this_namesMany this_readMany this_once this_lines this_facts this_pile this_state this_state_f this_undos this_isMarked this_weight this_rounding this_lacks this_alikes this_g) H → va_D A (wd_X12_even k this u_this_thrown this_tape this_taped this_size this_sort this_place this_value this_at this_fault this_words this_towns this_towns_f this_op this_arg this_codes this_names this_readNames this_namesMany this_readMany this_once this_lines this_facts this_pile this_state this_state_f this_undos this_isMarked this_weight this_rounding this_lacks this_alikes this_g) → va_S A s.heap H locs → lv_has ls 3 [(0, .ref this), (1, .int x1), (2, .int x2)] → m_X12_even_13 this_towns_f this_state_f this_weight this_rounding n x1 x2 u_this_thrown = some R0 → W p l e (Rm 4 90) s m args below meth c H locs 0 0 (MQ below (QW D (some (.int R0.1)) (wd_X12_even k this this_thrown this_tape this_taped this_size this_sort this_place this_value this_at this_fault this_words this_towns this_towns_f this_op this_arg this_codes this_names this_readNames this_namesMany this_readMany this_once this_lines this_facts this_pile this_state this_state_f this_undos this_isMarked this_weight this_rounding this_lacks this_alikes this_g) (wd_X12_even k this R0.2 this_tape this_taped this_size this_sort this_place this_value this_at this_fault this_words this_towns this_towns_f this_op this_arg this_codes this_names this_readNames this_namesMany this_readMany this_once this_lines this_facts this_pile this_state this_state_f this_undos this_isMarked this_weight this_rounding this_lacks this_alikes this_g) s.heap.size) args s 0 0 A) (F0 m 13 ls []) := by
    intro n
    induction n with
    | zero => intro x1 x2 u_this_thrown H locs ls hP hD hS hl hm; cases hm
    | succ n ih =>
      intro x1 x2 u_this_thrown H locs ls hP hD hS hl hm
      unfold m_X12_even_13 at hm
      refine lv_iload_n (pc := 13) hx hb dX12_even_13 rfl (lv_at hl 1 rfl) ?_
      refine lv_if_le (tgt := 38) (pc := 14) hx hb dX12_even_14 (by decide) (fun hc => ?_) (fun hc => ?_)
      · rw [if_pos hc] at hm
        refine lv_iload_n (pc := 38) hx hb dX12_even_38 rfl (lv_at hl 2 rfl) ?_
        rw [← Option.some.inj hm]
        exact W.iret hx hb hr (fun t ht _ => hq _ _ H t ht hP hD locs hS) hS.2.2 dX12_even_39 hlocks
      · rw [if_neg hc] at hm
        refine lv_aload_n (pc := 17) hx hb dX12_even_17 rfl (lv_at hl 0 rfl) ?_
        refine lv_aload_n (pc := 18) hx hb dX12_even_18 rfl (lv_at hl 0 rfl) ?_
        refine lv_iconst (v := 0) (pc := 19) hx hb dX12_even_19 (by decide) ?_
        obtain ⟨r4, hcl, hm⟩ := bd hm
        refine cr_back (run_V (pc := 20) (n := 1) (As := [.int 0]) (rest := [.ref this]) ⟨hx, hb, hml, hown, hts⟩ (c_X12_weighsAll l D k this u_this_thrown this_tape this_taped this_size this_sort this_place this_value this_at this_fault this_words this_towns this_towns_f this_op this_arg this_codes this_names this_readNames this_namesMany this_readMany this_once this_lines this_facts this_pile this_state this_state_f this_undos this_isMarked this_weight this_rounding this_lacks this_alikes this_g 0 r4 hcl) ⟨kw_1479, kw_16, by decide +kernel⟩ kw_1476 kw_1478 ks_124 ⟨Nat.le_of_ble_eq_true rfl, Nat.le_of_ble_eq_true rfl⟩ pr_blind (prR (hP.sub [0, 1, 2] rfl) hG) (va_recv hG.1 hP (ci := 10) (q0 := 0) rfl rfl) rfl hl.1 rfl (Nat.le_of_ble_eq_true rfl) dX12_even_20 ⟨Nat.zero_le _, Nat.zero_le _⟩) ?_
        refine lv_iload_n (pc := 23) hx hb dX12_even_23 rfl (lv_at hl 2 rfl) ?_
        refine lv_iadd (pc := 24) hx hb dX12_even_24 ?_
        obtain ⟨r5, hcl, hm⟩ := bd hm
        refine cr_back (run_V (pc := 25) (n := 1) (As := [.int (r4 + x2)]) (rest := []) ⟨hx, hb, hml, hown, hts⟩ (c_X12_highBy l D k this u_this_thrown this_tape this_taped this_size this_sort this_place this_value this_at this_fault this_words this_towns this_towns_f this_op this_arg this_codes this_names this_readNames this_namesMany this_readMany this_once this_lines this_facts this_pile this_state this_undos this_isMarked this_weight this_rounding this_lacks this_alikes this_g (r4 + x2) r5 hcl) ⟨kw_1487, kw_16, by decide +kernel⟩ kw_1484 kw_1486 ks_126 ⟨Nat.le_of_ble_eq_true rfl, Nat.le_of_ble_eq_true rfl⟩ pr_blind (prR (hP.sub [0, 1] rfl) hG) (va_recv hG.1 hP (ci := 10) (q0 := 0) rfl rfl) rfl hl.1 rfl (Nat.le_of_ble_eq_true rfl) dX12_even_25 ⟨Nat.zero_le _, Nat.zero_le _⟩) ?_
        refine lv_iload_n (pc := 28) hx hb dX12_even_28 rfl (lv_at hl 1 rfl) ?_
        refine lv_icmp_ne (tgt := 38) (pc := 29) hx hb dX12_even_29 (by decide) (fun hc => ?_) (fun hc => ?_)
        · rw [if_neg hc] at hm
          refine lv_iload_n (pc := 38) hx hb dX12_even_38 rfl (lv_at hl 2 rfl) ?_
          rw [← Option.some.inj hm]
          exact W.iret hx hb hr (fun t ht _ => hq _ _ H t ht hP hD locs hS) hS.2.2 dX12_even_39 hlocks
        · rw [if_pos hc] at hm
          refine lv_iinc (k := 2) (v := x2 + 1) (lv' := [(2, .int (x2 + 1)), (0, .ref this), (1, .int x1)]) (pc := 32) hx hb dX12_even_32 hl rfl rfl (Nat.le_of_ble_eq_true rfl) rfl (fun ls hl => ?_)
          refine lv_goto (tgt := 13) (pc := 35) hx hb dX12_even_35 (by decide) ?_
          exact ih x1 (x2 + 1) u_this_thrown H locs ls hP hD hS (lv_sub hl [1, 2, 0] rfl) hm
  unfold m_X12_even at hm
  suffices hgo : ∀ (H : Heap) (locs : List Loc), va_P D vwCl (wd_X12_even k this this_thrown this_tape this_taped this_size this_sort this_place this_value this_at this_fault this_words this_towns this_towns_f this_op this_arg this_codes this_names this_readNames this_namesMany this_readMany this_once this_lines this_facts this_pile this_state this_state_f this_undos this_isMarked this_weight this_rounding this_lacks this_alikes this_g) H → va_D A (wd_X12_even k this this_thrown this_tape this_taped this_size this_sort this_place this_value this_at this_fault this_words this_towns this_towns_f this_op this_arg this_codes this_names this_readNames this_namesMany this_readMany this_once this_lines this_facts this_pile this_state this_state_f this_undos this_isMarked this_weight this_rounding this_lacks this_alikes this_g) → va_S A s.heap H locs → W p l e (Rm 4 90) s m args below meth c H locs 0 0 (MQ below (QW D (some (.int R0.1)) (wd_X12_even k this this_thrown this_tape this_taped this_size this_sort this_place this_value this_at this_fault this_words this_towns this_towns_f this_op this_arg this_codes this_names this_readNames this_namesMany this_readMany this_once this_lines this_facts this_pile this_state this_state_f this_undos this_isMarked this_weight this_rounding this_lacks this_alikes this_g) (wd_X12_even k this R0.2 this_tape this_taped this_size this_sort this_place this_value this_at this_fault this_words this_towns this_towns_f this_op this_arg this_codes this_names this_readNames this_namesMany this_readMany this_once this_lines this_facts this_pile this_state this_state_f this_undos this_isMarked this_weight this_rounding this_lacks this_alikes this_g) s.heap.size) args s 0 0 A) (F0 m 0 ls []) from hgo _ _ hP hD hS
  clear hP hD hS
  intro H locs hP hD hS
  refine lv_aload_n (pc := 0) hx hb dX12_even_0 rfl (lv_at hl 0 rfl) ?_
  refine lv_iconst (v := 0) (pc := 1) hx hb dX12_even_1 (by decide) ?_
  refine va_put (pc := 2) (D := D) (ci := 10) (v := .int 0) (ty := .int) (C := RX12) (T := TX12) (N := 30) hx hb hts hiX12 tyX12 tyX12_ok nmX12 hown hG.1 hP hD hS 0 rfl rfl 0 (Nat.le_of_ble_eq_true rfl) (hts _ kw_1257) (fun _ h9 => h9) rfl (by decide +kernel) rfl rfl (Nat.le_of_ble_eq_true rfl) dX12_even_2 (fun H locs hP hD hS => ?_)
  have hP : va_P D vwCl (wd_X12_even k this 0 this_tape this_taped this_size this_sort this_place this_value this_at this_fault this_words this_towns this_towns_f this_op this_arg this_codes this_names this_readNames this_namesMany this_readMany this_once this_lines this_facts this_pile this_state this_state_f this_undos this_isMarked this_weight this_rounding this_lacks this_alikes this_g) H := hP
  have hD : va_D A (wd_X12_even k this 0 this_tape this_taped this_size this_sort this_place this_value this_at this_fault this_words this_towns this_towns_f this_op this_arg this_codes this_names this_readNames this_namesMany this_readMany this_once this_lines this_facts this_pile this_state this_state_f this_undos this_isMarked this_weight this_rounding this_lacks this_alikes this_g) := hD
  refine lv_aload_n (pc := 5) hx hb dX12_even_5 rfl (lv_at hl 0 rfl) ?_
  refine lv_iconst (v := 0) (pc := 6) hx hb dX12_even_6 (by decide) ?_
  obtain ⟨r6, hcl, hm⟩ := bd hm
  refine cr_back (run_V (pc := 7) (n := 1) (As := [.int 0]) (rest := []) ⟨hx, hb, hml, hown, hts⟩ (c_X12_highOf l D k this 0 this_tape this_taped this_size this_sort this_place this_value this_at this_fault this_words this_towns this_towns_f this_op this_arg this_codes this_names this_readNames this_namesMany this_readMany this_once this_lines this_facts this_pile this_state this_state_f this_undos this_isMarked this_weight this_rounding this_lacks this_alikes this_g 0 r6 hcl) ⟨kw_1475, kw_16, by decide +kernel⟩ kw_1472 kw_1474 ks_123 ⟨Nat.le_of_ble_eq_true rfl, Nat.le_of_ble_eq_true rfl⟩ pr_blind (prR (hP.sub [0, 1, 2] rfl) hG) (va_recv hG.1 hP (ci := 10) (q0 := 0) rfl rfl) rfl hl.1 rfl (Nat.le_of_ble_eq_true rfl) dX12_even_7 ⟨Nat.zero_le _, Nat.zero_le _⟩) ?_
  refine lv_istore_n (lv' := [(1, .int r6), (0, .ref this)]) (pc := 10) hx hb dX12_even_10 rfl hl (Nat.le_of_ble_eq_true rfl) rfl (fun ls hl => ?_)
  refine lv_iconst (v := 0) (pc := 11) hx hb dX12_even_11 (by decide) ?_
  refine lv_istore_n (lv' := [(2, .int 0), (1, .int r6), (0, .ref this)]) (pc := 12) hx hb dX12_even_12 rfl hl (Nat.le_of_ble_eq_true rfl) rfl (fun ls hl => ?_)
  exact h_13 FU r6 0 0 H locs ls hP hD hS (lv_sub hl [2, 1, 0] rfl) hm
theorem dX12_heavy_0 : decode cX12_heavy 0 = .ok (.aload_n 0, 1) := by decide +kernel
theorem dX12_heavy_1 : decode cX12_heavy 1 = .ok (.iconst 0, 1) := by decide +kernel
theorem dX12_heavy_2 : decode cX12_heavy 2 = .ok (.putfield 1, 3) := by decide +kernel
theorem dX12_heavy_5 : decode cX12_heavy 5 = .ok (.iconst (-1), 1) := by decide +kernel
theorem dX12_heavy_6 : decode cX12_heavy 6 = .ok (.istore_n 1, 1) := by decide +kernel
theorem dX12_heavy_7 : decode cX12_heavy 7 = .ok (.iconst (-1), 1) := by decide +kernel
theorem dX12_heavy_8 : decode cX12_heavy 8 = .ok (.istore_n 2, 1) := by decide +kernel
theorem dX12_heavy_9 : decode cX12_heavy 9 = .ok (.iconst 0, 1) := by decide +kernel
theorem dX12_heavy_10 : decode cX12_heavy 10 = .ok (.istore_n 3, 1) := by decide +kernel
theorem dX12_heavy_11 : decode cX12_heavy 11 = .ok (.iload_n 3, 1) := by decide +kernel
theorem dX12_heavy_12 : decode cX12_heavy 12 = .ok (.aload_n 0, 1) := by decide +kernel
theorem dX12_heavy_13 : decode cX12_heavy 13 = .ok (.invokevirtual 255, 3) := by decide +kernel
theorem dX12_heavy_16 : decode cX12_heavy 16 = .ok (.if_icmp .ge 46, 3) := by decide +kernel
theorem dX12_heavy_19 : decode cX12_heavy 19 = .ok (.aload_n 0, 1) := by decide +kernel
theorem dX12_heavy_20 : decode cX12_heavy 20 = .ok (.iconst 0, 1) := by decide +kernel
theorem dX12_heavy_21 : decode cX12_heavy 21 = .ok (.iload_n 3, 1) := by decide +kernel
theorem dX12_heavy_22 : decode cX12_heavy 22 = .ok (.invokevirtual 281, 3) := by decide +kernel
theorem dX12_heavy_25 : decode cX12_heavy 25 = .ok (.iload_n 2, 1) := by decide +kernel
theorem dX12_heavy_26 : decode cX12_heavy 26 = .ok (.if_icmp .le 7, 3) := by decide +kernel
theorem dX12_heavy_29 : decode cX12_heavy 29 = .ok (.iload_n 3, 1) := by decide +kernel
theorem dX12_heavy_30 : decode cX12_heavy 30 = .ok (.goto 4, 3) := by decide +kernel
theorem dX12_heavy_33 : decode cX12_heavy 33 = .ok (.iload_n 1, 1) := by decide +kernel
theorem dX12_heavy_34 : decode cX12_heavy 34 = .ok (.istore_n 1, 1) := by decide +kernel
theorem dX12_heavy_35 : decode cX12_heavy 35 = .ok (.aload_n 0, 1) := by decide +kernel
theorem dX12_heavy_36 : decode cX12_heavy 36 = .ok (.iconst 0, 1) := by decide +kernel
theorem dX12_heavy_37 : decode cX12_heavy 37 = .ok (.iload_n 3, 1) := by decide +kernel
theorem dX12_heavy_38 : decode cX12_heavy 38 = .ok (.invokevirtual 281, 3) := by decide +kernel
theorem dX12_heavy_41 : decode cX12_heavy 41 = .ok (.iload_n 2, 1) := by decide +kernel
theorem dX12_heavy_42 : decode cX12_heavy 42 = .ok (.if_icmp .le 12, 3) := by decide +kernel
theorem dX12_heavy_45 : decode cX12_heavy 45 = .ok (.aload_n 0, 1) := by decide +kernel
theorem dX12_heavy_46 : decode cX12_heavy 46 = .ok (.iconst 0, 1) := by decide +kernel
theorem dX12_heavy_47 : decode cX12_heavy 47 = .ok (.iload_n 3, 1) := by decide +kernel
theorem dX12_heavy_48 : decode cX12_heavy 48 = .ok (.invokevirtual 281, 3) := by decide +kernel
theorem dX12_heavy_51 : decode cX12_heavy 51 = .ok (.goto 4, 3) := by decide +kernel
theorem dX12_heavy_54 : decode cX12_heavy 54 = .ok (.iload_n 2, 1) := by decide +kernel
theorem dX12_heavy_55 : decode cX12_heavy 55 = .ok (.istore_n 2, 1) := by decide +kernel
theorem dX12_heavy_56 : decode cX12_heavy 56 = .ok (.iinc 3 1, 3) := by decide +kernel
theorem dX12_heavy_59 : decode cX12_heavy 59 = .ok (.goto (-48), 3) := by decide +kernel
theorem dX12_heavy_62 : decode cX12_heavy 62 = .ok (.iload_n 1, 1) := by decide +kernel
theorem dX12_heavy_63 : decode cX12_heavy 63 = .ok (.ireturn, 1) := by decide +kernel
abbrev wd_X12_heavy (k : Nat → ClassId) (this : Nat) (this_thrown : Int32) (this_tape : Nat) (this_taped : Int32) (this_size : Int32) (this_sort : Nat) (this_place : Nat) (this_value : Nat) (this_at : Int32) (this_fault : Int32) (this_words : Nat) (this_towns : Nat) (this_towns_f : Nat → Int32) (this_op : Nat) (this_arg : Nat) (this_codes : Int32) (this_names : Nat) (this_readNames : Nat) (this_namesMany : Int32) (this_readMany : Int32) (this_once : Int32) (this_lines : Nat) (this_facts : Nat) (this_pile : Nat) (this_state : Nat) (this_state_f : Nat → Int32) (this_undos : Int32) (this_isMarked : Nat) (this_weight : Int32) (this_rounding : Int32) (this_lacks : Nat) (this_alikes : Nat) (this_g : Int64) : va_W := [(this, .inr (10, [.int this_thrown, .ref this_tape, .int this_taped, .int this_size, .ref this_sort, .ref this_place, .ref this_value, .int this_at, .int this_fault, .ref this_words, .ref this_towns, .ref this_op, .ref this_arg, .int this_codes, .ref this_names, .ref this_readNames, .int this_namesMany, .int this_readMany, .int this_once, .ref this_lines, .ref this_facts, .ref this_pile, .ref this_state, .int this_undos, .ref this_isMarked, .int this_weight, .int this_rounding, .ref this_lacks, .ref this_alikes, .long this_g])), (this_towns, .inl (k 0, 60, .inl this_towns_f)), (this_state, .inl (k 0, 1104, .inl this_state_f))]
set_option maxHeartbeats 4000000 in
set_option maxRecDepth 100000 in
theorem c_X12_heavy (l : Launch) (D : va_G) (k : Nat → ClassId) (this : Nat) (this_thrown : Int32) (this_tape : Nat) (this_taped : Int32) (this_size : Int32) (this_sort : Nat) (this_place : Nat) (this_value : Nat) (this_at : Int32) (this_fault : Int32) (this_words : Nat) (this_towns : Nat) (this_towns_f : Nat → Int32) (this_op : Nat) (this_arg : Nat) (this_codes : Int32) (this_names : Nat) (this_readNames : Nat) (this_namesMany : Int32) (this_readMany : Int32) (this_once : Int32) (this_lines : Nat) (this_facts : Nat) (this_pile : Nat) (this_state : Nat) (this_state_f : Nat → Int32) (this_undos : Int32) (this_isMarked : Nat) (this_weight : Int32) (this_rounding : Int32) (this_lacks : Nat) (this_alikes : Nat) (this_g : Int64) (R0 : Int32 × Int32) (hm : m_X12_heavy this_towns_f this_state_f = some R0) : CW l D (TY k) yX12_heavy cX12_heavy 4 (some .int) 2 46 [.ref this] (wd_X12_heavy k this this_thrown this_tape this_taped this_size this_sort this_place this_value this_at this_fault this_words this_towns this_towns_f this_op this_arg this_codes this_names this_readNames this_namesMany this_readMany this_once this_lines this_facts this_pile this_state this_state_f this_undos this_isMarked this_weight this_rounding this_lacks this_alikes this_g) (some (.int R0.1)) (wd_X12_heavy k this R0.2 this_tape this_taped this_size this_sort this_place this_value this_at this_fault this_words this_towns this_towns_f this_op this_arg this_codes this_names this_readNames this_namesMany this_readMany this_once this_lines this_facts this_pile this_state this_state_f this_undos this_isMarked this_weight this_rounding this_lacks this_alikes this_g) := by
  refine CW.mk (by decide) (Nat.le_of_ble_eq_true rfl) ?_
  intro p e s m args below meth c ls A ⟨hx, hb, hr, hts, hown, hlocks, hml⟩ hP hG hD hA hl hS hq
  have hl : lv_has ls 4 [(0, .ref this)] := hl
  have h_34 : ∀ (K11 : Int32 → Int32 → Int32 → Int32 → Option (Int32 × Int32)) (hK11 : ∀ (x1 : Int32) (x2 : Int32) (x3 : Int32) (u_this_thrown : Int32) (H : Heap) (locs : List Loc) (ls : Array Slot), va_P D vwCl (wd_X12_heavy k this u_this_thrown this_tape this_taped this_size this_sort this_place this_value this_at this_fault this_words this_towns this_towns_f this_op this_arg this_codes this_names this_readNames this_namesMany this_readMany this_once this_lines this_facts this_pile this_state this_state_f this_undos this_isMarked this_weight this_rounding this_lacks this_alikes this_g) H → va_D A (wd_X12_heavy k this u_this_thrown this_tape this_taped this_size this_sort this_place this_value this_at this_fault this_words this_towns this_towns_f this_op this_arg this_codes this_names this_readNames this_namesMany this_readMany this_once this_lines this_facts this_pile this_state this_state_f this_undos this_isMarked this_weight this_rounding this_lacks this_alikes this_g) → va_S A s.heap H locs → lv_has ls 4 [(0, .ref this), (1, .int x1), (2, .int x2), (3, .int x3)] → K11 x1 x2 x3 u_this_thrown = some R0 → W p l e (Rm 2 46) s m args below meth c H locs 0 0 (MQ below (QW D (some (.int R0.1)) (wd_X12_heavy k this this_thrown this_tape this_taped this_size this_sort this_place this_value this_at this_fault this_words this_towns this_towns_f this_op this_arg this_codes this_names this_readNames this_namesMany this_readMany this_once this_lines this_facts this_pile this_state this_state_f this_undos this_isMarked this_weight this_rounding this_lacks this_alikes this_g) (wd_X12_heavy k this R0.2 this_tape this_taped this_size this_sort this_place this_value this_at this_fault this_words this_towns this_towns_f this_op this_arg this_codes this_names this_readNames this_namesMany this_readMany this_once this_lines this_facts this_pile this_state this_state_f this_undos this_isMarked this_weight this_rounding this_lacks this_alikes this_g) s.heap.size) args s 0 0 A) (F0 m 11 ls [])), ∀ (x2 : Int32) (x3 : Int32) (t0 : Int32) (u_this_thrown : Int32) (H : Heap) (locs : List Loc) (ls : Array Slot), va_P D vwCl (wd_X12_heavy k this u_this_thrown this_tape this_taped this_size this_sort this_place this_value this_at this_fault this_words this_towns this_towns_f this_op this_arg this_codes this_names this_readNames this_namesMany this_readMany this_once this_lines this_facts this_pile this_state this_state_f this_undos this_isMarked this_weight this_rounding this_lacks this_alikes this_g) H → va_D A (wd_X12_heavy k this u_this_thrown this_tape this_taped this_size this_sort this_place this_value this_at this_fault this_words this_towns this_towns_f this_op this_arg this_codes this_names this_readNames this_namesMany this_readMany this_once this_lines this_facts this_pile this_state this_state_f this_undos this_isMarked this_weight this_rounding this_lacks this_alikes this_g) → va_S A s.heap H locs → lv_has ls 4 [(0, .ref this), (2, .int x2), (3, .int x3)] → m_X12_heavy_34 this_towns_f this_state_f K11 x2 x3 t0 u_this_thrown = some R0 → W p l e (Rm 2 46) s m args below meth c H locs 0 0 (MQ below (QW D (some (.int R0.1)) (wd_X12_heavy k this this_thrown this_tape this_taped this_size this_sort this_place this_value this_at this_fault this_words this_towns this_towns_f this_op this_arg this_codes this_names this_readNames this_namesMany this_readMany this_once this_lines this_facts this_pile this_state this_state_f this_undos this_isMarked this_weight this_rounding this_lacks this_alikes this_g) (wd_X12_heavy k this R0.2 this_tape this_taped this_size this_sort this_place this_value this_at this_fault this_words this_towns this_towns_f this_op this_arg this_codes this_names this_readNames this_namesMany this_readMany this_once this_lines this_facts this_pile this_state this_state_f this_undos this_isMarked this_weight this_rounding this_lacks this_alikes this_g) s.heap.size) args s 0 0 A) (F0 m 34 ls [.int t0]) := by
    intro K11 hK11 x2 x3 t0 u_this_thrown H locs ls hP hD hS hl hm
    unfold m_X12_heavy_34 at hm
    refine lv_istore_n (lv' := [(1, .int t0), (0, .ref this), (2, .int x2), (3, .int x3)]) (pc := 34) hx hb dX12_heavy_34 rfl hl (Nat.le_of_ble_eq_true rfl) rfl (fun ls hl => ?_)
    refine lv_aload_n (pc := 35) hx hb dX12_heavy_35 rfl (lv_at hl 1 rfl) ?_
    refine lv_iconst (v := 0) (pc := 36) hx hb dX12_heavy_36 (by decide) ?_
    refine lv_iload_n (pc := 37) hx hb dX12_heavy_37 rfl (lv_at hl 3 rfl) ?_
    obtain ⟨r5, hcl, hm⟩ := bd hm
    refine cr_back (run_V (pc := 38) (n := 2) (As := [.int 0, .int x3]) (rest := []) ⟨hx, hb, hml, hown, hts⟩ (c_X12_weighsOf l D k this u_this_thrown this_tape this_taped this_size this_sort this_place this_value this_at this_fault this_words this_towns this_towns_f this_op this_arg this_codes this_names this_readNames this_namesMany this_readMany this_once this_lines this_facts this_pile this_state this_state_f this_undos this_isMarked this_weight this_rounding this_lacks this_alikes this_g 0 x3 r5 hcl) ⟨kw_1483, kw_16, by decide +kernel⟩ kw_1480 kw_1482 ks_125 ⟨Nat.le_of_ble_eq_true rfl, Nat.le_of_ble_eq_true rfl⟩ pr_blind (prR (hP.sub [0, 1, 2] rfl) hG) (va_recv hG.1 hP (ci := 10) (q0 := 0) rfl rfl) rfl hl.1 rfl (Nat.le_of_ble_eq_true rfl) dX12_heavy_38 ⟨Nat.zero_le _, Nat.zero_le _⟩) ?_
    refine lv_iload_n (pc := 41) hx hb dX12_heavy_41 rfl (lv_at hl 2 rfl) ?_
    refine lv_icmp_le (tgt := 54) (pc := 42) hx hb dX12_heavy_42 (by decide) (fun hc => ?_) (fun hc => ?_)
    · rw [if_pos hc] at hm
      refine lv_iload_n (pc := 54) hx hb dX12_heavy_54 rfl (lv_at hl 2 rfl) ?_
      refine lv_istore_n (lv' := [(2, .int x2), (1, .int t0), (0, .ref this), (3, .int x3)]) (pc := 55) hx hb dX12_heavy_55 rfl hl (Nat.le_of_ble_eq_true rfl) rfl (fun ls hl => ?_)
      refine lv_iinc (k := 3) (v := x3 + 1) (lv' := [(3, .int (x3 + 1)), (2, .int x2), (1, .int t0), (0, .ref this)]) (pc := 56) hx hb dX12_heavy_56 hl rfl rfl (Nat.le_of_ble_eq_true rfl) rfl (fun ls hl => ?_)
      refine lv_goto (tgt := 11) (pc := 59) hx hb dX12_heavy_59 (by decide) ?_
      exact hK11 t0 x2 (x3 + 1) u_this_thrown H locs ls hP hD hS (lv_sub hl [3, 2, 1, 0] rfl) hm
    · rw [if_neg hc] at hm
      refine lv_aload_n (pc := 45) hx hb dX12_heavy_45 rfl (lv_at hl 1 rfl) ?_
      refine lv_iconst (v := 0) (pc := 46) hx hb dX12_heavy_46 (by decide) ?_
      refine lv_iload_n (pc := 47) hx hb dX12_heavy_47 rfl (lv_at hl 3 rfl) ?_
      obtain ⟨r6, hcl, hm⟩ := bd hm
      refine cr_back (run_V (pc := 48) (n := 2) (As := [.int 0, .int x3]) (rest := []) ⟨hx, hb, hml, hown, hts⟩ (c_X12_weighsOf l D k this u_this_thrown this_tape this_taped this_size this_sort this_place this_value this_at this_fault this_words this_towns this_towns_f this_op this_arg this_codes this_names this_readNames this_namesMany this_readMany this_once this_lines this_facts this_pile this_state this_state_f this_undos this_isMarked this_weight this_rounding this_lacks this_alikes this_g 0 x3 r6 hcl) ⟨kw_1483, kw_16, by decide +kernel⟩ kw_1480 kw_1482 ks_125 ⟨Nat.le_of_ble_eq_true rfl, Nat.le_of_ble_eq_true rfl⟩ pr_blind (prR (hP.sub [0, 1, 2] rfl) hG) (va_recv hG.1 hP (ci := 10) (q0 := 0) rfl rfl) rfl hl.1 rfl (Nat.le_of_ble_eq_true rfl) dX12_heavy_48 ⟨Nat.zero_le _, Nat.zero_le _⟩) ?_
      refine lv_goto (tgt := 55) (pc := 51) hx hb dX12_heavy_51 (by decide) ?_
      refine lv_istore_n (lv' := [(2, .int r6), (1, .int t0), (0, .ref this), (3, .int x3)]) (pc := 55) hx hb dX12_heavy_55 rfl hl (Nat.le_of_ble_eq_true rfl) rfl (fun ls hl => ?_)
      refine lv_iinc (k := 3) (v := x3 + 1) (lv' := [(3, .int (x3 + 1)), (2, .int r6), (1, .int t0), (0, .ref this)]) (pc := 56) hx hb dX12_heavy_56 hl rfl rfl (Nat.le_of_ble_eq_true rfl) rfl (fun ls hl => ?_)
      refine lv_goto (tgt := 11) (pc := 59) hx hb dX12_heavy_59 (by decide) ?_
      exact hK11 t0 r6 (x3 + 1) u_this_thrown H locs ls hP hD hS (lv_sub hl [3, 2, 1, 0] rfl) hm
  have h_11 : ∀ (n : Nat), ∀ (x1 : Int32) (x2 : Int32) (x3 : Int32) (u_this_thrown : Int32) (H : Heap) (locs : List Loc) (ls : Array Slot), va_P D vwCl (wd_X12_heavy k this u_this_thrown this_tape this_taped this_size this_sort this_place this_value this_at this_fault this_words this_towns this_towns_f this_op this_arg this_codes this_names this_readNames this_namesMany this_readMany this_once this_lines this_facts this_pile this_state this_state_f this_undos this_isMarked this_weight this_rounding this_lacks this_alikes this_g) H → va_D A (wd_X12_heavy k this u_this_thrown this_tape this_taped this_size this_sort this_place this_value this_at this_fault this_words this_towns this_towns_f this_op this_arg this_codes this_names this_readNames this_namesMany this_readMany this_once this_lines this_facts this_pile this_state this_state_f this_undos this_isMarked this_weight this_rounding this_lacks this_alikes this_g) → va_S A s.heap H locs → lv_has ls 4 [(0, .ref this), (1, .int x1), (2, .int x2), (3, .int x3)] → m_X12_heavy_11 this_towns_f this_state_f n x1 x2 x3 u_this_thrown = some R0 → W p l e (Rm 2 46) s m args below meth c H locs 0 0 (MQ below (QW D (some (.int R0.1)) (wd_X12_heavy k this this_thrown this_tape this_taped this_size this_sort this_place this_value this_at this_fault this_words this_towns this_towns_f this_op this_arg this_codes this_names this_readNames this_namesMany this_readMany this_once this_lines this_facts this_pile this_state this_state_f this_undos this_isMarked this_weight this_rounding this_lacks this_alikes this_g) (wd_X12_heavy k this R0.2 this_tape this_taped this_size this_sort this_place this_value this_at this_fault this_words this_towns this_towns_f this_op this_arg this_codes this_names this_readNames this_namesMany this_readMany this_once this_lines this_facts this_pile this_state this_state_f this_undos this_isMarked this_weight this_rounding this_lacks this_alikes this_g) s.heap.size) args s 0 0 A) (F0 m 11 ls []) := by
    intro n
    induction n with
    | zero => intro x1 x2 x3 u_this_thrown H locs ls hP hD hS hl hm; cases hm
    | succ n ih =>
      intro x1 x2 x3 u_this_thrown H locs ls hP hD hS hl hm
      unfold m_X12_heavy_11 at hm
      refine lv_iload_n (pc := 11) hx hb dX12_heavy_11 rfl (lv_at hl 3 rfl) ?_
      refine lv_aload_n (pc := 12) hx hb dX12_heavy_12 rfl (lv_at hl 0 rfl) ?_
      obtain ⟨r7, hcl, hm⟩ := bd hm
      refine cr_back (run_V (pc := 13) (n := 0) (As := []) (rest := [.int x3]) ⟨hx, hb, hml, hown, hts⟩ (c_X12_persons l D k this u_this_thrown this_tape this_taped this_size this_sort this_place this_value this_at this_fault this_words this_towns this_towns_f this_op this_arg this_codes this_names this_readNames this_namesMany this_readMany this_once this_lines this_facts this_pile this_state this_undos this_isMarked this_weight this_rounding this_lacks this_alikes this_g r7 hcl) ⟨kw_1252, kw_16, by decide +kernel⟩ kw_1249 kw_1251 ks_97 ⟨Nat.le_of_ble_eq_true rfl, Nat.le_of_ble_eq_true rfl⟩ pr_blind (prR (hP.sub [0, 1] rfl) hG) (va_recv hG.1 hP (ci := 10) (q0 := 0) rfl rfl) rfl hl.1 rfl (Nat.le_of_ble_eq_true rfl) dX12_heavy_13 ⟨Nat.zero_le _, Nat.zero_le _⟩) ?_
      refine lv_icmp_ge (tgt := 62) (pc := 16) hx hb dX12_heavy_16 (by decide) (fun hc => ?_) (fun hc => ?_)
      · rw [if_pos hc] at hm
        refine lv_iload_n (pc := 62) hx hb dX12_heavy_62 rfl (lv_at hl 1 rfl) ?_
        rw [← Option.some.inj hm]
        exact W.iret hx hb hr (fun t ht _ => hq _ _ H t ht hP hD locs hS) hS.2.2 dX12_heavy_63 hlocks
      · rw [if_neg hc] at hm
        refine lv_aload_n (pc := 19) hx hb dX12_heavy_19 rfl (lv_at hl 0 rfl) ?_
        refine lv_iconst (v := 0) (pc := 20) hx hb dX12_heavy_20 (by decide) ?_
        refine lv_iload_n (pc := 21) hx hb dX12_heavy_21 rfl (lv_at hl 3 rfl) ?_
        obtain ⟨r8, hcl, hm⟩ := bd hm
        refine cr_back (run_V (pc := 22) (n := 2) (As := [.int 0, .int x3]) (rest := []) ⟨hx, hb, hml, hown, hts⟩ (c_X12_weighsOf l D k this u_this_thrown this_tape this_taped this_size this_sort this_place this_value this_at this_fault this_words this_towns this_towns_f this_op this_arg this_codes this_names this_readNames this_namesMany this_readMany this_once this_lines this_facts this_pile this_state this_state_f this_undos this_isMarked this_weight this_rounding this_lacks this_alikes this_g 0 x3 r8 hcl) ⟨kw_1483, kw_16, by decide +kernel⟩ kw_1480 kw_1482 ks_125 ⟨Nat.le_of_ble_eq_true rfl, Nat.le_of_ble_eq_true rfl⟩ pr_blind (prR (hP.sub [0, 1, 2] rfl) hG) (va_recv hG.1 hP (ci := 10) (q0 := 0) rfl rfl) rfl hl.1 rfl (Nat.le_of_ble_eq_true rfl) dX12_heavy_22 ⟨Nat.zero_le _, Nat.zero_le _⟩) ?_
        refine lv_iload_n (pc := 25) hx hb dX12_heavy_25 rfl (lv_at hl 2 rfl) ?_
        refine lv_icmp_le (tgt := 33) (pc := 26) hx hb dX12_heavy_26 (by decide) (fun hc => ?_) (fun hc => ?_)
        · rw [if_pos hc] at hm
          refine lv_iload_n (pc := 33) hx hb dX12_heavy_33 rfl (lv_at hl 1 rfl) ?_
          exact h_34 (m_X12_heavy_11 this_towns_f this_state_f n) ih x2 x3 x1 u_this_thrown H locs ls hP hD hS (lv_sub hl [0, 2, 3] rfl) hm
        · rw [if_neg hc] at hm
          refine lv_iload_n (pc := 29) hx hb dX12_heavy_29 rfl (lv_at hl 3 rfl) ?_
          refine lv_goto (tgt := 34) (pc := 30) hx hb dX12_heavy_30 (by decide) ?_
          exact h_34 (m_X12_heavy_11 this_towns_f this_state_f n) ih x2 x3 x3 u_this_thrown H locs ls hP hD hS (lv_sub hl [0, 2, 3] rfl) hm
  unfold m_X12_heavy at hm
  suffices hgo : ∀ (H : Heap) (locs : List Loc), va_P D vwCl (wd_X12_heavy k this this_thrown this_tape this_taped this_size this_sort this_place this_value this_at this_fault this_words this_towns this_towns_f this_op this_arg this_codes this_names this_readNames this_namesMany this_readMany this_once this_lines this_facts this_pile this_state this_state_f this_undos this_isMarked this_weight this_rounding this_lacks this_alikes this_g) H → va_D A (wd_X12_heavy k this this_thrown this_tape this_taped this_size this_sort this_place this_value this_at this_fault this_words this_towns this_towns_f this_op this_arg this_codes this_names this_readNames this_namesMany this_readMany this_once this_lines this_facts this_pile this_state this_state_f this_undos this_isMarked this_weight this_rounding this_lacks this_alikes this_g) → va_S A s.heap H locs → W p l e (Rm 2 46) s m args below meth c H locs 0 0 (MQ below (QW D (some (.int R0.1)) (wd_X12_heavy k this this_thrown this_tape this_taped this_size this_sort this_place this_value this_at this_fault this_words this_towns this_towns_f this_op this_arg this_codes this_names this_readNames this_namesMany this_readMany this_once this_lines this_facts this_pile this_state this_state_f this_undos this_isMarked this_weight this_rounding this_lacks this_alikes this_g) (wd_X12_heavy k this R0.2 this_tape this_taped this_size this_sort this_place this_value this_at this_fault this_words this_towns this_towns_f this_op this_arg this_codes this_names this_readNames this_namesMany this_readMany this_once this_lines this_facts this_pile this_state this_state_f this_undos this_isMarked this_weight this_rounding this_lacks this_alikes this_g) s.heap.size) args s 0 0 A) (F0 m 0 ls []) from hgo _ _ hP hD hS
  clear hP hD hS
  intro H locs hP hD hS
  refine lv_aload_n (pc := 0) hx hb dX12_heavy_0 rfl (lv_at hl 0 rfl) ?_
  refine lv_iconst (v := 0) (pc := 1) hx hb dX12_heavy_1 (by decide) ?_
  refine va_put (pc := 2) (D := D) (ci := 10) (v := .int 0) (ty := .int) (C := RX12) (T := TX12) (N := 30) hx hb hts hiX12 tyX12 tyX12_ok nmX12 hown hG.1 hP hD hS 0 rfl rfl 0 (Nat.le_of_ble_eq_true rfl) (hts _ kw_1257) (fun _ h9 => h9) rfl (by decide +kernel) rfl rfl (Nat.le_of_ble_eq_true rfl) dX12_heavy_2 (fun H locs hP hD hS => ?_)
  have hP : va_P D vwCl (wd_X12_heavy k this 0 this_tape this_taped this_size this_sort this_place this_value this_at this_fault this_words this_towns this_towns_f this_op this_arg this_codes this_names this_readNames this_namesMany this_readMany this_once this_lines this_facts this_pile this_state this_state_f this_undos this_isMarked this_weight this_rounding this_lacks this_alikes this_g) H := hP
  have hD : va_D A (wd_X12_heavy k this 0 this_tape this_taped this_size this_sort this_place this_value this_at this_fault this_words this_towns this_towns_f this_op this_arg this_codes this_names this_readNames this_namesMany this_readMany this_once this_lines this_facts this_pile this_state this_state_f this_undos this_isMarked this_weight this_rounding this_lacks this_alikes this_g) := hD
  refine lv_iconst (v := (-1)) (pc := 5) hx hb dX12_heavy_5 (by decide) ?_
  refine lv_istore_n (lv' := [(1, .int (-1)), (0, .ref this)]) (pc := 6) hx hb dX12_heavy_6 rfl hl (Nat.le_of_ble_eq_true rfl) rfl (fun ls hl => ?_)
  refine lv_iconst (v := (-1)) (pc := 7) hx hb dX12_heavy_7 (by decide) ?_
  refine lv_istore_n (lv' := [(2, .int (-1)), (1, .int (-1)), (0, .ref this)]) (pc := 8) hx hb dX12_heavy_8 rfl hl (Nat.le_of_ble_eq_true rfl) rfl (fun ls hl => ?_)
  refine lv_iconst (v := 0) (pc := 9) hx hb dX12_heavy_9 (by decide) ?_
  refine lv_istore_n (lv' := [(3, .int 0), (2, .int (-1)), (1, .int (-1)), (0, .ref this)]) (pc := 10) hx hb dX12_heavy_10 rfl hl (Nat.le_of_ble_eq_true rfl) rfl (fun ls hl => ?_)
  exact h_11 FU (-1) (-1) 0 0 H locs ls hP hD hS (lv_sub hl [3, 2, 1, 0] rfl) hm
theorem dX12_see_0 : decode cX12_see 0 = .ok (.aload_n 0, 1) := by decide +kernel
theorem dX12_see_1 : decode cX12_see 1 = .ok (.iconst 0, 1) := by decide +kernel
theorem dX12_see_2 : decode cX12_see 2 = .ok (.putfield 1, 3) := by decide +kernel
theorem dX12_see_5 : decode cX12_see 5 = .ok (.iload_n 1, 1) := by decide +kernel
theorem dX12_see_6 : decode cX12_see 6 = .ok (.iconst 0, 1) := by decide +kernel
theorem dX12_see_7 : decode cX12_see 7 = .ok (.bipush 20, 2) := by decide +kernel
theorem dX12_see_9 : decode cX12_see 9 = .ok (.invokestatic 306, 3) := by decide +kernel
theorem dX12_see_12 : decode cX12_see 12 = .ok (.ifCond .eq 25, 3) := by decide +kernel
theorem dX12_see_15 : decode cX12_see 15 = .ok (.iload_n 2, 1) := by decide +kernel
theorem dX12_see_16 : decode cX12_see 16 = .ok (.iconst 0, 1) := by decide +kernel
theorem dX12_see_17 : decode cX12_see 17 = .ok (.bipush 99, 2) := by decide +kernel
theorem dX12_see_19 : decode cX12_see 19 = .ok (.invokestatic 306, 3) := by decide +kernel
theorem dX12_see_22 : decode cX12_see 22 = .ok (.ifCond .eq 15, 3) := by decide +kernel
theorem dX12_see_25 : decode cX12_see 25 = .ok (.aload_n 0, 1) := by decide +kernel
theorem dX12_see_26 : decode cX12_see 26 = .ok (.getfield 113, 3) := by decide +kernel
theorem dX12_see_29 : decode cX12_see 29 = .ok (.bipush 13, 2) := by decide +kernel
theorem dX12_see_31 : decode cX12_see 31 = .ok (.iaload, 1) := by decide +kernel
theorem dX12_see_32 : decode cX12_see 32 = .ok (.bipush 8, 2) := by decide +kernel
theorem dX12_see_34 : decode cX12_see 34 = .ok (.if_icmp .ne 5, 3) := by decide +kernel
theorem dX12_see_37 : decode cX12_see 37 = .ok (.iconst 0, 1) := by decide +kernel
theorem dX12_see_38 : decode cX12_see 38 = .ok (.ireturn, 1) := by decide +kernel
theorem dX12_see_39 : decode cX12_see 39 = .ok (.bipush 14, 2) := by decide +kernel
theorem dX12_see_41 : decode cX12_see 41 = .ok (.iconst 2, 1) := by decide +kernel
theorem dX12_see_42 : decode cX12_see 42 = .ok (.aload_n 0, 1) := by decide +kernel
theorem dX12_see_43 : decode cX12_see 43 = .ok (.getfield 113, 3) := by decide +kernel
theorem dX12_see_46 : decode cX12_see 46 = .ok (.bipush 13, 2) := by decide +kernel
theorem dX12_see_48 : decode cX12_see 48 = .ok (.iaload, 1) := by decide +kernel
theorem dX12_see_49 : decode cX12_see 49 = .ok (.imul, 1) := by decide +kernel
theorem dX12_see_50 : decode cX12_see 50 = .ok (.iadd, 1) := by decide +kernel
theorem dX12_see_51 : decode cX12_see 51 = .ok (.istore_n 3, 1) := by decide +kernel
theorem dX12_see_52 : decode cX12_see 52 = .ok (.aload_n 0, 1) := by decide +kernel
theorem dX12_see_53 : decode cX12_see 53 = .ok (.getfield 113, 3) := by decide +kernel
theorem dX12_see_56 : decode cX12_see 56 = .ok (.iload_n 3, 1) := by decide +kernel
theorem dX12_see_57 : decode cX12_see 57 = .ok (.iload_n 1, 1) := by decide +kernel
theorem dX12_see_58 : decode cX12_see 58 = .ok (.iastore, 1) := by decide +kernel
theorem dX12_see_59 : decode cX12_see 59 = .ok (.aload_n 0, 1) := by decide +kernel
theorem dX12_see_60 : decode cX12_see 60 = .ok (.getfield 113, 3) := by decide +kernel
theorem dX12_see_63 : decode cX12_see 63 = .ok (.iload_n 3, 1) := by decide +kernel
theorem dX12_see_64 : decode cX12_see 64 = .ok (.iconst 1, 1) := by decide +kernel
theorem dX12_see_65 : decode cX12_see 65 = .ok (.iadd, 1) := by decide +kernel
theorem dX12_see_66 : decode cX12_see 66 = .ok (.iload_n 2, 1) := by decide +kernel
theorem dX12_see_67 : decode cX12_see 67 = .ok (.iastore, 1) := by decide +kernel
theorem dX12_see_68 : decode cX12_see 68 = .ok (.aload_n 0, 1) := by decide +kernel
theorem dX12_see_69 : decode cX12_see 69 = .ok (.getfield 113, 3) := by decide +kernel
theorem dX12_see_72 : decode cX12_see 72 = .ok (.bipush 13, 2) := by decide +kernel
theorem dX12_see_74 : decode cX12_see 74 = .ok (.dup2, 1) := by decide +kernel
theorem dX12_see_75 : decode cX12_see 75 = .ok (.iaload, 1) := by decide +kernel
theorem dX12_see_76 : decode cX12_see 76 = .ok (.iconst 1, 1) := by decide +kernel
theorem dX12_see_77 : decode cX12_see 77 = .ok (.iadd, 1) := by decide +kernel
theorem dX12_see_78 : decode cX12_see 78 = .ok (.iastore, 1) := by decide +kernel
theorem dX12_see_79 : decode cX12_see 79 = .ok (.iconst 1, 1) := by decide +kernel
theorem dX12_see_80 : decode cX12_see 80 = .ok (.ireturn, 1) := by decide +kernel
abbrev wd_X12_see (k : Nat → ClassId) (this : Nat) (this_thrown : Int32) (this_tape : Nat) (this_taped : Int32) (this_size : Int32) (this_sort : Nat) (this_place : Nat) (this_value : Nat) (this_at : Int32) (this_fault : Int32) (this_words : Nat) (this_towns : Nat) (this_op : Nat) (this_arg : Nat) (this_codes : Int32) (this_names : Nat) (this_readNames : Nat) (this_namesMany : Int32) (this_readMany : Int32) (this_once : Int32) (this_lines : Nat) (this_facts : Nat) (this_pile : Nat) (this_state : Nat) (this_state_f : Nat → Int32) (this_undos : Int32) (this_isMarked : Nat) (this_weight : Int32) (this_rounding : Int32) (this_lacks : Nat) (this_alikes : Nat) (this_g : Int64) : va_W := [(this, .inr (10, [.int this_thrown, .ref this_tape, .int this_taped, .int this_size, .ref this_sort, .ref this_place, .ref this_value, .int this_at, .int this_fault, .ref this_words, .ref this_towns, .ref this_op, .ref this_arg, .int this_codes, .ref this_names, .ref this_readNames, .int this_namesMany, .int this_readMany, .int this_once, .ref this_lines, .ref this_facts, .ref this_pile, .ref this_state, .int this_undos, .ref this_isMarked, .int this_weight, .int this_rounding, .ref this_lacks, .ref this_alikes, .long this_g])), (this_state, .inl (k 0, 1104, .inl this_state_f))]
set_option maxHeartbeats 4000000 in
set_option maxRecDepth 100000 in
theorem c_X12_see (l : Launch) (D : va_G) (k : Nat → ClassId) (this : Nat) (this_thrown : Int32) (this_tape : Nat) (this_taped : Int32) (this_size : Int32) (this_sort : Nat) (this_place : Nat) (this_value : Nat) (this_at : Int32) (this_fault : Int32) (this_words : Nat) (this_towns : Nat) (this_op : Nat) (this_arg : Nat) (this_codes : Int32) (this_names : Nat) (this_readNames : Nat) (this_namesMany : Int32) (this_readMany : Int32) (this_once : Int32) (this_lines : Nat) (this_facts : Nat) (this_pile : Nat) (this_state : Nat) (this_state_f : Nat → Int32) (this_undos : Int32) (this_isMarked : Nat) (this_weight : Int32) (this_rounding : Int32) (this_lacks : Nat) (this_alikes : Nat) (this_g : Int64) (q1 : Int32) (q2 : Int32) (R0 : Int32 × Int32 × (Nat → Int32)) (hm : m_X12_see this_state_f q1 q2 = some R0) : CW l D (TY k) yX12_see cX12_see 4 (some .boolean) 1 22 [.ref this, .int q1, .int q2] (wd_X12_see k this this_thrown this_tape this_taped this_size this_sort this_place this_value this_at this_fault this_words this_towns this_op this_arg this_codes this_names this_readNames this_namesMany this_readMany this_once this_lines this_facts this_pile this_state this_state_f this_undos this_isMarked this_weight this_rounding this_lacks this_alikes this_g) (some (.int R0.1)) (wd_X12_see k this R0.2.1 this_tape this_taped this_size this_sort this_place this_value this_at this_fault this_words this_towns this_op this_arg this_codes this_names this_readNames this_namesMany this_readMany this_once this_lines this_facts this_pile this_state R0.2.2 this_undos this_isMarked this_weight this_rounding this_lacks this_alikes this_g) := by
  refine CW.mk (by decide) (Nat.le_of_ble_eq_true rfl) ?_
  intro p e s m args below meth c ls A ⟨hx, hb, hr, hts, hown, hlocks, hml⟩ hP hG hD hA hl hS hq
  have hl : lv_has ls 4 [(0, .ref this), (1, .int q1), (2, .int q2)] := hl
  unfold m_X12_see at hm
  suffices hgo : ∀ (H : Heap) (locs : List Loc), va_P D vwCl (wd_X12_see k this this_thrown this_tape this_taped this_size this_sort this_place this_value this_at this_fault this_words this_towns this_op this_arg this_codes this_names this_readNames this_namesMany this_readMany this_once this_lines this_facts this_pile this_state this_state_f this_undos this_isMarked this_weight this_rounding this_lacks this_alikes this_g) H → va_D A (wd_X12_see k this this_thrown this_tape this_taped this_size this_sort this_place this_value this_at this_fault this_words this_towns this_op this_arg this_codes this_names this_readNames this_namesMany this_readMany this_once this_lines this_facts this_pile this_state this_state_f this_undos this_isMarked this_weight this_rounding this_lacks this_alikes this_g) → va_S A s.heap H locs → W p l e (Rm 1 22) s m args below meth c H locs 0 0 (MQ below (QW D (some (.int R0.1)) (wd_X12_see k this this_thrown this_tape this_taped this_size this_sort this_place this_value this_at this_fault this_words this_towns this_op this_arg this_codes this_names this_readNames this_namesMany this_readMany this_once this_lines this_facts this_pile this_state this_state_f this_undos this_isMarked this_weight this_rounding this_lacks this_alikes this_g) (wd_X12_see k this R0.2.1 this_tape this_taped this_size this_sort this_place this_value this_at this_fault this_words this_towns this_op this_arg this_codes this_names this_readNames this_namesMany this_readMany this_once this_lines this_facts this_pile this_state R0.2.2 this_undos this_isMarked this_weight this_rounding this_lacks this_alikes this_g) s.heap.size) args s 0 0 A) (F0 m 0 ls []) from hgo _ _ hP hD hS
  clear hP hD hS
  intro H locs hP hD hS
  refine lv_aload_n (pc := 0) hx hb dX12_see_0 rfl (lv_at hl 0 rfl) ?_
  refine lv_iconst (v := 0) (pc := 1) hx hb dX12_see_1 (by decide) ?_
  refine va_put (pc := 2) (D := D) (ci := 10) (v := .int 0) (ty := .int) (C := RX12) (T := TX12) (N := 30) hx hb hts hiX12 tyX12 tyX12_ok nmX12 hown hG.1 hP hD hS 0 rfl rfl 0 (Nat.le_of_ble_eq_true rfl) (hts _ kw_1257) (fun _ h9 => h9) rfl (by decide +kernel) rfl rfl (Nat.le_of_ble_eq_true rfl) dX12_see_2 (fun H locs hP hD hS => ?_)
  have hP : va_P D vwCl (wd_X12_see k this 0 this_tape this_taped this_size this_sort this_place this_value this_at this_fault this_words this_towns this_op this_arg this_codes this_names this_readNames this_namesMany this_readMany this_once this_lines this_facts this_pile this_state this_state_f this_undos this_isMarked this_weight this_rounding this_lacks this_alikes this_g) H := hP
  have hD : va_D A (wd_X12_see k this 0 this_tape this_taped this_size this_sort this_place this_value this_at this_fault this_words this_towns this_op this_arg this_codes this_names this_readNames this_namesMany this_readMany this_once this_lines this_facts this_pile this_state this_state_f this_undos this_isMarked this_weight this_rounding this_lacks this_alikes this_g) := hD
  refine lv_iload_n (pc := 5) hx hb dX12_see_5 rfl (lv_at hl 1 rfl) ?_
  refine lv_iconst (v := 0) (pc := 6) hx hb dX12_see_6 (by decide) ?_
  refine lv_bipush (v := 20) (pc := 7) hx hb dX12_see_7 (by decide) ?_
  obtain ⟨r4, hcl, hm⟩ := bd hm
  refine cr_back (run_S (pc := 9) (n := 3) (As := [.int q1, .int 0, .int 20]) (rest := []) ⟨hx, hb, hml, hown, hts⟩ (c_X12_within l D k q1 0 20 r4 hcl) ⟨kw_1501, kw_16, by decide +kernel⟩ kw_1499 kw_1500 ⟨Nat.le_of_ble_eq_true rfl, Nat.le_of_ble_eq_true rfl⟩ pr_blind (prR (hP.sub [] rfl) hG) rfl hl.1 rfl (Nat.le_of_ble_eq_true rfl) dX12_see_9 ⟨Nat.zero_le _, Nat.zero_le _⟩) ?_
  refine lv_if_eq (tgt := 37) (pc := 12) hx hb dX12_see_12 (by decide) (fun hc => ?_) (fun hc => ?_)
  · rw [if_pos hc] at hm
    refine lv_iconst (v := 0) (pc := 37) hx hb dX12_see_37 (by decide) ?_
    rw [← Option.some.inj hm]
    exact W.zret hx hb hr (nar_bool (Or.inl rfl)) (fun t ht _ => hq _ _ H t ht hP hD locs hS) hS.2.2 dX12_see_38 hlocks
  · rw [if_neg hc] at hm
    refine lv_iload_n (pc := 15) hx hb dX12_see_15 rfl (lv_at hl 2 rfl) ?_
    refine lv_iconst (v := 0) (pc := 16) hx hb dX12_see_16 (by decide) ?_
    refine lv_bipush (v := 99) (pc := 17) hx hb dX12_see_17 (by decide) ?_
    obtain ⟨r5, hcl, hm⟩ := bd hm
    refine cr_back (run_S (pc := 19) (n := 3) (As := [.int q2, .int 0, .int 99]) (rest := []) ⟨hx, hb, hml, hown, hts⟩ (c_X12_within l D k q2 0 99 r5 hcl) ⟨kw_1501, kw_16, by decide +kernel⟩ kw_1499 kw_1500 ⟨Nat.le_of_ble_eq_true rfl, Nat.le_of_ble_eq_true rfl⟩ pr_blind (prR (hP.sub [] rfl) hG) rfl hl.1 rfl (Nat.le_of_ble_eq_true rfl) dX12_see_19 ⟨Nat.zero_le _, Nat.zero_le _⟩) ?_
    refine lv_if_eq (tgt := 37) (pc := 22) hx hb dX12_see_22 (by decide) (fun hc => ?_) (fun hc => ?_)
    · rw [if_pos hc] at hm
      refine lv_iconst (v := 0) (pc := 37) hx hb dX12_see_37 (by decide) ?_
      rw [← Option.some.inj hm]
      exact W.zret hx hb hr (nar_bool (Or.inl rfl)) (fun t ht _ => hq _ _ H t ht hP hD locs hS) hS.2.2 dX12_see_38 hlocks
    · rw [if_neg hc] at hm
      refine lv_aload_n (pc := 25) hx hb dX12_see_25 rfl (lv_at hl 0 rfl) ?_
      refine va_get (pc := 26) (D := D) (ci := 10) (C := RX12) (T := TX12) (N := 30) hx hb hts hiX12 hown hG.1 hP 0 rfl rfl 22 (Nat.le_of_ble_eq_true rfl) (hts _ kw_1279) (fun _ h9 => h9) rfl dX12_see_26 ?_
      refine lv_bipush (v := 13) (pc := 29) hx hb dX12_see_29 (by decide) ?_
      refine va_iald (pc := 31) (D := D) hx hb hG.1 hP 1 0 rfl rfl (pn_in (Nat.le_of_ble_eq_true rfl) (Nat.le_of_ble_eq_true rfl)) dX12_see_31 ?_
      refine lv_bipush (v := 8) (pc := 32) hx hb dX12_see_32 (by decide) ?_
      refine lv_icmp_ne (tgt := 39) (pc := 34) hx hb dX12_see_34 (by decide) (fun hc => ?_) (fun hc => ?_)
      · rw [if_neg hc] at hm
        refine lv_bipush (v := 14) (pc := 39) hx hb dX12_see_39 (by decide) ?_
        refine lv_iconst (v := 2) (pc := 41) hx hb dX12_see_41 (by decide) ?_
        refine lv_aload_n (pc := 42) hx hb dX12_see_42 rfl (lv_at hl 0 rfl) ?_
        refine va_get (pc := 43) (D := D) (ci := 10) (C := RX12) (T := TX12) (N := 30) hx hb hts hiX12 hown hG.1 hP 0 rfl rfl 22 (Nat.le_of_ble_eq_true rfl) (hts _ kw_1279) (fun _ h9 => h9) rfl dX12_see_43 ?_
        refine lv_bipush (v := 13) (pc := 46) hx hb dX12_see_46 (by decide) ?_
        refine va_iald (pc := 48) (D := D) hx hb hG.1 hP 1 0 rfl rfl (pn_in (Nat.le_of_ble_eq_true rfl) (Nat.le_of_ble_eq_true rfl)) dX12_see_48 ?_
        refine lv_imul (pc := 49) hx hb dX12_see_49 ?_
        refine lv_iadd (pc := 50) hx hb dX12_see_50 ?_
        obtain ⟨z6, hv, hm⟩ := bd hm
        refine lv_topi (fun w ew => ?_)
        obtain rfl : z6 = w := (Option.some.inj hv).symm.trans ew.symm
        refine lv_istore_n (lv' := [(3, .int z6), (0, .ref this), (1, .int q1), (2, .int q2)]) (pc := 51) hx hb dX12_see_51 rfl hl (Nat.le_of_ble_eq_true rfl) rfl (fun ls hl => ?_)
        refine lv_aload_n (pc := 52) hx hb dX12_see_52 rfl (lv_at hl 1 rfl) ?_
        refine va_get (pc := 53) (D := D) (ci := 10) (C := RX12) (T := TX12) (N := 30) hx hb hts hiX12 hown hG.1 hP 0 rfl rfl 22 (Nat.le_of_ble_eq_true rfl) (hts _ kw_1279) (fun _ h9 => h9) rfl dX12_see_53 ?_
        refine lv_iload_n (pc := 56) hx hb dX12_see_56 rfl (lv_at hl 0 rfl) ?_
        refine lv_iload_n (pc := 57) hx hb dX12_see_57 rfl (lv_at hl 2 rfl) ?_
        obtain ⟨hin, hm⟩ := gd hm
        refine va_iast (pc := 58) (D := D) hx hb hG.1 hP hD hS 1 0 rfl rfl hin dX12_see_58 (fun H locs hP hD hS => ?_)
        have hP : va_P D vwCl (wd_X12_see k this 0 this_tape this_taped this_size this_sort this_place this_value this_at this_fault this_words this_towns this_op this_arg this_codes this_names this_readNames this_namesMany this_readMany this_once this_lines this_facts this_pile this_state (upd this_state_f z6.toNatClampNeg q1) this_undos this_isMarked this_weight this_rounding this_lacks this_alikes this_g) H := hP
        have hD : va_D A (wd_X12_see k this 0 this_tape this_taped this_size this_sort this_place this_value this_at this_fault this_words this_towns this_op this_arg this_codes this_names this_readNames this_namesMany this_readMany this_once this_lines this_facts this_pile this_state (upd this_state_f z6.toNatClampNeg q1) this_undos this_isMarked this_weight this_rounding this_lacks this_alikes this_g) := hD
        refine lv_aload_n (pc := 59) hx hb dX12_see_59 rfl (lv_at hl 1 rfl) ?_
        refine va_get (pc := 60) (D := D) (ci := 10) (C := RX12) (T := TX12) (N := 30) hx hb hts hiX12 hown hG.1 hP 0 rfl rfl 22 (Nat.le_of_ble_eq_true rfl) (hts _ kw_1279) (fun _ h9 => h9) rfl dX12_see_60 ?_
        refine lv_iload_n (pc := 63) hx hb dX12_see_63 rfl (lv_at hl 0 rfl) ?_
        refine lv_iconst (v := 1) (pc := 64) hx hb dX12_see_64 (by decide) ?_
        refine lv_iadd (pc := 65) hx hb dX12_see_65 ?_
        refine lv_iload_n (pc := 66) hx hb dX12_see_66 rfl (lv_at hl 3 rfl) ?_
        obtain ⟨hin, hm⟩ := gd hm
        refine va_iast (pc := 67) (D := D) hx hb hG.1 hP hD hS 1 0 rfl rfl hin dX12_see_67 (fun H locs hP hD hS => ?_)
        have hP : va_P D vwCl (wd_X12_see k this 0 this_tape this_taped this_size this_sort this_place this_value this_at this_fault this_words this_towns this_op this_arg this_codes this_names this_readNames this_namesMany this_readMany this_once this_lines this_facts this_pile this_state (upd (upd this_state_f z6.toNatClampNeg q1) (z6 + 1).toNatClampNeg q2) this_undos this_isMarked this_weight this_rounding this_lacks this_alikes this_g) H := hP
        have hD : va_D A (wd_X12_see k this 0 this_tape this_taped this_size this_sort this_place this_value this_at this_fault this_words this_towns this_op this_arg this_codes this_names this_readNames this_namesMany this_readMany this_once this_lines this_facts this_pile this_state (upd (upd this_state_f z6.toNatClampNeg q1) (z6 + 1).toNatClampNeg q2) this_undos this_isMarked this_weight this_rounding this_lacks this_alikes this_g) := hD
        refine lv_aload_n (pc := 68) hx hb dX12_see_68 rfl (lv_at hl 1 rfl) ?_
        refine va_get (pc := 69) (D := D) (ci := 10) (C := RX12) (T := TX12) (N := 30) hx hb hts hiX12 hown hG.1 hP 0 rfl rfl 22 (Nat.le_of_ble_eq_true rfl) (hts _ kw_1279) (fun _ h9 => h9) rfl dX12_see_69 ?_
        refine lv_bipush (v := 13) (pc := 72) hx hb dX12_see_72 (by decide) ?_
        refine lv_dup2_11 (pc := 74) hx hb dX12_see_74 rfl rfl ?_
        refine va_iald (pc := 75) (D := D) hx hb hG.1 hP 1 0 rfl rfl (pn_in (Nat.le_of_ble_eq_true rfl) (Nat.le_of_ble_eq_true rfl)) dX12_see_75 ?_
        refine lv_iconst (v := 1) (pc := 76) hx hb dX12_see_76 (by decide) ?_
        refine lv_iadd (pc := 77) hx hb dX12_see_77 ?_
        refine va_iast (pc := 78) (D := D) hx hb hG.1 hP hD hS 1 0 rfl rfl (pn_in (Nat.le_of_ble_eq_true rfl) (Nat.le_of_ble_eq_true rfl)) dX12_see_78 (fun H locs hP hD hS => ?_)
        have hP : va_P D vwCl (wd_X12_see k this 0 this_tape this_taped this_size this_sort this_place this_value this_at this_fault this_words this_towns this_op this_arg this_codes this_names this_readNames this_namesMany this_readMany this_once this_lines this_facts this_pile this_state (upd (upd (upd this_state_f z6.toNatClampNeg q1) (z6 + 1).toNatClampNeg q2) (13 : Int32).toNatClampNeg (((upd (upd this_state_f z6.toNatClampNeg q1) (z6 + 1).toNatClampNeg q2) (13 : Int32).toNatClampNeg) + 1)) this_undos this_isMarked this_weight this_rounding this_lacks this_alikes this_g) H := hP
        have hD : va_D A (wd_X12_see k this 0 this_tape this_taped this_size this_sort this_place this_value this_at this_fault this_words this_towns this_op this_arg this_codes this_names this_readNames this_namesMany this_readMany this_once this_lines this_facts this_pile this_state (upd (upd (upd this_state_f z6.toNatClampNeg q1) (z6 + 1).toNatClampNeg q2) (13 : Int32).toNatClampNeg (((upd (upd this_state_f z6.toNatClampNeg q1) (z6 + 1).toNatClampNeg q2) (13 : Int32).toNatClampNeg) + 1)) this_undos this_isMarked this_weight this_rounding this_lacks this_alikes this_g) := hD
        refine lv_iconst (v := 1) (pc := 79) hx hb dX12_see_79 (by decide) ?_
        rw [← Option.some.inj hm]
        exact W.zret hx hb hr (nar_bool (Or.inr rfl)) (fun t ht _ => hq _ _ H t ht hP hD locs hS) hS.2.2 dX12_see_80 hlocks
      · rw [if_pos hc] at hm
        refine lv_iconst (v := 0) (pc := 37) hx hb dX12_see_37 (by decide) ?_
        rw [← Option.some.inj hm]
        exact W.zret hx hb hr (nar_bool (Or.inl rfl)) (fun t ht _ => hq _ _ H t ht hP hD locs hS) hS.2.2 dX12_see_38 hlocks
theorem dX12_isSeen_0 : decode cX12_isSeen 0 = .ok (.iconst 1, 1) := by decide +kernel
theorem dX12_isSeen_1 : decode cX12_isSeen 1 = .ok (.istore_n 3, 1) := by decide +kernel
theorem dX12_isSeen_2 : decode cX12_isSeen 2 = .ok (.iconst 0, 1) := by decide +kernel
theorem dX12_isSeen_3 : decode cX12_isSeen 3 = .ok (.istore 4, 2) := by decide +kernel
theorem dX12_isSeen_5 : decode cX12_isSeen 5 = .ok (.iload 4, 2) := by decide +kernel
theorem dX12_isSeen_7 : decode cX12_isSeen 7 = .ok (.aload_n 0, 1) := by decide +kernel
theorem dX12_isSeen_8 : decode cX12_isSeen 8 = .ok (.getfield 113, 3) := by decide +kernel
theorem dX12_isSeen_11 : decode cX12_isSeen 11 = .ok (.bipush 13, 2) := by decide +kernel
theorem dX12_isSeen_13 : decode cX12_isSeen 13 = .ok (.iaload, 1) := by decide +kernel
theorem dX12_isSeen_14 : decode cX12_isSeen 14 = .ok (.if_icmp .ge 64, 3) := by decide +kernel
theorem dX12_isSeen_17 : decode cX12_isSeen 17 = .ok (.iload_n 3, 1) := by decide +kernel
theorem dX12_isSeen_18 : decode cX12_isSeen 18 = .ok (.ifCond .eq 60, 3) := by decide +kernel
theorem dX12_isSeen_21 : decode cX12_isSeen 21 = .ok (.bipush 14, 2) := by decide +kernel
theorem dX12_isSeen_23 : decode cX12_isSeen 23 = .ok (.iconst 2, 1) := by decide +kernel
theorem dX12_isSeen_24 : decode cX12_isSeen 24 = .ok (.iload 4, 2) := by decide +kernel
theorem dX12_isSeen_26 : decode cX12_isSeen 26 = .ok (.imul, 1) := by decide +kernel
theorem dX12_isSeen_27 : decode cX12_isSeen 27 = .ok (.iadd, 1) := by decide +kernel
theorem dX12_isSeen_28 : decode cX12_isSeen 28 = .ok (.istore 5, 2) := by decide +kernel
theorem dX12_isSeen_30 : decode cX12_isSeen 30 = .ok (.aload_n 0, 1) := by decide +kernel
theorem dX12_isSeen_31 : decode cX12_isSeen 31 = .ok (.invokevirtual 318, 3) := by decide +kernel
theorem dX12_isSeen_34 : decode cX12_isSeen 34 = .ok (.aload_n 0, 1) := by decide +kernel
theorem dX12_isSeen_35 : decode cX12_isSeen 35 = .ok (.sipush 1008, 3) := by decide +kernel
theorem dX12_isSeen_38 : decode cX12_isSeen 38 = .ok (.iload_n 1, 1) := by decide +kernel
theorem dX12_isSeen_39 : decode cX12_isSeen 39 = .ok (.iload_n 2, 1) := by decide +kernel
theorem dX12_isSeen_40 : decode cX12_isSeen 40 = .ok (.invokevirtual 312, 3) := by decide +kernel
theorem dX12_isSeen_43 : decode cX12_isSeen 43 = .ok (.aload_n 0, 1) := by decide +kernel
theorem dX12_isSeen_44 : decode cX12_isSeen 44 = .ok (.aload_n 0, 1) := by decide +kernel
theorem dX12_isSeen_45 : decode cX12_isSeen 45 = .ok (.getfield 113, 3) := by decide +kernel
theorem dX12_isSeen_48 : decode cX12_isSeen 48 = .ok (.iload 5, 2) := by decide +kernel
theorem dX12_isSeen_50 : decode cX12_isSeen 50 = .ok (.iaload, 1) := by decide +kernel
theorem dX12_isSeen_51 : decode cX12_isSeen 51 = .ok (.invokevirtual 321, 3) := by decide +kernel
theorem dX12_isSeen_54 : decode cX12_isSeen 54 = .ok (.aload_n 0, 1) := by decide +kernel
theorem dX12_isSeen_55 : decode cX12_isSeen 55 = .ok (.getfield 113, 3) := by decide +kernel
theorem dX12_isSeen_58 : decode cX12_isSeen 58 = .ok (.iload 5, 2) := by decide +kernel
theorem dX12_isSeen_60 : decode cX12_isSeen 60 = .ok (.iconst 1, 1) := by decide +kernel
theorem dX12_isSeen_61 : decode cX12_isSeen 61 = .ok (.iadd, 1) := by decide +kernel
theorem dX12_isSeen_62 : decode cX12_isSeen 62 = .ok (.iaload, 1) := by decide +kernel
theorem dX12_isSeen_63 : decode cX12_isSeen 63 = .ok (.if_icmp .ne 7, 3) := by decide +kernel
theorem dX12_isSeen_66 : decode cX12_isSeen 66 = .ok (.iconst 1, 1) := by decide +kernel
theorem dX12_isSeen_67 : decode cX12_isSeen 67 = .ok (.goto 4, 3) := by decide +kernel
theorem dX12_isSeen_70 : decode cX12_isSeen 70 = .ok (.iconst 0, 1) := by decide +kernel
theorem dX12_isSeen_71 : decode cX12_isSeen 71 = .ok (.istore_n 3, 1) := by decide +kernel
theorem dX12_isSeen_72 : decode cX12_isSeen 72 = .ok (.iinc 4 1, 3) := by decide +kernel
theorem dX12_isSeen_75 : decode cX12_isSeen 75 = .ok (.goto (-70), 3) := by decide +kernel
theorem dX12_isSeen_78 : decode cX12_isSeen 78 = .ok (.iload_n 3, 1) := by decide +kernel
theorem dX12_isSeen_79 : decode cX12_isSeen 79 = .ok (.ireturn, 1) := by decide +kernel
abbrev wd_X12_isSeen (k : Nat → ClassId) (this : Nat) (this_thrown : Int32) (this_tape : Nat) (this_taped : Int32) (this_size : Int32) (this_sort : Nat) (this_place : Nat) (this_value : Nat) (this_at : Int32) (this_fault : Int32) (this_words : Nat) (this_towns : Nat) (this_towns_f : Nat → Int32) (this_op : Nat) (this_op_f : Nat → Int32) (this_arg : Nat) (this_arg_f : Nat → Int32) (this_codes : Int32) (this_names : Nat) (this_readNames : Nat) (this_namesMany : Int32) (this_readMany : Int32) (this_once : Int32) (this_lines : Nat) (this_facts : Nat) (this_facts_f : Nat → Int32) (this_pile : Nat) (this_pile_f : Nat → Int32) (this_state : Nat) (this_state_f : Nat → Int32) (this_undos : Int32) (this_isMarked : Nat) (this_weight : Int32) (this_rounding : Int32) (this_lacks : Nat) (this_lacks_f : Nat → Int32) (this_alikes : Nat) (this_g : Int64) : va_W := [(this, .inr (10, [.int this_thrown, .ref this_tape, .int this_taped, .int this_size, .ref this_sort, .ref this_place, .ref this_value, .int this_at, .int this_fault, .ref this_words, .ref this_towns, .ref this_op, .ref this_arg, .int this_codes, .ref this_names, .ref this_readNames, .int this_namesMany, .int this_readMany, .int this_once, .ref this_lines, .ref this_facts, .ref this_pile, .ref this_state, .int this_undos, .ref this_isMarked, .int this_weight, .int this_rounding, .ref this_lacks, .ref this_alikes, .long this_g])), (this_towns, .inl (k 0, 60, .inl this_towns_f)), (this_op, .inl (k 0, 2200, .inl this_op_f)), (this_arg, .inl (k 0, 2200, .inl this_arg_f)), (this_facts, .inl (k 0, 4, .inl this_facts_f)), (this_pile, .inl (k 0, 1100, .inl this_pile_f)), (this_state, .inl (k 0, 1104, .inl this_state_f)), (this_lacks, .inl (k 0, 6, .inl this_lacks_f))]
set_option maxHeartbeats 4000000 in
set_option maxRecDepth 100000 in
theorem c_X12_isSeen (l : Launch) (D : va_G) (k : Nat → ClassId) (this : Nat) (this_thrown : Int32) (this_tape : Nat) (this_taped : Int32) (this_size : Int32) (this_sort : Nat) (this_place : Nat) (this_value : Nat) (this_at : Int32) (this_fault : Int32) (this_words : Nat) (this_towns : Nat) (this_towns_f : Nat → Int32) (this_op : Nat) (this_op_f : Nat → Int32) (this_arg : Nat) (this_arg_f : Nat → Int32) (this_codes : Int32) (this_names : Nat) (this_readNames : Nat) (this_namesMany : Int32) (this_readMany : Int32) (this_once : Int32) (this_lines : Nat) (this_facts : Nat) (this_facts_f : Nat → Int32) (this_pile : Nat) (this_pile_f : Nat → Int32) (this_state : Nat) (this_state_f : Nat → Int32) (this_undos : Int32) (this_isMarked : Nat) (this_weight : Int32) (this_rounding : Int32) (this_lacks : Nat) (this_lacks_f : Nat → Int32) (this_alikes : Nat) (this_g : Int64) (q1 : Int32) (q2 : Int32) (R0 : Int32 × (Nat → Int32) × (Nat → Int32) × (Nat → Int32) × (Nat → Int32)) (hm : m_X12_isSeen this_towns_f this_op_f this_arg_f this_facts_f this_pile_f this_state_f this_weight this_rounding this_lacks_f q1 q2 = some R0) : CW l D (TY k) yX12_isSeen cX12_isSeen 6 (some .boolean) 6 139 [.ref this, .int q1, .int q2] (wd_X12_isSeen k this this_thrown this_tape this_taped this_size this_sort this_place this_value this_at this_fault this_words this_towns this_towns_f this_op this_op_f this_arg this_arg_f this_codes this_names this_readNames this_namesMany this_readMany this_once this_lines this_facts this_facts_f this_pile this_pile_f this_state this_state_f this_undos this_isMarked this_weight this_rounding this_lacks this_lacks_f this_alikes this_g) (some (.int R0.1)) (wd_X12_isSeen k this this_thrown this_tape this_taped this_size this_sort this_place this_value this_at this_fault this_words this_towns this_towns_f this_op this_op_f this_arg this_arg_f this_codes this_names this_readNames this_namesMany this_readMany this_once this_lines this_facts R0.2.1 this_pile R0.2.2.1 this_state R0.2.2.2.1 this_undos this_isMarked this_weight this_rounding this_lacks R0.2.2.2.2 this_alikes this_g) := by
  refine CW.mk (by decide) (Nat.le_of_ble_eq_true rfl) ?_
  intro p e s m args below meth c ls A ⟨hx, hb, hr, hts, hown, hlocks, hml⟩ hP hG hD hA hl hS hq
  have hl : lv_has ls 6 [(0, .ref this), (1, .int q1), (2, .int q2)] := hl
  have h_5 : ∀ (n : Nat), ∀ (x3 : Int32) (x4 : Int32) (u_this_facts_f : Nat → Int32) (u_this_pile_f : Nat → Int32) (u_this_state_f : Nat → Int32) (u_this_lacks_f : Nat → Int32) (H : Heap) (locs : List Loc) (ls : Array Slot), va_P D vwCl (wd_X12_isSeen k this this_thrown this_tape this_taped this_size this_sort this_place this_value this_at this_fault this_words this_towns this_towns_f this_op this_op_f this_arg this_arg_f this_codes this_names this_readNames this_namesMany this_readMany this_once this_lines this_facts u_this_facts_f this_pile u_this_pile_f this_state u_this_state_f this_undos this_isMarked this_weight this_rounding this_lacks u_this_lacks_f this_alikes this_g) H → va_D A (wd_X12_isSeen k this this_thrown this_tape this_taped this_size this_sort this_place this_value this_at this_fault this_words this_towns this_towns_f this_op this_op_f this_arg this_arg_f this_codes this_names this_readNames this_namesMany this_readMany this_once this_lines this_facts u_this_facts_f this_pile u_this_pile_f this_state u_this_state_f this_undos this_isMarked this_weight this_rounding this_lacks u_this_lacks_f this_alikes this_g) → va_S A s.heap H locs → lv_has ls 6 [(0, .ref this), (1, .int q1), (2, .int q2), (3, .int x3), (4, .int x4)] → m_X12_isSeen_5 this_towns_f this_op_f this_arg_f this_weight this_rounding q1 q2 n x3 x4 u_this_facts_f u_this_pile_f u_this_state_f u_this_lacks_f = some R0 → W p l e (Rm 6 139) s m args below meth c H locs 0 0 (MQ below (QW D (some (.int R0.1)) (wd_X12_isSeen k this this_thrown this_tape this_taped this_size this_sort this_place this_value this_at this_fault this_words this_towns this_towns_f this_op this_op_f this_arg this_arg_f this_codes this_names this_readNames this_namesMany this_readMany this_once this_lines this_facts this_facts_f this_pile this_pile_f this_state this_state_f this_undos this_isMarked this_weight this_rounding this_lacks this_lacks_f this_alikes this_g) (wd_X12_isSeen k this this_thrown this_tape this_taped this_size this_sort this_place this_value this_at this_fault this_words this_towns this_towns_f this_op this_op_f this_arg this_arg_f this_codes this_names this_readNames this_namesMany this_readMany this_once this_lines this_facts R0.2.1 this_pile R0.2.2.1 this_state R0.2.2.2.1 this_undos this_isMarked this_weight this_rounding this_lacks R0.2.2.2.2 this_alikes this_g) s.heap.size) args s 0 0 A) (F0 m 5 ls []) := by
    intro n
    induction n with
    | zero => intro x3 x4 u_this_facts_f u_this_pile_f u_this_state_f u_this_lacks_f H locs ls hP hD hS hl hm; cases hm
    | succ n ih =>
      intro x3 x4 u_this_facts_f u_this_pile_f u_this_state_f u_this_lacks_f H locs ls hP hD hS hl hm
      unfold m_X12_isSeen_5 at hm
      refine lv_iload (pc := 5) hx hb dX12_isSeen_5 (lv_at hl 4 rfl) ?_
      refine lv_aload_n (pc := 7) hx hb dX12_isSeen_7 rfl (lv_at hl 0 rfl) ?_
      refine va_get (pc := 8) (D := D) (ci := 10) (C := RX12) (T := TX12) (N := 30) hx hb hts hiX12 hown hG.1 hP 0 rfl rfl 22 (Nat.le_of_ble_eq_true rfl) (hts _ kw_1279) (fun _ h9 => h9) rfl dX12_isSeen_8 ?_
      refine lv_bipush (v := 13) (pc := 11) hx hb dX12_isSeen_11 (by decide) ?_
      refine va_iald (pc := 13) (D := D) hx hb hG.1 hP 6 0 rfl rfl (pn_in (Nat.le_of_ble_eq_true rfl) (Nat.le_of_ble_eq_true rfl)) dX12_isSeen_13 ?_
      refine lv_icmp_ge (tgt := 78) (pc := 14) hx hb dX12_isSeen_14 (by decide) (fun hc => ?_) (fun hc => ?_)
      · rw [if_pos hc] at hm
        refine lv_iload_n (pc := 78) hx hb dX12_isSeen_78 rfl (lv_at hl 3 rfl) ?_
        obtain ⟨hz, hm⟩ := gd hm
        rw [← Option.some.inj hm]
        exact W.zret hx hb hr (nar_bool hz) (fun t ht _ => hq _ _ H t ht hP hD locs hS) hS.2.2 dX12_isSeen_79 hlocks
      · rw [if_neg hc] at hm
        refine lv_iload_n (pc := 17) hx hb dX12_isSeen_17 rfl (lv_at hl 3 rfl) ?_
        refine lv_if_eq (tgt := 78) (pc := 18) hx hb dX12_isSeen_18 (by decide) (fun hc => ?_) (fun hc => ?_)
        · rw [if_pos hc] at hm
          refine lv_iload_n (pc := 78) hx hb dX12_isSeen_78 rfl (lv_at hl 3 rfl) ?_
          obtain ⟨hz, hm⟩ := gd hm
          rw [← Option.some.inj hm]
          exact W.zret hx hb hr (nar_bool hz) (fun t ht _ => hq _ _ H t ht hP hD locs hS) hS.2.2 dX12_isSeen_79 hlocks
        · rw [if_neg hc] at hm
          refine lv_bipush (v := 14) (pc := 21) hx hb dX12_isSeen_21 (by decide) ?_
          refine lv_iconst (v := 2) (pc := 23) hx hb dX12_isSeen_23 (by decide) ?_
          refine lv_iload (pc := 24) hx hb dX12_isSeen_24 (lv_at hl 4 rfl) ?_
          refine lv_imul (pc := 26) hx hb dX12_isSeen_26 ?_
          refine lv_iadd (pc := 27) hx hb dX12_isSeen_27 ?_
          refine lv_istore (lv' := [(5, .int (14 + (2 * x4))), (0, .ref this), (1, .int q1), (2, .int q2), (3, .int x3), (4, .int x4)]) (pc := 28) hx hb dX12_isSeen_28 hl (Nat.le_of_ble_eq_true rfl) rfl (fun ls hl => ?_)
          refine lv_aload_n (pc := 30) hx hb dX12_isSeen_30 rfl (lv_at hl 1 rfl) ?_
          obtain ⟨r4, hcl, hm⟩ := bd hm
          refine cw_mask (ws' := (wd_X12_isSeen k this this_thrown this_tape this_taped this_size this_sort this_place this_value this_at this_fault this_words this_towns this_towns_f this_op this_op_f this_arg this_arg_f this_codes this_names this_readNames this_namesMany this_readMany this_once this_lines this_facts u_this_facts_f this_pile u_this_pile_f this_state r4 this_undos this_isMarked this_weight this_rounding this_lacks u_this_lacks_f this_alikes this_g)) (run_V (pc := 31) (n := 0) (As := []) (rest := []) ⟨hx, hb, hml, hown, hts⟩ ((c_X12_triesNow l D k this this_thrown this_tape this_taped this_size this_sort this_place this_value this_at this_fault this_words this_towns this_op this_arg this_codes this_names this_readNames this_namesMany this_readMany this_once this_lines this_facts this_pile this_state u_this_state_f this_undos this_isMarked this_weight this_rounding this_lacks this_alikes this_g r4 hcl) H.size) ⟨kw_1564, kw_16, by decide +kernel⟩ kw_1561 kw_1563 ks_134 ⟨Nat.le_of_ble_eq_true rfl, Nat.le_of_ble_eq_true rfl⟩ pw_blind (prW (P_pick [true, false, false, false, false, false, true] rfl hP) hG (D_pick [true, false, false, false, false, false, true] rfl hD)) (va_recv hG.1 hP (ci := 10) (q0 := 0) rfl rfl) rfl hl.1 rfl (Nat.le_of_ble_eq_true rfl) dX12_isSeen_31 ⟨Nat.zero_le _, Nat.zero_le _⟩) hP hD hS hA [true, false, false, false, false, false, true] rfl rfl rfl (fun H locs hP hD hS => ?_)
          refine lv_aload_n (pc := 34) hx hb dX12_isSeen_34 rfl (lv_at hl 1 rfl) ?_
          refine lv_sipush (v := 1008) (pc := 35) hx hb dX12_isSeen_35 (by decide) ?_
          refine lv_iload_n (pc := 38) hx hb dX12_isSeen_38 rfl (lv_at hl 2 rfl) ?_
          refine lv_iload_n (pc := 39) hx hb dX12_isSeen_39 rfl (lv_at hl 3 rfl) ?_
          obtain ⟨r5, hcl, hm⟩ := bd hm
          refine cw_mask (ws' := (wd_X12_isSeen k this this_thrown this_tape this_taped this_size this_sort this_place this_value this_at this_fault this_words this_towns this_towns_f this_op this_op_f this_arg this_arg_f this_codes this_names this_readNames this_namesMany this_readMany this_once this_lines this_facts u_this_facts_f this_pile u_this_pile_f this_state r5 this_undos this_isMarked this_weight this_rounding this_lacks u_this_lacks_f this_alikes this_g)) (run_V (pc := 40) (n := 3) (As := [.int 1008, .int q1, .int q2]) (rest := []) ⟨hx, hb, hml, hown, hts⟩ ((c_X12_loses l D k this this_thrown this_tape this_taped this_size this_sort this_place this_value this_at this_fault this_words this_towns this_op this_arg this_codes this_names this_readNames this_namesMany this_readMany this_once this_lines this_facts this_pile this_state r4 this_undos this_isMarked this_weight this_rounding this_lacks this_alikes this_g 1008 q1 q2 r5 hcl) H.size) ⟨kw_1517, kw_16, by decide +kernel⟩ kw_1514 kw_1516 ks_130 ⟨Nat.le_of_ble_eq_true rfl, Nat.le_of_ble_eq_true rfl⟩ pw_blind (prW (P_pick [true, false, false, false, false, false, true] rfl hP) hG (D_pick [true, false, false, false, false, false, true] rfl hD)) (va_recv hG.1 hP (ci := 10) (q0 := 0) rfl rfl) rfl hl.1 rfl (Nat.le_of_ble_eq_true rfl) dX12_isSeen_40 ⟨Nat.zero_le _, Nat.zero_le _⟩) hP hD hS hA [true, false, false, false, false, false, true] rfl rfl rfl (fun H locs hP hD hS => ?_)
          refine lv_aload_n (pc := 43) hx hb dX12_isSeen_43 rfl (lv_at hl 1 rfl) ?_
          refine lv_aload_n (pc := 44) hx hb dX12_isSeen_44 rfl (lv_at hl 1 rfl) ?_
          refine va_get (pc := 45) (D := D) (ci := 10) (C := RX12) (T := TX12) (N := 30) hx hb hts hiX12 hown hG.1 hP 0 rfl rfl 22 (Nat.le_of_ble_eq_true rfl) (hts _ kw_1279) (fun _ h9 => h9) rfl dX12_isSeen_45 ?_
          refine lv_iload (pc := 48) hx hb dX12_isSeen_48 (lv_at hl 0 rfl) ?_
          obtain ⟨hin, hm⟩ := gd hm
          refine va_iald (pc := 50) (D := D) hx hb hG.1 hP 6 0 rfl rfl hin dX12_isSeen_50 ?_
          obtain ⟨r6, hcl, hm⟩ := bd hm
          refine cw_mask (ws' := (wd_X12_isSeen k this this_thrown this_tape this_taped this_size this_sort this_place this_value this_at this_fault this_words this_towns this_towns_f this_op this_op_f this_arg this_arg_f this_codes this_names this_readNames this_namesMany this_readMany this_once this_lines this_facts r6.2.1 this_pile r6.2.2.1 this_state r6.2.2.2.1 this_undos this_isMarked this_weight this_rounding this_lacks r6.2.2.2.2 this_alikes this_g)) (run_V (pc := 51) (n := 1) (As := [.int (r5 (14 + (2 * x4)).toNatClampNeg)]) (rest := []) ⟨hx, hb, hml, hown, hts⟩ ((c_X12_highBehind l D k this this_thrown this_tape this_taped this_size this_sort this_place this_value this_at this_fault this_words this_towns this_towns_f this_op this_op_f this_arg this_arg_f this_codes this_names this_readNames this_namesMany this_readMany this_once this_lines this_facts u_this_facts_f this_pile u_this_pile_f this_state r5 this_undos this_isMarked this_weight this_rounding this_lacks u_this_lacks_f this_alikes this_g (r5 (14 + (2 * x4)).toNatClampNeg) r6 hcl) H.size) ⟨kw_1568, kw_16, by decide +kernel⟩ kw_1565 kw_1567 ks_135 ⟨Nat.le_of_ble_eq_true rfl, Nat.le_of_ble_eq_true rfl⟩ pw_blind (prW (P_pick [true, true, true, true, true, true, true, true] rfl hP) hG (D_pick [true, true, true, true, true, true, true, true] rfl hD)) (va_recv hG.1 hP (ci := 10) (q0 := 0) rfl rfl) rfl hl.1 rfl (Nat.le_of_ble_eq_true rfl) dX12_isSeen_51 ⟨Nat.zero_le _, Nat.zero_le _⟩) hP hD hS hA [true, true, true, true, true, true, true, true] rfl rfl rfl (fun H locs hP hD hS => ?_)
          refine lv_aload_n (pc := 54) hx hb dX12_isSeen_54 rfl (lv_at hl 1 rfl) ?_
          refine va_get (pc := 55) (D := D) (ci := 10) (C := RX12) (T := TX12) (N := 30) hx hb hts hiX12 hown hG.1 hP 0 rfl rfl 22 (Nat.le_of_ble_eq_true rfl) (hts _ kw_1279) (fun _ h9 => h9) rfl dX12_isSeen_55 ?_
          refine lv_iload (pc := 58) hx hb dX12_isSeen_58 (lv_at hl 0 rfl) ?_
          refine lv_iconst (v := 1) (pc := 60) hx hb dX12_isSeen_60 (by decide) ?_
          refine lv_iadd (pc := 61) hx hb dX12_isSeen_61 ?_
          obtain ⟨hin, hm⟩ := gd hm
          refine va_iald (pc := 62) (D := D) hx hb hG.1 hP 6 0 rfl rfl hin dX12_isSeen_62 ?_
          refine lv_icmp_ne (tgt := 70) (pc := 63) hx hb dX12_isSeen_63 (by decide) (fun hc => ?_) (fun hc => ?_)
          · rw [if_neg hc] at hm
            refine lv_iconst (v := 0) (pc := 70) hx hb dX12_isSeen_70 (by decide) ?_
            refine lv_istore_n (lv' := [(3, .int 0), (5, .int (14 + (2 * x4))), (0, .ref this), (1, .int q1), (2, .int q2), (4, .int x4)]) (pc := 71) hx hb dX12_isSeen_71 rfl hl (Nat.le_of_ble_eq_true rfl) rfl (fun ls hl => ?_)
            refine lv_iinc (k := 5) (v := x4 + 1) (lv' := [(4, .int (x4 + 1)), (3, .int 0), (5, .int (14 + (2 * x4))), (0, .ref this), (1, .int q1), (2, .int q2)]) (pc := 72) hx hb dX12_isSeen_72 hl rfl rfl (Nat.le_of_ble_eq_true rfl) rfl (fun ls hl => ?_)
            refine lv_goto (tgt := 5) (pc := 75) hx hb dX12_isSeen_75 (by decide) ?_
            exact ih 0 (x4 + 1) r6.2.1 r6.2.2.1 r6.2.2.2.1 r6.2.2.2.2 H locs ls hP hD hS (lv_sub hl [3, 4, 5, 1, 0] rfl) hm
          · rw [if_pos hc] at hm
            refine lv_iconst (v := 1) (pc := 66) hx hb dX12_isSeen_66 (by decide) ?_
            refine lv_goto (tgt := 71) (pc := 67) hx hb dX12_isSeen_67 (by decide) ?_
            refine lv_istore_n (lv' := [(3, .int 1), (5, .int (14 + (2 * x4))), (0, .ref this), (1, .int q1), (2, .int q2), (4, .int x4)]) (pc := 71) hx hb dX12_isSeen_71 rfl hl (Nat.le_of_ble_eq_true rfl) rfl (fun ls hl => ?_)
            refine lv_iinc (k := 5) (v := x4 + 1) (lv' := [(4, .int (x4 + 1)), (3, .int 1), (5, .int (14 + (2 * x4))), (0, .ref this), (1, .int q1), (2, .int q2)]) (pc := 72) hx hb dX12_isSeen_72 hl rfl rfl (Nat.le_of_ble_eq_true rfl) rfl (fun ls hl => ?_)
            refine lv_goto (tgt := 5) (pc := 75) hx hb dX12_isSeen_75 (by decide) ?_
            exact ih 1 (x4 + 1) r6.2.1 r6.2.2.1 r6.2.2.2.1 r6.2.2.2.2 H locs ls hP hD hS (lv_sub hl [3, 4, 5, 1, 0] rfl) hm
  unfold m_X12_isSeen at hm
  suffices hgo : ∀ (H : Heap) (locs : List Loc), va_P D vwCl (wd_X12_isSeen k this this_thrown this_tape this_taped this_size this_sort this_place this_value this_at this_fault this_words this_towns this_towns_f this_op this_op_f this_arg this_arg_f this_codes this_names this_readNames this_namesMany this_readMany this_once this_lines this_facts this_facts_f this_pile this_pile_f this_state this_state_f this_undos this_isMarked this_weight this_rounding this_lacks this_lacks_f this_alikes this_g) H → va_D A (wd_X12_isSeen k this this_thrown this_tape this_taped this_size this_sort this_place this_value this_at this_fault this_words this_towns this_towns_f this_op this_op_f this_arg this_arg_f this_codes this_names this_readNames this_namesMany this_readMany this_once this_lines this_facts this_facts_f this_pile this_pile_f this_state this_state_f this_undos this_isMarked this_weight this_rounding this_lacks this_lacks_f this_alikes this_g) → va_S A s.heap H locs → W p l e (Rm 6 139) s m args below meth c H locs 0 0 (MQ below (QW D (some (.int R0.1)) (wd_X12_isSeen k this this_thrown this_tape this_taped this_size this_sort this_place this_value this_at this_fault this_words this_towns this_towns_f this_op this_op_f this_arg this_arg_f this_codes this_names this_readNames this_namesMany this_readMany this_once this_lines this_facts this_facts_f this_pile this_pile_f this_state this_state_f this_undos this_isMarked this_weight this_rounding this_lacks this_lacks_f this_alikes this_g) (wd_X12_isSeen k this this_thrown this_tape this_taped this_size this_sort this_place this_value this_at this_fault this_words this_towns this_towns_f this_op this_op_f this_arg this_arg_f this_codes this_names this_readNames this_namesMany this_readMany this_once this_lines this_facts R0.2.1 this_pile R0.2.2.1 this_state R0.2.2.2.1 this_undos this_isMarked this_weight this_rounding this_lacks R0.2.2.2.2 this_alikes this_g) s.heap.size) args s 0 0 A) (F0 m 0 ls []) from hgo _ _ hP hD hS
  clear hP hD hS
  intro H locs hP hD hS
  refine lv_iconst (v := 1) (pc := 0) hx hb dX12_isSeen_0 (by decide) ?_
  refine lv_istore_n (lv' := [(3, .int 1), (0, .ref this), (1, .int q1), (2, .int q2)]) (pc := 1) hx hb dX12_isSeen_1 rfl hl (Nat.le_of_ble_eq_true rfl) rfl (fun ls hl => ?_)
  refine lv_iconst (v := 0) (pc := 2) hx hb dX12_isSeen_2 (by decide) ?_
  refine lv_istore (lv' := [(4, .int 0), (3, .int 1), (0, .ref this), (1, .int q1), (2, .int q2)]) (pc := 3) hx hb dX12_isSeen_3 hl (Nat.le_of_ble_eq_true rfl) rfl (fun ls hl => ?_)
  exact h_5 FU 1 0 this_facts_f this_pile_f this_state_f this_lacks_f H locs ls hP hD hS (lv_sub hl [2, 3, 4, 1, 0] rfl) hm
theorem dX12_ways_0 : decode cX12_ways 0 = .ok (.aload_n 0, 1) := by decide +kernel
theorem dX12_ways_1 : decode cX12_ways 1 = .ok (.iconst 0, 1) := by decide +kernel
theorem dX12_ways_2 : decode cX12_ways 2 = .ok (.putfield 1, 3) := by decide +kernel
theorem dX12_ways_5 : decode cX12_ways 5 = .ok (.iload_n 1, 1) := by decide +kernel
theorem dX12_ways_6 : decode cX12_ways 6 = .ok (.iconst 0, 1) := by decide +kernel
theorem dX12_ways_7 : decode cX12_ways 7 = .ok (.iconst 3, 1) := by decide +kernel
theorem dX12_ways_8 : decode cX12_ways 8 = .ok (.invokestatic 306, 3) := by decide +kernel
theorem dX12_ways_11 : decode cX12_ways 11 = .ok (.ifCond .ne 5, 3) := by decide +kernel
theorem dX12_ways_14 : decode cX12_ways 14 = .ok (.iconst (-1), 1) := by decide +kernel
theorem dX12_ways_15 : decode cX12_ways 15 = .ok (.ireturn, 1) := by decide +kernel
theorem dX12_ways_16 : decode cX12_ways 16 = .ok (.iconst 0, 1) := by decide +kernel
theorem dX12_ways_17 : decode cX12_ways 17 = .ok (.istore_n 2, 1) := by decide +kernel
theorem dX12_ways_18 : decode cX12_ways 18 = .ok (.iconst 0, 1) := by decide +kernel
theorem dX12_ways_19 : decode cX12_ways 19 = .ok (.istore_n 3, 1) := by decide +kernel
theorem dX12_ways_20 : decode cX12_ways 20 = .ok (.iconst (-1), 1) := by decide +kernel
theorem dX12_ways_21 : decode cX12_ways 21 = .ok (.istore 4, 2) := by decide +kernel
theorem dX12_ways_23 : decode cX12_ways 23 = .ok (.iconst (-1), 1) := by decide +kernel
theorem dX12_ways_24 : decode cX12_ways 24 = .ok (.istore 5, 2) := by decide +kernel
theorem dX12_ways_26 : decode cX12_ways 26 = .ok (.iconst 1, 1) := by decide +kernel
theorem dX12_ways_27 : decode cX12_ways 27 = .ok (.istore 6, 2) := by decide +kernel
theorem dX12_ways_29 : decode cX12_ways 29 = .ok (.iload 6, 2) := by decide +kernel
theorem dX12_ways_31 : decode cX12_ways 31 = .ok (.bipush 20, 2) := by decide +kernel
theorem dX12_ways_33 : decode cX12_ways 33 = .ok (.if_icmp .gt 66, 3) := by decide +kernel
theorem dX12_ways_36 : decode cX12_ways 36 = .ok (.iconst 0, 1) := by decide +kernel
theorem dX12_ways_37 : decode cX12_ways 37 = .ok (.istore 7, 2) := by decide +kernel
theorem dX12_ways_39 : decode cX12_ways 39 = .ok (.iload 7, 2) := by decide +kernel
theorem dX12_ways_41 : decode cX12_ways 41 = .ok (.aload_n 0, 1) := by decide +kernel
theorem dX12_ways_42 : decode cX12_ways 42 = .ok (.invokevirtual 255, 3) := by decide +kernel
theorem dX12_ways_45 : decode cX12_ways 45 = .ok (.if_icmp .ge 48, 3) := by decide +kernel
theorem dX12_ways_48 : decode cX12_ways 48 = .ok (.aload_n 0, 1) := by decide +kernel
theorem dX12_ways_49 : decode cX12_ways 49 = .ok (.iload 7, 2) := by decide +kernel
theorem dX12_ways_51 : decode cX12_ways 51 = .ok (.iload 6, 2) := by decide +kernel
theorem dX12_ways_53 : decode cX12_ways 53 = .ok (.invokevirtual 337, 3) := by decide +kernel
theorem dX12_ways_56 : decode cX12_ways 56 = .ok (.ifCond .eq 31, 3) := by decide +kernel
theorem dX12_ways_59 : decode cX12_ways 59 = .ok (.iinc 2 1, 3) := by decide +kernel
theorem dX12_ways_62 : decode cX12_ways 62 = .ok (.iload_n 3, 1) := by decide +kernel
theorem dX12_ways_63 : decode cX12_ways 63 = .ok (.iconst 1, 1) := by decide +kernel
theorem dX12_ways_64 : decode cX12_ways 64 = .ok (.iload 7, 2) := by decide +kernel
theorem dX12_ways_66 : decode cX12_ways 66 = .ok (.ishl, 1) := by decide +kernel
theorem dX12_ways_67 : decode cX12_ways 67 = .ok (.ior, 1) := by decide +kernel
theorem dX12_ways_68 : decode cX12_ways 68 = .ok (.istore_n 3, 1) := by decide +kernel
theorem dX12_ways_69 : decode cX12_ways 69 = .ok (.iload 4, 2) := by decide +kernel
theorem dX12_ways_71 : decode cX12_ways 71 = .ok (.ifCond .ge 8, 3) := by decide +kernel
theorem dX12_ways_74 : decode cX12_ways 74 = .ok (.iload 6, 2) := by decide +kernel
theorem dX12_ways_76 : decode cX12_ways 76 = .ok (.goto 5, 3) := by decide +kernel
theorem dX12_ways_79 : decode cX12_ways 79 = .ok (.iload 4, 2) := by decide +kernel
theorem dX12_ways_81 : decode cX12_ways 81 = .ok (.istore 4, 2) := by decide +kernel
theorem dX12_ways_83 : decode cX12_ways 83 = .ok (.iload 6, 2) := by decide +kernel
theorem dX12_ways_85 : decode cX12_ways 85 = .ok (.istore 5, 2) := by decide +kernel
theorem dX12_ways_87 : decode cX12_ways 87 = .ok (.iinc 7 1, 3) := by decide +kernel
theorem dX12_ways_90 : decode cX12_ways 90 = .ok (.goto (-51), 3) := by decide +kernel
theorem dX12_ways_93 : decode cX12_ways 93 = .ok (.iinc 6 1, 3) := by decide +kernel
theorem dX12_ways_96 : decode cX12_ways 96 = .ok (.goto (-67), 3) := by decide +kernel
theorem dX12_ways_99 : decode cX12_ways 99 = .ok (.iload_n 1, 1) := by decide +kernel
theorem dX12_ways_100 : decode cX12_ways 100 = .ok (.ifCond .ne 7, 3) := by decide +kernel
theorem dX12_ways_103 : decode cX12_ways 103 = .ok (.iload_n 2, 1) := by decide +kernel
theorem dX12_ways_104 : decode cX12_ways 104 = .ok (.goto 24, 3) := by decide +kernel
theorem dX12_ways_107 : decode cX12_ways 107 = .ok (.iload_n 1, 1) := by decide +kernel
theorem dX12_ways_108 : decode cX12_ways 108 = .ok (.iconst 1, 1) := by decide +kernel
theorem dX12_ways_109 : decode cX12_ways 109 = .ok (.if_icmp .ne 7, 3) := by decide +kernel
theorem dX12_ways_112 : decode cX12_ways 112 = .ok (.iload_n 3, 1) := by decide +kernel
theorem dX12_ways_113 : decode cX12_ways 113 = .ok (.goto 15, 3) := by decide +kernel
theorem dX12_ways_116 : decode cX12_ways 116 = .ok (.iload_n 1, 1) := by decide +kernel
theorem dX12_ways_117 : decode cX12_ways 117 = .ok (.iconst 2, 1) := by decide +kernel
theorem dX12_ways_118 : decode cX12_ways 118 = .ok (.if_icmp .ne 8, 3) := by decide +kernel
theorem dX12_ways_121 : decode cX12_ways 121 = .ok (.iload 4, 2) := by decide +kernel
theorem dX12_ways_123 : decode cX12_ways 123 = .ok (.goto 5, 3) := by decide +kernel
theorem dX12_ways_126 : decode cX12_ways 126 = .ok (.iload 5, 2) := by decide +kernel
theorem dX12_ways_128 : decode cX12_ways 128 = .ok (.ireturn, 1) := by decide +kernel
abbrev wd_X12_ways (k : Nat → ClassId) (this : Nat) (this_thrown : Int32) (this_tape : Nat) (this_taped : Int32) (this_size : Int32) (this_sort : Nat) (this_place : Nat) (this_value : Nat) (this_at : Int32) (this_fault : Int32) (this_words : Nat) (this_towns : Nat) (this_towns_f : Nat → Int32) (this_op : Nat) (this_op_f : Nat → Int32) (this_arg : Nat) (this_arg_f : Nat → Int32) (this_codes : Int32) (this_names : Nat) (this_readNames : Nat) (this_namesMany : Int32) (this_readMany : Int32) (this_once : Int32) (this_lines : Nat) (this_facts : Nat) (this_facts_f : Nat → Int32) (this_pile : Nat) (this_pile_f : Nat → Int32) (this_state : Nat) (this_state_f : Nat → Int32) (this_undos : Int32) (this_isMarked : Nat) (this_weight : Int32) (this_rounding : Int32) (this_lacks : Nat) (this_lacks_f : Nat → Int32) (this_alikes : Nat) (this_g : Int64) : va_W := [(this, .inr (10, [.int this_thrown, .ref this_tape, .int this_taped, .int this_size, .ref this_sort, .ref this_place, .ref this_value, .int this_at, .int this_fault, .ref this_words, .ref this_towns, .ref this_op, .ref this_arg, .int this_codes, .ref this_names, .ref this_readNames, .int this_namesMany, .int this_readMany, .int this_once, .ref this_lines, .ref this_facts, .ref this_pile, .ref this_state, .int this_undos, .ref this_isMarked, .int this_weight, .int this_rounding, .ref this_lacks, .ref this_alikes, .long this_g])), (this_towns, .inl (k 0, 60, .inl this_towns_f)), (this_op, .inl (k 0, 2200, .inl this_op_f)), (this_arg, .inl (k 0, 2200, .inl this_arg_f)), (this_facts, .inl (k 0, 4, .inl this_facts_f)), (this_pile, .inl (k 0, 1100, .inl this_pile_f)), (this_state, .inl (k 0, 1104, .inl this_state_f)), (this_lacks, .inl (k 0, 6, .inl this_lacks_f))]
set_option maxHeartbeats 4000000 in
set_option maxRecDepth 100000 in
theorem c_X12_ways (l : Launch) (D : va_G) (k : Nat → ClassId) (this : Nat) (this_thrown : Int32) (this_tape : Nat) (this_taped : Int32) (this_size : Int32) (this_sort : Nat) (this_place : Nat) (this_value : Nat) (this_at : Int32) (this_fault : Int32) (this_words : Nat) (this_towns : Nat) (this_towns_f : Nat → Int32) (this_op : Nat) (this_op_f : Nat → Int32) (this_arg : Nat) (this_arg_f : Nat → Int32) (this_codes : Int32) (this_names : Nat) (this_readNames : Nat) (this_namesMany : Int32) (this_readMany : Int32) (this_once : Int32) (this_lines : Nat) (this_facts : Nat) (this_facts_f : Nat → Int32) (this_pile : Nat) (this_pile_f : Nat → Int32) (this_state : Nat) (this_state_f : Nat → Int32) (this_undos : Int32) (this_isMarked : Nat) (this_weight : Int32) (this_rounding : Int32) (this_lacks : Nat) (this_lacks_f : Nat → Int32) (this_alikes : Nat) (this_g : Int64) (q1 : Int32) (R0 : Int32 × Int32 × (Nat → Int32) × (Nat → Int32) × (Nat → Int32) × (Nat → Int32)) (hm : m_X12_ways this_towns_f this_op_f this_arg_f this_facts_f this_pile_f this_state_f this_weight this_rounding this_lacks_f q1 = some R0) : CW l D (TY k) yX12_ways cX12_ways 8 (some .int) 7 164 [.ref this, .int q1] (wd_X12_ways k this this_thrown this_tape this_taped this_size this_sort this_place this_value this_at this_fault this_words this_towns this_towns_f this_op this_op_f this_arg this_arg_f this_codes this_names this_readNames this_namesMany this_readMany this_once this_lines this_facts this_facts_f this_pile this_pile_f this_state this_state_f this_undos this_isMarked this_weight this_rounding this_lacks this_lacks_f this_alikes this_g) (some (.int R0.1)) (wd_X12_ways k this R0.2.1 this_tape this_taped this_size this_sort this_place this_value this_at this_fault this_words this_towns this_towns_f this_op this_op_f this_arg this_arg_f this_codes this_names this_readNames this_namesMany this_readMany this_once this_lines this_facts R0.2.2.1 this_pile R0.2.2.2.1 this_state R0.2.2.2.2.1 this_undos this_isMarked this_weight this_rounding this_lacks R0.2.2.2.2.2 this_alikes this_g) := by
  refine CW.mk (by decide) (Nat.le_of_ble_eq_true rfl) ?_
  intro p e s m args below meth c ls A ⟨hx, hb, hr, hts, hown, hlocks, hml⟩ hP hG hD hA hl hS hq
  have hl : lv_has ls 8 [(0, .ref this), (1, .int q1)] := hl
  have h_39 : ∀ (K29 : Int32 → Int32 → Int32 → Int32 → Int32 → Int32 → (Nat → Int32) → (Nat → Int32) → (Nat → Int32) → (Nat → Int32) → Option (Int32 × Int32 × (Nat → Int32) × (Nat → Int32) × (Nat → Int32) × (Nat → Int32))) (hK29 : ∀ (x2 : Int32) (x3 : Int32) (x4 : Int32) (x5 : Int32) (x6 : Int32) (u_this_thrown : Int32) (u_this_facts_f : Nat → Int32) (u_this_pile_f : Nat → Int32) (u_this_state_f : Nat → Int32) (u_this_lacks_f : Nat → Int32) (H : Heap) (locs : List Loc) (ls : Array Slot), va_P D vwCl (wd_X12_ways k this u_this_thrown this_tape this_taped this_size this_sort this_place this_value this_at this_fault this_words this_towns this_towns_f this_op this_op_f this_arg this_arg_f this_codes this_names this_readNames this_namesMany this_readMany this_once this_lines this_facts u_this_facts_f this_pile u_this_pile_f this_state u_this_state_f this_undos this_isMarked this_weight this_rounding this_lacks u_this_lacks_f this_alikes this_g) H → va_D A (wd_X12_ways k this u_this_thrown this_tape this_taped this_size this_sort this_place this_value this_at this_fault this_words this_towns this_towns_f this_op this_op_f this_arg this_arg_f this_codes this_names this_readNames this_namesMany this_readMany this_once this_lines this_facts u_this_facts_f this_pile u_this_pile_f this_state u_this_state_f this_undos this_isMarked this_weight this_rounding this_lacks u_this_lacks_f this_alikes this_g) → va_S A s.heap H locs → lv_has ls 8 [(0, .ref this), (1, .int q1), (2, .int x2), (3, .int x3), (4, .int x4), (5, .int x5), (6, .int x6)] → K29 x2 x3 x4 x5 x6 u_this_thrown u_this_facts_f u_this_pile_f u_this_state_f u_this_lacks_f = some R0 → W p l e (Rm 7 164) s m args below meth c H locs 0 0 (MQ below (QW D (some (.int R0.1)) (wd_X12_ways k this this_thrown this_tape this_taped this_size this_sort this_place this_value this_at this_fault this_words this_towns this_towns_f this_op this_op_f this_arg this_arg_f this_codes this_names this_readNames this_namesMany this_readMany this_once this_lines this_facts this_facts_f this_pile this_pile_f this_state this_state_f this_undos this_isMarked this_weight this_rounding this_lacks this_lacks_f this_alikes this_g) (wd_X12_ways k this R0.2.1 this_tape this_taped this_size this_sort this_place this_value this_at this_fault this_words this_towns this_towns_f this_op this_op_f this_arg this_arg_f this_codes this_names this_readNames this_namesMany this_readMany this_once this_lines this_facts R0.2.2.1 this_pile R0.2.2.2.1 this_state R0.2.2.2.2.1 this_undos this_isMarked this_weight this_rounding this_lacks R0.2.2.2.2.2 this_alikes this_g) s.heap.size) args s 0 0 A) (F0 m 29 ls [])), ∀ (n : Nat), ∀ (x2 : Int32) (x3 : Int32) (x4 : Int32) (x5 : Int32) (x6 : Int32) (x7 : Int32) (u_this_thrown : Int32) (u_this_facts_f : Nat → Int32) (u_this_pile_f : Nat → Int32) (u_this_state_f : Nat → Int32) (u_this_lacks_f : Nat → Int32) (H : Heap) (locs : List Loc) (ls : Array Slot), va_P D vwCl (wd_X12_ways k this u_this_thrown this_tape this_taped this_size this_sort this_place this_value this_at this_fault this_words this_towns this_towns_f this_op this_op_f this_arg this_arg_f this_codes this_names this_readNames this_namesMany this_readMany this_once this_lines this_facts u_this_facts_f this_pile u_this_pile_f this_state u_this_state_f this_undos this_isMarked this_weight this_rounding this_lacks u_this_lacks_f this_alikes this_g) H → va_D A (wd_X12_ways k this u_this_thrown this_tape this_taped this_size this_sort this_place this_value this_at this_fault this_words this_towns this_towns_f this_op this_op_f this_arg this_arg_f this_codes this_names this_readNames this_namesMany this_readMany this_once this_lines this_facts u_this_facts_f this_pile u_this_pile_f this_state u_this_state_f this_undos this_isMarked this_weight this_rounding this_lacks u_this_lacks_f this_alikes this_g) → va_S A s.heap H locs → lv_has ls 8 [(0, .ref this), (1, .int q1), (2, .int x2), (3, .int x3), (4, .int x4), (5, .int x5), (6, .int x6), (7, .int x7)] → m_X12_ways_39 this_towns_f this_op_f this_arg_f this_weight this_rounding q1 K29 n x2 x3 x4 x5 x6 x7 u_this_thrown u_this_facts_f u_this_pile_f u_this_state_f u_this_lacks_f = some R0 → W p l e (Rm 7 164) s m args below meth c H locs 0 0 (MQ below (QW D (some (.int R0.1)) (wd_X12_ways k this this_thrown this_tape this_taped this_size this_sort this_place this_value this_at this_fault this_words this_towns this_towns_f this_op this_op_f this_arg this_arg_f this_codes this_names this_readNames this_namesMany this_readMany this_once this_lines this_facts this_facts_f this_pile this_pile_f this_state this_state_f this_undos this_isMarked this_weight this_rounding this_lacks this_lacks_f this_alikes this_g) (wd_X12_ways k this R0.2.1 this_tape this_taped this_size this_sort this_place this_value this_at this_fault this_words this_towns this_towns_f this_op this_op_f this_arg this_arg_f this_codes this_names this_readNames this_namesMany this_readMany this_once this_lines this_facts R0.2.2.1 this_pile R0.2.2.2.1 this_state R0.2.2.2.2.1 this_undos this_isMarked this_weight this_rounding this_lacks R0.2.2.2.2.2 this_alikes this_g) s.heap.size) args s 0 0 A) (F0 m 39 ls []) := by
    intro K29 hK29
    intro n
    induction n with
    | zero => intro x2 x3 x4 x5 x6 x7 u_this_thrown u_this_facts_f u_this_pile_f u_this_state_f u_this_lacks_f H locs ls hP hD hS hl hm; cases hm
    | succ n ih =>
      intro x2 x3 x4 x5 x6 x7 u_this_thrown u_this_facts_f u_this_pile_f u_this_state_f u_this_lacks_f H locs ls hP hD hS hl hm
      unfold m_X12_ways_39 at hm
      refine lv_iload (pc := 39) hx hb dX12_ways_39 (lv_at hl 7 rfl) ?_
      refine lv_aload_n (pc := 41) hx hb dX12_ways_41 rfl (lv_at hl 0 rfl) ?_
      obtain ⟨r4, hcl, hm⟩ := bd hm
      refine cr_back (run_V (pc := 42) (n := 0) (As := []) (rest := [.int x7]) ⟨hx, hb, hml, hown, hts⟩ (c_X12_persons l D k this u_this_thrown this_tape this_taped this_size this_sort this_place this_value this_at this_fault this_words this_towns this_towns_f this_op this_arg this_codes this_names this_readNames this_namesMany this_readMany this_once this_lines this_facts this_pile this_state this_undos this_isMarked this_weight this_rounding this_lacks this_alikes this_g r4 hcl) ⟨kw_1252, kw_16, by decide +kernel⟩ kw_1249 kw_1251 ks_97 ⟨Nat.le_of_ble_eq_true rfl, Nat.le_of_ble_eq_true rfl⟩ pr_blind (prR (hP.sub [0, 1] rfl) hG) (va_recv hG.1 hP (ci := 10) (q0 := 0) rfl rfl) rfl hl.1 rfl (Nat.le_of_ble_eq_true rfl) dX12_ways_42 ⟨Nat.zero_le _, Nat.zero_le _⟩) ?_
      refine lv_icmp_ge (tgt := 93) (pc := 45) hx hb dX12_ways_45 (by decide) (fun hc => ?_) (fun hc => ?_)
      · rw [if_pos hc] at hm
        refine lv_iinc (k := 6) (v := x6 + 1) (lv' := [(6, .int (x6 + 1)), (0, .ref this), (1, .int q1), (2, .int x2), (3, .int x3), (4, .int x4), (5, .int x5), (7, .int x7)]) (pc := 93) hx hb dX12_ways_93 hl rfl rfl (Nat.le_of_ble_eq_true rfl) rfl (fun ls hl => ?_)
        refine lv_goto (tgt := 29) (pc := 96) hx hb dX12_ways_96 (by decide) ?_
        exact hK29 x2 x3 x4 x5 (x6 + 1) u_this_thrown u_this_facts_f u_this_pile_f u_this_state_f u_this_lacks_f H locs ls hP hD hS (lv_sub hl [1, 2, 3, 4, 5, 6, 0] rfl) hm
      · rw [if_neg hc] at hm
        refine lv_aload_n (pc := 48) hx hb dX12_ways_48 rfl (lv_at hl 0 rfl) ?_
        refine lv_iload (pc := 49) hx hb dX12_ways_49 (lv_at hl 7 rfl) ?_
        refine lv_iload (pc := 51) hx hb dX12_ways_51 (lv_at hl 6 rfl) ?_
        obtain ⟨r5, hcl, hm⟩ := bd hm
        refine cw_mask (ws' := (wd_X12_ways k this u_this_thrown this_tape this_taped this_size this_sort this_place this_value this_at this_fault this_words this_towns this_towns_f this_op this_op_f this_arg this_arg_f this_codes this_names this_readNames this_namesMany this_readMany this_once this_lines this_facts r5.2.1 this_pile r5.2.2.1 this_state r5.2.2.2.1 this_undos this_isMarked this_weight this_rounding this_lacks r5.2.2.2.2 this_alikes this_g)) (run_V (pc := 53) (n := 2) (As := [.int x7, .int x6]) (rest := []) ⟨hx, hb, hml, hown, hts⟩ ((c_X12_isSeen l D k this u_this_thrown this_tape this_taped this_size this_sort this_place this_value this_at this_fault this_words this_towns this_towns_f this_op this_op_f this_arg this_arg_f this_codes this_names this_readNames this_namesMany this_readMany this_once this_lines this_facts u_this_facts_f this_pile u_this_pile_f this_state u_this_state_f this_undos this_isMarked this_weight this_rounding this_lacks u_this_lacks_f this_alikes this_g x7 x6 r5 hcl) H.size) ⟨kw_1655, kw_16, by decide +kernel⟩ kw_1652 kw_1654 ks_139 ⟨Nat.le_of_ble_eq_true rfl, Nat.le_of_ble_eq_true rfl⟩ pw_blind (prW (P_pick [true, true, true, true, true, true, true, true] rfl hP) hG (D_pick [true, true, true, true, true, true, true, true] rfl hD)) (va_recv hG.1 hP (ci := 10) (q0 := 0) rfl rfl) rfl hl.1 rfl (Nat.le_of_ble_eq_true rfl) dX12_ways_53 ⟨Nat.zero_le _, Nat.zero_le _⟩) hP hD hS hA [true, true, true, true, true, true, true, true] rfl rfl rfl (fun H locs hP hD hS => ?_)
        refine lv_if_eq (tgt := 87) (pc := 56) hx hb dX12_ways_56 (by decide) (fun hc => ?_) (fun hc => ?_)
        · rw [if_pos hc] at hm
          refine lv_iinc (k := 7) (v := x7 + 1) (lv' := [(7, .int (x7 + 1)), (0, .ref this), (1, .int q1), (2, .int x2), (3, .int x3), (4, .int x4), (5, .int x5), (6, .int x6)]) (pc := 87) hx hb dX12_ways_87 hl rfl rfl (Nat.le_of_ble_eq_true rfl) rfl (fun ls hl => ?_)
          refine lv_goto (tgt := 39) (pc := 90) hx hb dX12_ways_90 (by decide) ?_
          exact ih x2 x3 x4 x5 x6 (x7 + 1) u_this_thrown r5.2.1 r5.2.2.1 r5.2.2.2.1 r5.2.2.2.2 H locs ls hP hD hS (lv_sub hl [1, 2, 3, 4, 5, 6, 7, 0] rfl) hm
        · rw [if_neg hc] at hm
          refine lv_iinc (k := 2) (v := x2 + 1) (lv' := [(2, .int (x2 + 1)), (0, .ref this), (1, .int q1), (3, .int x3), (4, .int x4), (5, .int x5), (6, .int x6), (7, .int x7)]) (pc := 59) hx hb dX12_ways_59 hl rfl rfl (Nat.le_of_ble_eq_true rfl) rfl (fun ls hl => ?_)
          refine lv_iload_n (pc := 62) hx hb dX12_ways_62 rfl (lv_at hl 3 rfl) ?_
          refine lv_iconst (v := 1) (pc := 63) hx hb dX12_ways_63 (by decide) ?_
          refine lv_iload (pc := 64) hx hb dX12_ways_64 (lv_at hl 7 rfl) ?_
          refine lv_ishl (pc := 66) hx hb dX12_ways_66 ?_
          refine lv_ior (pc := 67) hx hb dX12_ways_67 ?_
          refine lv_istore_n (lv' := [(3, .int (x3 ||| (1 <<< (x7 &&& 31)))), (2, .int (x2 + 1)), (0, .ref this), (1, .int q1), (4, .int x4), (5, .int x5), (6, .int x6), (7, .int x7)]) (pc := 68) hx hb dX12_ways_68 rfl hl (Nat.le_of_ble_eq_true rfl) rfl (fun ls hl => ?_)
          refine lv_iload (pc := 69) hx hb dX12_ways_69 (lv_at hl 4 rfl) ?_
          refine lv_if_ge (tgt := 79) (pc := 71) hx hb dX12_ways_71 (by decide) (fun hc => ?_) (fun hc => ?_)
          · rw [if_pos hc] at hm
            refine lv_iload (pc := 79) hx hb dX12_ways_79 (lv_at hl 4 rfl) ?_
            refine lv_istore (lv' := [(4, .int x4), (3, .int (x3 ||| (1 <<< (x7 &&& 31)))), (2, .int (x2 + 1)), (0, .ref this), (1, .int q1), (5, .int x5), (6, .int x6), (7, .int x7)]) (pc := 81) hx hb dX12_ways_81 hl (Nat.le_of_ble_eq_true rfl) rfl (fun ls hl => ?_)
            refine lv_iload (pc := 83) hx hb dX12_ways_83 (lv_at hl 6 rfl) ?_
            refine lv_istore (lv' := [(5, .int x6), (4, .int x4), (3, .int (x3 ||| (1 <<< (x7 &&& 31)))), (2, .int (x2 + 1)), (0, .ref this), (1, .int q1), (6, .int x6), (7, .int x7)]) (pc := 85) hx hb dX12_ways_85 hl (Nat.le_of_ble_eq_true rfl) rfl (fun ls hl => ?_)
            refine lv_iinc (k := 7) (v := x7 + 1) (lv' := [(7, .int (x7 + 1)), (5, .int x6), (4, .int x4), (3, .int (x3 ||| (1 <<< (x7 &&& 31)))), (2, .int (x2 + 1)), (0, .ref this), (1, .int q1), (6, .int x6)]) (pc := 87) hx hb dX12_ways_87 hl rfl rfl (Nat.le_of_ble_eq_true rfl) rfl (fun ls hl => ?_)
            refine lv_goto (tgt := 39) (pc := 90) hx hb dX12_ways_90 (by decide) ?_
            exact ih (x2 + 1) (x3 ||| (1 <<< (x7 &&& 31))) x4 x6 x6 (x7 + 1) u_this_thrown r5.2.1 r5.2.2.1 r5.2.2.2.1 r5.2.2.2.2 H locs ls hP hD hS (lv_sub hl [5, 6, 4, 3, 2, 1, 7, 0] rfl) hm
          · rw [if_neg hc] at hm
            refine lv_iload (pc := 74) hx hb dX12_ways_74 (lv_at hl 6 rfl) ?_
            refine lv_goto (tgt := 81) (pc := 76) hx hb dX12_ways_76 (by decide) ?_
            refine lv_istore (lv' := [(4, .int x6), (3, .int (x3 ||| (1 <<< (x7 &&& 31)))), (2, .int (x2 + 1)), (0, .ref this), (1, .int q1), (5, .int x5), (6, .int x6), (7, .int x7)]) (pc := 81) hx hb dX12_ways_81 hl (Nat.le_of_ble_eq_true rfl) rfl (fun ls hl => ?_)
            refine lv_iload (pc := 83) hx hb dX12_ways_83 (lv_at hl 6 rfl) ?_
            refine lv_istore (lv' := [(5, .int x6), (4, .int x6), (3, .int (x3 ||| (1 <<< (x7 &&& 31)))), (2, .int (x2 + 1)), (0, .ref this), (1, .int q1), (6, .int x6), (7, .int x7)]) (pc := 85) hx hb dX12_ways_85 hl (Nat.le_of_ble_eq_true rfl) rfl (fun ls hl => ?_)
            refine lv_iinc (k := 7) (v := x7 + 1) (lv' := [(7, .int (x7 + 1)), (5, .int x6), (4, .int x6), (3, .int (x3 ||| (1 <<< (x7 &&& 31)))), (2, .int (x2 + 1)), (0, .ref this), (1, .int q1), (6, .int x6)]) (pc := 87) hx hb dX12_ways_87 hl rfl rfl (Nat.le_of_ble_eq_true rfl) rfl (fun ls hl => ?_)
            refine lv_goto (tgt := 39) (pc := 90) hx hb dX12_ways_90 (by decide) ?_
            exact ih (x2 + 1) (x3 ||| (1 <<< (x7 &&& 31))) x6 x6 x6 (x7 + 1) u_this_thrown r5.2.1 r5.2.2.1 r5.2.2.2.1 r5.2.2.2.2 H locs ls hP hD hS (lv_sub hl [5, 6, 4, 3, 2, 1, 7, 0] rfl) hm
  have h_29 : ∀ (n : Nat), ∀ (x2 : Int32) (x3 : Int32) (x4 : Int32) (x5 : Int32) (x6 : Int32) (u_this_thrown : Int32) (u_this_facts_f : Nat → Int32) (u_this_pile_f : Nat → Int32) (u_this_state_f : Nat → Int32) (u_this_lacks_f : Nat → Int32) (H : Heap) (locs : List Loc) (ls : Array Slot), va_P D vwCl (wd_X12_ways k this u_this_thrown this_tape this_taped this_size this_sort this_place this_value this_at this_fault this_words this_towns this_towns_f this_op this_op_f this_arg this_arg_f this_codes this_names this_readNames this_namesMany this_readMany this_once this_lines this_facts u_this_facts_f this_pile u_this_pile_f this_state u_this_state_f this_undos this_isMarked this_weight this_rounding this_lacks u_this_lacks_f this_alikes this_g) H → va_D A (wd_X12_ways k this u_this_thrown this_tape this_taped this_size this_sort this_place this_value this_at this_fault this_words this_towns this_towns_f this_op this_op_f this_arg this_arg_f this_codes this_names this_readNames this_namesMany this_readMany this_once this_lines this_facts u_this_facts_f this_pile u_this_pile_f this_state u_this_state_f this_undos this_isMarked this_weight this_rounding this_lacks u_this_lacks_f this_alikes this_g) → va_S A s.heap H locs → lv_has ls 8 [(0, .ref this), (1, .int q1), (2, .int x2), (3, .int x3), (4, .int x4), (5, .int x5), (6, .int x6)] → m_X12_ways_29 this_towns_f this_op_f this_arg_f this_weight this_rounding q1 n x2 x3 x4 x5 x6 u_this_thrown u_this_facts_f u_this_pile_f u_this_state_f u_this_lacks_f = some R0 → W p l e (Rm 7 164) s m args below meth c H locs 0 0 (MQ below (QW D (some (.int R0.1)) (wd_X12_ways k this this_thrown this_tape this_taped this_size this_sort this_place this_value this_at this_fault this_words this_towns this_towns_f this_op this_op_f this_arg this_arg_f this_codes this_names this_readNames this_namesMany this_readMany this_once this_lines this_facts this_facts_f this_pile this_pile_f this_state this_state_f this_undos this_isMarked this_weight this_rounding this_lacks this_lacks_f this_alikes this_g) (wd_X12_ways k this R0.2.1 this_tape this_taped this_size this_sort this_place this_value this_at this_fault this_words this_towns this_towns_f this_op this_op_f this_arg this_arg_f this_codes this_names this_readNames this_namesMany this_readMany this_once this_lines this_facts R0.2.2.1 this_pile R0.2.2.2.1 this_state R0.2.2.2.2.1 this_undos this_isMarked this_weight this_rounding this_lacks R0.2.2.2.2.2 this_alikes this_g) s.heap.size) args s 0 0 A) (F0 m 29 ls []) := by
    intro n
    induction n with
    | zero => intro x2 x3 x4 x5 x6 u_this_thrown u_this_facts_f u_this_pile_f u_this_state_f u_this_lacks_f H locs ls hP hD hS hl hm; cases hm
    | succ n ih =>
      intro x2 x3 x4 x5 x6 u_this_thrown u_this_facts_f u_this_pile_f u_this_state_f u_this_lacks_f H locs ls hP hD hS hl hm
      unfold m_X12_ways_29 at hm
      refine lv_iload (pc := 29) hx hb dX12_ways_29 (lv_at hl 6 rfl) ?_
      refine lv_bipush (v := 20) (pc := 31) hx hb dX12_ways_31 (by decide) ?_
      refine lv_icmp_gt (tgt := 99) (pc := 33) hx hb dX12_ways_33 (by decide) (fun hc => ?_) (fun hc => ?_)
      · rw [if_pos hc] at hm
        refine lv_iload_n (pc := 99) hx hb dX12_ways_99 rfl (lv_at hl 1 rfl) ?_
        refine lv_if_ne (tgt := 107) (pc := 100) hx hb dX12_ways_100 (by decide) (fun hc => ?_) (fun hc => ?_)
        · rw [if_neg hc] at hm
          refine lv_iload_n (pc := 107) hx hb dX12_ways_107 rfl (lv_at hl 1 rfl) ?_
          refine lv_iconst (v := 1) (pc := 108) hx hb dX12_ways_108 (by decide) ?_
          refine lv_icmp_ne (tgt := 116) (pc := 109) hx hb dX12_ways_109 (by decide) (fun hc => ?_) (fun hc => ?_)
          · rw [if_neg hc] at hm
            refine lv_iload_n (pc := 116) hx hb dX12_ways_116 rfl (lv_at hl 1 rfl) ?_
            refine lv_iconst (v := 2) (pc := 117) hx hb dX12_ways_117 (by decide) ?_
            refine lv_icmp_ne (tgt := 126) (pc := 118) hx hb dX12_ways_118 (by decide) (fun hc => ?_) (fun hc => ?_)
            · rw [if_neg hc] at hm
              refine lv_iload (pc := 126) hx hb dX12_ways_126 (lv_at hl 5 rfl) ?_
              rw [← Option.some.inj hm]
              exact W.iret hx hb hr (fun t ht _ => hq _ _ H t ht hP hD locs hS) hS.2.2 dX12_ways_128 hlocks
            · rw [if_pos hc] at hm
              refine lv_iload (pc := 121) hx hb dX12_ways_121 (lv_at hl 4 rfl) ?_
              refine lv_goto (tgt := 128) (pc := 123) hx hb dX12_ways_123 (by decide) ?_
              rw [← Option.some.inj hm]
              exact W.iret hx hb hr (fun t ht _ => hq _ _ H t ht hP hD locs hS) hS.2.2 dX12_ways_128 hlocks
          · rw [if_pos hc] at hm
            refine lv_iload_n (pc := 112) hx hb dX12_ways_112 rfl (lv_at hl 3 rfl) ?_
            refine lv_goto (tgt := 128) (pc := 113) hx hb dX12_ways_113 (by decide) ?_
            rw [← Option.some.inj hm]
            exact W.iret hx hb hr (fun t ht _ => hq _ _ H t ht hP hD locs hS) hS.2.2 dX12_ways_128 hlocks
        · rw [if_pos hc] at hm
          refine lv_iload_n (pc := 103) hx hb dX12_ways_103 rfl (lv_at hl 2 rfl) ?_
          refine lv_goto (tgt := 128) (pc := 104) hx hb dX12_ways_104 (by decide) ?_
          rw [← Option.some.inj hm]
          exact W.iret hx hb hr (fun t ht _ => hq _ _ H t ht hP hD locs hS) hS.2.2 dX12_ways_128 hlocks
      · rw [if_neg hc] at hm
        refine lv_iconst (v := 0) (pc := 36) hx hb dX12_ways_36 (by decide) ?_
        refine lv_istore (lv' := [(7, .int 0), (0, .ref this), (1, .int q1), (2, .int x2), (3, .int x3), (4, .int x4), (5, .int x5), (6, .int x6)]) (pc := 37) hx hb dX12_ways_37 hl (Nat.le_of_ble_eq_true rfl) rfl (fun ls hl => ?_)
        exact h_39 (m_X12_ways_29 this_towns_f this_op_f this_arg_f this_weight this_rounding q1 n) ih FU x2 x3 x4 x5 x6 0 u_this_thrown u_this_facts_f u_this_pile_f u_this_state_f u_this_lacks_f H locs ls hP hD hS (lv_sub hl [1, 2, 3, 4, 5, 6, 7, 0] rfl) hm
  unfold m_X12_ways at hm
  suffices hgo : ∀ (H : Heap) (locs : List Loc), va_P D vwCl (wd_X12_ways k this this_thrown this_tape this_taped this_size this_sort this_place this_value this_at this_fault this_words this_towns this_towns_f this_op this_op_f this_arg this_arg_f this_codes this_names this_readNames this_namesMany this_readMany this_once this_lines this_facts this_facts_f this_pile this_pile_f this_state this_state_f this_undos this_isMarked this_weight this_rounding this_lacks this_lacks_f this_alikes this_g) H → va_D A (wd_X12_ways k this this_thrown this_tape this_taped this_size this_sort this_place this_value this_at this_fault this_words this_towns this_towns_f this_op this_op_f this_arg this_arg_f this_codes this_names this_readNames this_namesMany this_readMany this_once this_lines this_facts this_facts_f this_pile this_pile_f this_state this_state_f this_undos this_isMarked this_weight this_rounding this_lacks this_lacks_f this_alikes this_g) → va_S A s.heap H locs → W p l e (Rm 7 164) s m args below meth c H locs 0 0 (MQ below (QW D (some (.int R0.1)) (wd_X12_ways k this this_thrown this_tape this_taped this_size this_sort this_place this_value this_at this_fault this_words this_towns this_towns_f this_op this_op_f this_arg this_arg_f this_codes this_names this_readNames this_namesMany this_readMany this_once this_lines this_facts this_facts_f this_pile this_pile_f this_state this_state_f this_undos this_isMarked this_weight this_rounding this_lacks this_lacks_f this_alikes this_g) (wd_X12_ways k this R0.2.1 this_tape this_taped this_size this_sort this_place this_value this_at this_fault this_words this_towns this_towns_f this_op this_op_f this_arg this_arg_f this_codes this_names this_readNames this_namesMany this_readMany this_once this_lines this_facts R0.2.2.1 this_pile R0.2.2.2.1 this_state R0.2.2.2.2.1 this_undos this_isMarked this_weight this_rounding this_lacks R0.2.2.2.2.2 this_alikes this_g) s.heap.size) args s 0 0 A) (F0 m 0 ls []) from hgo _ _ hP hD hS
  clear hP hD hS
  intro H locs hP hD hS
  refine lv_aload_n (pc := 0) hx hb dX12_ways_0 rfl (lv_at hl 0 rfl) ?_
  refine lv_iconst (v := 0) (pc := 1) hx hb dX12_ways_1 (by decide) ?_
  refine va_put (pc := 2) (D := D) (ci := 10) (v := .int 0) (ty := .int) (C := RX12) (T := TX12) (N := 30) hx hb hts hiX12 tyX12 tyX12_ok nmX12 hown hG.1 hP hD hS 0 rfl rfl 0 (Nat.le_of_ble_eq_true rfl) (hts _ kw_1257) (fun _ h9 => h9) rfl (by decide +kernel) rfl rfl (Nat.le_of_ble_eq_true rfl) dX12_ways_2 (fun H locs hP hD hS => ?_)
  have hP : va_P D vwCl (wd_X12_ways k this 0 this_tape this_taped this_size this_sort this_place this_value this_at this_fault this_words this_towns this_towns_f this_op this_op_f this_arg this_arg_f this_codes this_names this_readNames this_namesMany this_readMany this_once this_lines this_facts this_facts_f this_pile this_pile_f this_state this_state_f this_undos this_isMarked this_weight this_rounding this_lacks this_lacks_f this_alikes this_g) H := hP
  have hD : va_D A (wd_X12_ways k this 0 this_tape this_taped this_size this_sort this_place this_value this_at this_fault this_words this_towns this_towns_f this_op this_op_f this_arg this_arg_f this_codes this_names this_readNames this_namesMany this_readMany this_once this_lines this_facts this_facts_f this_pile this_pile_f this_state this_state_f this_undos this_isMarked this_weight this_rounding this_lacks this_lacks_f this_alikes this_g) := hD
  refine lv_iload_n (pc := 5) hx hb dX12_ways_5 rfl (lv_at hl 1 rfl) ?_
  refine lv_iconst (v := 0) (pc := 6) hx hb dX12_ways_6 (by decide) ?_
  refine lv_iconst (v := 3) (pc := 7) hx hb dX12_ways_7 (by decide) ?_
  obtain ⟨r6, hcl, hm⟩ := bd hm
  refine cr_back (run_S (pc := 8) (n := 3) (As := [.int q1, .int 0, .int 3]) (rest := []) ⟨hx, hb, hml, hown, hts⟩ (c_X12_within l D k q1 0 3 r6 hcl) ⟨kw_1501, kw_16, by decide +kernel⟩ kw_1499 kw_1500 ⟨Nat.le_of_ble_eq_true rfl, Nat.le_of_ble_eq_true rfl⟩ pr_blind (prR (hP.sub [] rfl) hG) rfl hl.1 rfl (Nat.le_of_ble_eq_true rfl) dX12_ways_8 ⟨Nat.zero_le _, Nat.zero_le _⟩) ?_
  refine lv_if_ne (tgt := 16) (pc := 11) hx hb dX12_ways_11 (by decide) (fun hc => ?_) (fun hc => ?_)
  · rw [if_neg hc] at hm
    refine lv_iconst (v := 0) (pc := 16) hx hb dX12_ways_16 (by decide) ?_
    refine lv_istore_n (lv' := [(2, .int 0), (0, .ref this), (1, .int q1)]) (pc := 17) hx hb dX12_ways_17 rfl hl (Nat.le_of_ble_eq_true rfl) rfl (fun ls hl => ?_)
    refine lv_iconst (v := 0) (pc := 18) hx hb dX12_ways_18 (by decide) ?_
    refine lv_istore_n (lv' := [(3, .int 0), (2, .int 0), (0, .ref this), (1, .int q1)]) (pc := 19) hx hb dX12_ways_19 rfl hl (Nat.le_of_ble_eq_true rfl) rfl (fun ls hl => ?_)
    refine lv_iconst (v := (-1)) (pc := 20) hx hb dX12_ways_20 (by decide) ?_
    refine lv_istore (lv' := [(4, .int (-1)), (3, .int 0), (2, .int 0), (0, .ref this), (1, .int q1)]) (pc := 21) hx hb dX12_ways_21 hl (Nat.le_of_ble_eq_true rfl) rfl (fun ls hl => ?_)
    refine lv_iconst (v := (-1)) (pc := 23) hx hb dX12_ways_23 (by decide) ?_
    refine lv_istore (lv' := [(5, .int (-1)), (4, .int (-1)), (3, .int 0), (2, .int 0), (0, .ref this), (1, .int q1)]) (pc := 24) hx hb dX12_ways_24 hl (Nat.le_of_ble_eq_true rfl) rfl (fun ls hl => ?_)
    refine lv_iconst (v := 1) (pc := 26) hx hb dX12_ways_26 (by decide) ?_
    refine lv_istore (lv' := [(6, .int 1), (5, .int (-1)), (4, .int (-1)), (3, .int 0), (2, .int 0), (0, .ref this), (1, .int q1)]) (pc := 27) hx hb dX12_ways_27 hl (Nat.le_of_ble_eq_true rfl) rfl (fun ls hl => ?_)
    exact h_29 FU 0 0 (-1) (-1) 1 0 this_facts_f this_pile_f this_state_f this_lacks_f H locs ls hP hD hS (lv_sub hl [5, 6, 4, 3, 2, 1, 0] rfl) hm
  · rw [if_pos hc] at hm
    refine lv_iconst (v := (-1)) (pc := 14) hx hb dX12_ways_14 (by decide) ?_
    rw [← Option.some.inj hm]
    exact W.iret hx hb hr (fun t ht _ => hq _ _ H t ht hP hD locs hS) hS.2.2 dX12_ways_15 hlocks
theorem dX12_look_0 : decode cX12_look 0 = .ok (.aload_n 0, 1) := by decide +kernel
theorem dX12_look_1 : decode cX12_look 1 = .ok (.iconst 0, 1) := by decide +kernel
theorem dX12_look_2 : decode cX12_look 2 = .ok (.putfield 1, 3) := by decide +kernel
theorem dX12_look_5 : decode cX12_look 5 = .ok (.iconst 0, 1) := by decide +kernel
theorem dX12_look_6 : decode cX12_look 6 = .ok (.istore_n 1, 1) := by decide +kernel
theorem dX12_look_7 : decode cX12_look 7 = .ok (.iload_n 1, 1) := by decide +kernel
theorem dX12_look_8 : decode cX12_look 8 = .ok (.sipush 2100, 3) := by decide +kernel
theorem dX12_look_11 : decode cX12_look 11 = .ok (.if_icmp .ge 16, 3) := by decide +kernel
theorem dX12_look_14 : decode cX12_look 14 = .ok (.aload_n 0, 1) := by decide +kernel
theorem dX12_look_15 : decode cX12_look 15 = .ok (.getfield 123, 3) := by decide +kernel
theorem dX12_look_18 : decode cX12_look 18 = .ok (.iload_n 1, 1) := by decide +kernel
theorem dX12_look_19 : decode cX12_look 19 = .ok (.iconst 0, 1) := by decide +kernel
theorem dX12_look_20 : decode cX12_look 20 = .ok (.iastore, 1) := by decide +kernel
theorem dX12_look_21 : decode cX12_look 21 = .ok (.iinc 1 1, 3) := by decide +kernel
theorem dX12_look_24 : decode cX12_look 24 = .ok (.goto (-17), 3) := by decide +kernel
theorem dX12_look_27 : decode cX12_look 27 = .ok (.iconst 0, 1) := by decide +kernel
theorem dX12_look_28 : decode cX12_look 28 = .ok (.istore_n 1, 1) := by decide +kernel
theorem dX12_look_29 : decode cX12_look 29 = .ok (.iconst 0, 1) := by decide +kernel
theorem dX12_look_30 : decode cX12_look 30 = .ok (.istore_n 2, 1) := by decide +kernel
theorem dX12_look_31 : decode cX12_look 31 = .ok (.iload_n 2, 1) := by decide +kernel
theorem dX12_look_32 : decode cX12_look 32 = .ok (.bipush 20, 2) := by decide +kernel
theorem dX12_look_34 : decode cX12_look 34 = .ok (.aload_n 0, 1) := by decide +kernel
theorem dX12_look_35 : decode cX12_look 35 = .ok (.invokevirtual 255, 3) := by decide +kernel
theorem dX12_look_38 : decode cX12_look 38 = .ok (.imul, 1) := by decide +kernel
theorem dX12_look_39 : decode cX12_look 39 = .ok (.if_icmp .ge 93, 3) := by decide +kernel
theorem dX12_look_42 : decode cX12_look 42 = .ok (.aload_n 0, 1) := by decide +kernel
theorem dX12_look_43 : decode cX12_look 43 = .ok (.iload_n 2, 1) := by decide +kernel
theorem dX12_look_44 : decode cX12_look 44 = .ok (.bipush 20, 2) := by decide +kernel
theorem dX12_look_46 : decode cX12_look 46 = .ok (.idiv, 1) := by decide +kernel
theorem dX12_look_47 : decode cX12_look 47 = .ok (.iconst 1, 1) := by decide +kernel
theorem dX12_look_48 : decode cX12_look 48 = .ok (.iload_n 2, 1) := by decide +kernel
theorem dX12_look_49 : decode cX12_look 49 = .ok (.bipush 20, 2) := by decide +kernel
theorem dX12_look_51 : decode cX12_look 51 = .ok (.irem, 1) := by decide +kernel
theorem dX12_look_52 : decode cX12_look 52 = .ok (.iadd, 1) := by decide +kernel
theorem dX12_look_53 : decode cX12_look 53 = .ok (.invokevirtual 337, 3) := by decide +kernel
theorem dX12_look_56 : decode cX12_look 56 = .ok (.ifCond .eq 70, 3) := by decide +kernel
theorem dX12_look_59 : decode cX12_look 59 = .ok (.iinc 1 1, 3) := by decide +kernel
theorem dX12_look_62 : decode cX12_look 62 = .ok (.aload_n 0, 1) := by decide +kernel
theorem dX12_look_63 : decode cX12_look 63 = .ok (.invokevirtual 318, 3) := by decide +kernel
theorem dX12_look_66 : decode cX12_look 66 = .ok (.aload_n 0, 1) := by decide +kernel
theorem dX12_look_67 : decode cX12_look 67 = .ok (.sipush 1008, 3) := by decide +kernel
theorem dX12_look_70 : decode cX12_look 70 = .ok (.iload_n 2, 1) := by decide +kernel
theorem dX12_look_71 : decode cX12_look 71 = .ok (.bipush 20, 2) := by decide +kernel
theorem dX12_look_73 : decode cX12_look 73 = .ok (.idiv, 1) := by decide +kernel
theorem dX12_look_74 : decode cX12_look 74 = .ok (.iconst 1, 1) := by decide +kernel
theorem dX12_look_75 : decode cX12_look 75 = .ok (.iload_n 2, 1) := by decide +kernel
theorem dX12_look_76 : decode cX12_look 76 = .ok (.bipush 20, 2) := by decide +kernel
theorem dX12_look_78 : decode cX12_look 78 = .ok (.irem, 1) := by decide +kernel
theorem dX12_look_79 : decode cX12_look 79 = .ok (.iadd, 1) := by decide +kernel
theorem dX12_look_80 : decode cX12_look 80 = .ok (.invokevirtual 312, 3) := by decide +kernel
theorem dX12_look_83 : decode cX12_look 83 = .ok (.iconst 0, 1) := by decide +kernel
theorem dX12_look_84 : decode cX12_look 84 = .ok (.istore_n 3, 1) := by decide +kernel
theorem dX12_look_85 : decode cX12_look 85 = .ok (.iload_n 3, 1) := by decide +kernel
theorem dX12_look_86 : decode cX12_look 86 = .ok (.bipush 20, 2) := by decide +kernel
theorem dX12_look_88 : decode cX12_look 88 = .ok (.if_icmp .gt 38, 3) := by decide +kernel
theorem dX12_look_91 : decode cX12_look 91 = .ok (.aload_n 0, 1) := by decide +kernel
theorem dX12_look_92 : decode cX12_look 92 = .ok (.getfield 123, 3) := by decide +kernel
theorem dX12_look_95 : decode cX12_look 95 = .ok (.bipush 100, 2) := by decide +kernel
theorem dX12_look_97 : decode cX12_look 97 = .ok (.iload_n 3, 1) := by decide +kernel
theorem dX12_look_98 : decode cX12_look 98 = .ok (.imul, 1) := by decide +kernel
theorem dX12_look_99 : decode cX12_look 99 = .ok (.aload_n 0, 1) := by decide +kernel
theorem dX12_look_100 : decode cX12_look 100 = .ok (.sipush 1008, 3) := by decide +kernel
theorem dX12_look_103 : decode cX12_look 103 = .ok (.invokevirtual 293, 3) := by decide +kernel
theorem dX12_look_106 : decode cX12_look 106 = .ok (.iadd, 1) := by decide +kernel
theorem dX12_look_107 : decode cX12_look 107 = .ok (.dup2, 1) := by decide +kernel
theorem dX12_look_108 : decode cX12_look 108 = .ok (.iaload, 1) := by decide +kernel
theorem dX12_look_109 : decode cX12_look 109 = .ok (.iconst 1, 1) := by decide +kernel
theorem dX12_look_110 : decode cX12_look 110 = .ok (.iadd, 1) := by decide +kernel
theorem dX12_look_111 : decode cX12_look 111 = .ok (.iastore, 1) := by decide +kernel
theorem dX12_look_112 : decode cX12_look 112 = .ok (.aload_n 0, 1) := by decide +kernel
theorem dX12_look_113 : decode cX12_look 113 = .ok (.sipush 1008, 3) := by decide +kernel
theorem dX12_look_116 : decode cX12_look 116 = .ok (.invokevirtual 315, 3) := by decide +kernel
theorem dX12_look_119 : decode cX12_look 119 = .ok (.pop, 1) := by decide +kernel
theorem dX12_look_120 : decode cX12_look 120 = .ok (.iinc 3 1, 3) := by decide +kernel
theorem dX12_look_123 : decode cX12_look 123 = .ok (.goto (-38), 3) := by decide +kernel
theorem dX12_look_126 : decode cX12_look 126 = .ok (.iinc 2 1, 3) := by decide +kernel
theorem dX12_look_129 : decode cX12_look 129 = .ok (.goto (-98), 3) := by decide +kernel
theorem dX12_look_132 : decode cX12_look 132 = .ok (.iconst (-1), 1) := by decide +kernel
theorem dX12_look_133 : decode cX12_look 133 = .ok (.istore_n 2, 1) := by decide +kernel
theorem dX12_look_134 : decode cX12_look 134 = .ok (.iload_n 1, 1) := by decide +kernel
theorem dX12_look_135 : decode cX12_look 135 = .ok (.istore_n 3, 1) := by decide +kernel
theorem dX12_look_136 : decode cX12_look 136 = .ok (.iconst 0, 1) := by decide +kernel
theorem dX12_look_137 : decode cX12_look 137 = .ok (.istore 4, 2) := by decide +kernel
theorem dX12_look_139 : decode cX12_look 139 = .ok (.iload 4, 2) := by decide +kernel
theorem dX12_look_141 : decode cX12_look 141 = .ok (.bipush 20, 2) := by decide +kernel
theorem dX12_look_143 : decode cX12_look 143 = .ok (.if_icmp .gt 92, 3) := by decide +kernel
theorem dX12_look_146 : decode cX12_look 146 = .ok (.iconst 0, 1) := by decide +kernel
theorem dX12_look_147 : decode cX12_look 147 = .ok (.istore 5, 2) := by decide +kernel
theorem dX12_look_149 : decode cX12_look 149 = .ok (.iconst 0, 1) := by decide +kernel
theorem dX12_look_150 : decode cX12_look 150 = .ok (.istore 6, 2) := by decide +kernel
theorem dX12_look_152 : decode cX12_look 152 = .ok (.iload 6, 2) := by decide +kernel
theorem dX12_look_154 : decode cX12_look 154 = .ok (.bipush 99, 2) := by decide +kernel
theorem dX12_look_156 : decode cX12_look 156 = .ok (.if_icmp .gt 47, 3) := by decide +kernel
theorem dX12_look_159 : decode cX12_look 159 = .ok (.aload_n 0, 1) := by decide +kernel
theorem dX12_look_160 : decode cX12_look 160 = .ok (.getfield 123, 3) := by decide +kernel
theorem dX12_look_163 : decode cX12_look 163 = .ok (.bipush 100, 2) := by decide +kernel
theorem dX12_look_165 : decode cX12_look 165 = .ok (.iload 4, 2) := by decide +kernel
theorem dX12_look_167 : decode cX12_look 167 = .ok (.imul, 1) := by decide +kernel
theorem dX12_look_168 : decode cX12_look 168 = .ok (.iload 6, 2) := by decide +kernel
theorem dX12_look_170 : decode cX12_look 170 = .ok (.iadd, 1) := by decide +kernel
theorem dX12_look_171 : decode cX12_look 171 = .ok (.iaload, 1) := by decide +kernel
theorem dX12_look_172 : decode cX12_look 172 = .ok (.iload 5, 2) := by decide +kernel
theorem dX12_look_174 : decode cX12_look 174 = .ok (.if_icmp .le 19, 3) := by decide +kernel
theorem dX12_look_177 : decode cX12_look 177 = .ok (.aload_n 0, 1) := by decide +kernel
theorem dX12_look_178 : decode cX12_look 178 = .ok (.getfield 123, 3) := by decide +kernel
theorem dX12_look_181 : decode cX12_look 181 = .ok (.bipush 100, 2) := by decide +kernel
theorem dX12_look_183 : decode cX12_look 183 = .ok (.iload 4, 2) := by decide +kernel
theorem dX12_look_185 : decode cX12_look 185 = .ok (.imul, 1) := by decide +kernel
theorem dX12_look_186 : decode cX12_look 186 = .ok (.iload 6, 2) := by decide +kernel
theorem dX12_look_188 : decode cX12_look 188 = .ok (.iadd, 1) := by decide +kernel
theorem dX12_look_189 : decode cX12_look 189 = .ok (.iaload, 1) := by decide +kernel
theorem dX12_look_190 : decode cX12_look 190 = .ok (.goto 5, 3) := by decide +kernel
theorem dX12_look_193 : decode cX12_look 193 = .ok (.iload 5, 2) := by decide +kernel
theorem dX12_look_195 : decode cX12_look 195 = .ok (.istore 5, 2) := by decide +kernel
theorem dX12_look_197 : decode cX12_look 197 = .ok (.iinc 6 1, 3) := by decide +kernel
theorem dX12_look_200 : decode cX12_look 200 = .ok (.goto (-48), 3) := by decide +kernel
theorem dX12_look_203 : decode cX12_look 203 = .ok (.iload 5, 2) := by decide +kernel
theorem dX12_look_205 : decode cX12_look 205 = .ok (.iload_n 3, 1) := by decide +kernel
theorem dX12_look_206 : decode cX12_look 206 = .ok (.if_icmp .ge 8, 3) := by decide +kernel
theorem dX12_look_209 : decode cX12_look 209 = .ok (.iload 4, 2) := by decide +kernel
theorem dX12_look_211 : decode cX12_look 211 = .ok (.goto 4, 3) := by decide +kernel
theorem dX12_look_214 : decode cX12_look 214 = .ok (.iload_n 2, 1) := by decide +kernel
theorem dX12_look_215 : decode cX12_look 215 = .ok (.istore_n 2, 1) := by decide +kernel
theorem dX12_look_216 : decode cX12_look 216 = .ok (.iload 5, 2) := by decide +kernel
theorem dX12_look_218 : decode cX12_look 218 = .ok (.iload_n 3, 1) := by decide +kernel
theorem dX12_look_219 : decode cX12_look 219 = .ok (.if_icmp .ge 8, 3) := by decide +kernel
theorem dX12_look_222 : decode cX12_look 222 = .ok (.iload 5, 2) := by decide +kernel
theorem dX12_look_224 : decode cX12_look 224 = .ok (.goto 4, 3) := by decide +kernel
theorem dX12_look_227 : decode cX12_look 227 = .ok (.iload_n 3, 1) := by decide +kernel
theorem dX12_look_228 : decode cX12_look 228 = .ok (.istore_n 3, 1) := by decide +kernel
theorem dX12_look_229 : decode cX12_look 229 = .ok (.iinc 4 1, 3) := by decide +kernel
theorem dX12_look_232 : decode cX12_look 232 = .ok (.goto (-93), 3) := by decide +kernel
theorem dX12_look_235 : decode cX12_look 235 = .ok (.iload_n 2, 1) := by decide +kernel
theorem dX12_look_236 : decode cX12_look 236 = .ok (.ireturn, 1) := by decide +kernel
abbrev wd_X12_look (k : Nat → ClassId) (this : Nat) (this_thrown : Int32) (this_tape : Nat) (this_taped : Int32) (this_size : Int32) (this_sort : Nat) (this_place : Nat) (this_value : Nat) (this_at : Int32) (this_fault : Int32) (this_words : Nat) (this_towns : Nat) (this_towns_f : Nat → Int32) (this_op : Nat) (this_op_f : Nat → Int32) (this_arg : Nat) (this_arg_f : Nat → Int32) (this_codes : Int32) (this_names : Nat) (this_readNames : Nat) (this_namesMany : Int32) (this_readMany : Int32) (this_once : Int32) (this_lines : Nat) (this_facts : Nat) (this_facts_f : Nat → Int32) (this_pile : Nat) (this_pile_f : Nat → Int32) (this_state : Nat) (this_state_f : Nat → Int32) (this_undos : Int32) (this_isMarked : Nat) (this_weight : Int32) (this_rounding : Int32) (this_lacks : Nat) (this_lacks_f : Nat → Int32) (this_alikes : Nat) (this_alikes_f : Nat → Int32) (this_g : Int64) : va_W := [(this, .inr (10, [.int this_thrown, .ref this_tape, .int this_taped, .int this_size, .ref this_sort, .ref this_place, .ref this_value, .int this_at, .int this_fault, .ref this_words, .ref this_towns, .ref this_op, .ref this_arg, .int this_codes, .ref this_names, .ref this_readNames, .int this_namesMany, .int this_readMany, .int this_once, .ref this_lines, .ref this_facts, .ref this_pile, .ref this_state, .int this_undos, .ref this_isMarked, .int this_weight, .int this_rounding, .ref this_lacks, .ref this_alikes, .long this_g])), (this_towns, .inl (k 0, 60, .inl this_towns_f)), (this_op, .inl (k 0, 2200, .inl this_op_f)), (this_arg, .inl (k 0, 2200, .inl this_arg_f)), (this_facts, .inl (k 0, 4, .inl this_facts_f)), (this_pile, .inl (k 0, 1100, .inl this_pile_f)), (this_state, .inl (k 0, 1104, .inl this_state_f)), (this_lacks, .inl (k 0, 6, .inl this_lacks_f)), (this_alikes, .inl (k 0, 2100, .inl this_alikes_f))]
set_option maxHeartbeats 4000000 in
set_option maxRecDepth 100000 in
theorem c_X12_look (l : Launch) (D : va_G) (k : Nat → ClassId) (this : Nat) (this_thrown : Int32) (this_tape : Nat) (this_taped : Int32) (this_size : Int32) (this_sort : Nat) (this_place : Nat) (this_value : Nat) (this_at : Int32) (this_fault : Int32) (this_words : Nat) (this_towns : Nat) (this_towns_f : Nat → Int32) (this_op : Nat) (this_op_f : Nat → Int32) (this_arg : Nat) (this_arg_f : Nat → Int32) (this_codes : Int32) (this_names : Nat) (this_readNames : Nat) (this_namesMany : Int32) (this_readMany : Int32) (this_once : Int32) (this_lines : Nat) (this_facts : Nat) (this_facts_f : Nat → Int32) (this_pile : Nat) (this_pile_f : Nat → Int32) (this_state : Nat) (this_state_f : Nat → Int32) (this_undos : Int32) (this_isMarked : Nat) (this_weight : Int32) (this_rounding : Int32) (this_lacks : Nat) (this_lacks_f : Nat → Int32) (this_alikes : Nat) (this_alikes_f : Nat → Int32) (this_g : Int64) (R0 : Int32 × Int32 × (Nat → Int32) × (Nat → Int32) × (Nat → Int32) × (Nat → Int32) × (Nat → Int32)) (hm : m_X12_look this_towns_f this_op_f this_arg_f this_facts_f this_pile_f this_state_f this_weight this_rounding this_lacks_f this_alikes_f = some R0) : CW l D (TY k) yX12_look cX12_look 7 (some .int) 7 164 [.ref this] (wd_X12_look k this this_thrown this_tape this_taped this_size this_sort this_place this_value this_at this_fault this_words this_towns this_towns_f this_op this_op_f this_arg this_arg_f this_codes this_names this_readNames this_namesMany this_readMany this_once this_lines this_facts this_facts_f this_pile this_pile_f this_state this_state_f this_undos this_isMarked this_weight this_rounding this_lacks this_lacks_f this_alikes this_alikes_f this_g) (some (.int R0.1)) (wd_X12_look k this R0.2.1 this_tape this_taped this_size this_sort this_place this_value this_at this_fault this_words this_towns this_towns_f this_op this_op_f this_arg this_arg_f this_codes this_names this_readNames this_namesMany this_readMany this_once this_lines this_facts R0.2.2.1 this_pile R0.2.2.2.1 this_state R0.2.2.2.2.1 this_undos this_isMarked this_weight this_rounding this_lacks R0.2.2.2.2.2.1 this_alikes R0.2.2.2.2.2.2 this_g) := by
  refine CW.mk (by decide) (Nat.le_of_ble_eq_true rfl) ?_
  intro p e s m args below meth c ls A ⟨hx, hb, hr, hts, hown, hlocks, hml⟩ hP hG hD hA hl hS hq
  have hl : lv_has ls 7 [(0, .ref this)] := hl
  have h_215 : ∀ (K139 : Int32 → Int32 → Int32 → Int32 → (Nat → Int32) → (Nat → Int32) → (Nat → Int32) → (Nat → Int32) → (Nat → Int32) → Option (Int32 × Int32 × (Nat → Int32) × (Nat → Int32) × (Nat → Int32) × (Nat → Int32) × (Nat → Int32))) (hK139 : ∀ (x2 : Int32) (x3 : Int32) (x4 : Int32) (u_this_thrown : Int32) (u_this_facts_f : Nat → Int32) (u_this_pile_f : Nat → Int32) (u_this_state_f : Nat → Int32) (u_this_lacks_f : Nat → Int32) (u_this_alikes_f : Nat → Int32) (H : Heap) (locs : List Loc) (ls : Array Slot), va_P D vwCl (wd_X12_look k this u_this_thrown this_tape this_taped this_size this_sort this_place this_value this_at this_fault this_words this_towns this_towns_f this_op this_op_f this_arg this_arg_f this_codes this_names this_readNames this_namesMany this_readMany this_once this_lines this_facts u_this_facts_f this_pile u_this_pile_f this_state u_this_state_f this_undos this_isMarked this_weight this_rounding this_lacks u_this_lacks_f this_alikes u_this_alikes_f this_g) H → va_D A (wd_X12_look k this u_this_thrown this_tape this_taped this_size this_sort this_place this_value this_at this_fault this_words this_towns this_towns_f this_op this_op_f this_arg this_arg_f this_codes this_names this_readNames this_namesMany this_readMany this_once this_lines this_facts u_this_facts_f this_pile u_this_pile_f this_state u_this_state_f this_undos this_isMarked this_weight this_rounding this_lacks u_this_lacks_f this_alikes u_this_alikes_f this_g) → va_S A s.heap H locs → lv_has ls 7 [(0, .ref this), (2, .int x2), (3, .int x3), (4, .int x4)] → K139 x2 x3 x4 u_this_thrown u_this_facts_f u_this_pile_f u_this_state_f u_this_lacks_f u_this_alikes_f = some R0 → W p l e (Rm 7 164) s m args below meth c H locs 0 0 (MQ below (QW D (some (.int R0.1)) (wd_X12_look k this this_thrown this_tape this_taped this_size this_sort this_place this_value this_at this_fault this_words this_towns this_towns_f this_op this_op_f this_arg this_arg_f this_codes this_names this_readNames this_namesMany this_readMany this_once this_lines this_facts this_facts_f this_pile this_pile_f this_state this_state_f this_undos this_isMarked this_weight this_rounding this_lacks this_lacks_f this_alikes this_alikes_f this_g) (wd_X12_look k this R0.2.1 this_tape this_taped this_size this_sort this_place this_value this_at this_fault this_words this_towns this_towns_f this_op this_op_f this_arg this_arg_f this_codes this_names this_readNames this_namesMany this_readMany this_once this_lines this_facts R0.2.2.1 this_pile R0.2.2.2.1 this_state R0.2.2.2.2.1 this_undos this_isMarked this_weight this_rounding this_lacks R0.2.2.2.2.2.1 this_alikes R0.2.2.2.2.2.2 this_g) s.heap.size) args s 0 0 A) (F0 m 139 ls [])), ∀ (x3 : Int32) (x4 : Int32) (x5 : Int32) (t0 : Int32) (u_this_thrown : Int32) (u_this_facts_f : Nat → Int32) (u_this_pile_f : Nat → Int32) (u_this_state_f : Nat → Int32) (u_this_lacks_f : Nat → Int32) (u_this_alikes_f : Nat → Int32) (H : Heap) (locs : List Loc) (ls : Array Slot), va_P D vwCl (wd_X12_look k this u_this_thrown this_tape this_taped this_size this_sort this_place this_value this_at this_fault this_words this_towns this_towns_f this_op this_op_f this_arg this_arg_f this_codes this_names this_readNames this_namesMany this_readMany this_once this_lines this_facts u_this_facts_f this_pile u_this_pile_f this_state u_this_state_f this_undos this_isMarked this_weight this_rounding this_lacks u_this_lacks_f this_alikes u_this_alikes_f this_g) H → va_D A (wd_X12_look k this u_this_thrown this_tape this_taped this_size this_sort this_place this_value this_at this_fault this_words this_towns this_towns_f this_op this_op_f this_arg this_arg_f this_codes this_names this_readNames this_namesMany this_readMany this_once this_lines this_facts u_this_facts_f this_pile u_this_pile_f this_state u_this_state_f this_undos this_isMarked this_weight this_rounding this_lacks u_this_lacks_f this_alikes u_this_alikes_f this_g) → va_S A s.heap H locs → lv_has ls 7 [(0, .ref this), (3, .int x3), (4, .int x4), (5, .int x5)] → m_X12_look_215 this_towns_f this_op_f this_arg_f this_weight this_rounding K139 x3 x4 x5 t0 u_this_thrown u_this_facts_f u_this_pile_f u_this_state_f u_this_lacks_f u_this_alikes_f = some R0 → W p l e (Rm 7 164) s m args below meth c H locs 0 0 (MQ below (QW D (some (.int R0.1)) (wd_X12_look k this this_thrown this_tape this_taped this_size this_sort this_place this_value this_at this_fault this_words this_towns this_towns_f this_op this_op_f this_arg this_arg_f this_codes this_names this_readNames this_namesMany this_readMany this_once this_lines this_facts this_facts_f this_pile this_pile_f this_state this_state_f this_undos this_isMarked this_weight this_rounding this_lacks this_lacks_f this_alikes this_alikes_f this_g) (wd_X12_look k this R0.2.1 this_tape this_taped this_size this_sort this_place this_value this_at this_fault this_words this_towns this_towns_f this_op this_op_f this_arg this_arg_f this_codes this_names this_readNames this_namesMany this_readMany this_once this_lines this_facts R0.2.2.1 this_pile R0.2.2.2.1 this_state R0.2.2.2.2.1 this_undos this_isMarked this_weight this_rounding this_lacks R0.2.2.2.2.2.1 this_alikes R0.2.2.2.2.2.2 this_g) s.heap.size) args s 0 0 A) (F0 m 215 ls [.int t0]) := by
    intro K139 hK139 x3 x4 x5 t0 u_this_thrown u_this_facts_f u_this_pile_f u_this_state_f u_this_lacks_f u_this_alikes_f H locs ls hP hD hS hl hm
    unfold m_X12_look_215 at hm
    refine lv_istore_n (lv' := [(2, .int t0), (0, .ref this), (3, .int x3), (4, .int x4), (5, .int x5)]) (pc := 215) hx hb dX12_look_215 rfl hl (Nat.le_of_ble_eq_true rfl) rfl (fun ls hl => ?_)
    refine lv_iload (pc := 216) hx hb dX12_look_216 (lv_at hl 4 rfl) ?_
    refine lv_iload_n (pc := 218) hx hb dX12_look_218 rfl (lv_at hl 2 rfl) ?_
    refine lv_icmp_ge (tgt := 227) (pc := 219) hx hb dX12_look_219 (by decide) (fun hc => ?_) (fun hc => ?_)
    · rw [if_pos hc] at hm
      refine lv_iload_n (pc := 227) hx hb dX12_look_227 rfl (lv_at hl 2 rfl) ?_
      refine lv_istore_n (lv' := [(3, .int x3), (2, .int t0), (0, .ref this), (4, .int x4), (5, .int x5)]) (pc := 228) hx hb dX12_look_228 rfl hl (Nat.le_of_ble_eq_true rfl) rfl (fun ls hl => ?_)
      refine lv_iinc (k := 3) (v := x4 + 1) (lv' := [(4, .int (x4 + 1)), (3, .int x3), (2, .int t0), (0, .ref this), (5, .int x5)]) (pc := 229) hx hb dX12_look_229 hl rfl rfl (Nat.le_of_ble_eq_true rfl) rfl (fun ls hl => ?_)
      refine lv_goto (tgt := 139) (pc := 232) hx hb dX12_look_232 (by decide) ?_
      exact hK139 t0 x3 (x4 + 1) u_this_thrown u_this_facts_f u_this_pile_f u_this_state_f u_this_lacks_f u_this_alikes_f H locs ls hP hD hS (lv_sub hl [3, 2, 1, 0] rfl) hm
    · rw [if_neg hc] at hm
      refine lv_iload (pc := 222) hx hb dX12_look_222 (lv_at hl 4 rfl) ?_
      refine lv_goto (tgt := 228) (pc := 224) hx hb dX12_look_224 (by decide) ?_
      refine lv_istore_n (lv' := [(3, .int x5), (2, .int t0), (0, .ref this), (4, .int x4), (5, .int x5)]) (pc := 228) hx hb dX12_look_228 rfl hl (Nat.le_of_ble_eq_true rfl) rfl (fun ls hl => ?_)
      refine lv_iinc (k := 3) (v := x4 + 1) (lv' := [(4, .int (x4 + 1)), (3, .int x5), (2, .int t0), (0, .ref this), (5, .int x5)]) (pc := 229) hx hb dX12_look_229 hl rfl rfl (Nat.le_of_ble_eq_true rfl) rfl (fun ls hl => ?_)
      refine lv_goto (tgt := 139) (pc := 232) hx hb dX12_look_232 (by decide) ?_
      exact hK139 t0 x5 (x4 + 1) u_this_thrown u_this_facts_f u_this_pile_f u_this_state_f u_this_lacks_f u_this_alikes_f H locs ls hP hD hS (lv_sub hl [3, 2, 1, 0] rfl) hm
  have h_152 : ∀ (K139 : Int32 → Int32 → Int32 → Int32 → (Nat → Int32) → (Nat → Int32) → (Nat → Int32) → (Nat → Int32) → (Nat → Int32) → Option (Int32 × Int32 × (Nat → Int32) × (Nat → Int32) × (Nat → Int32) × (Nat → Int32) × (Nat → Int32))) (hK139 : ∀ (x2 : Int32) (x3 : Int32) (x4 : Int32) (u_this_thrown : Int32) (u_this_facts_f : Nat → Int32) (u_this_pile_f : Nat → Int32) (u_this_state_f : Nat → Int32) (u_this_lacks_f : Nat → Int32) (u_this_alikes_f : Nat → Int32) (H : Heap) (locs : List Loc) (ls : Array Slot), va_P D vwCl (wd_X12_look k this u_this_thrown this_tape this_taped this_size this_sort this_place this_value this_at this_fault this_words this_towns this_towns_f this_op this_op_f this_arg this_arg_f this_codes this_names this_readNames this_namesMany this_readMany this_once this_lines this_facts u_this_facts_f this_pile u_this_pile_f this_state u_this_state_f this_undos this_isMarked this_weight this_rounding this_lacks u_this_lacks_f this_alikes u_this_alikes_f this_g) H → va_D A (wd_X12_look k this u_this_thrown this_tape this_taped this_size this_sort this_place this_value this_at this_fault this_words this_towns this_towns_f this_op this_op_f this_arg this_arg_f this_codes this_names this_readNames this_namesMany this_readMany this_once this_lines this_facts u_this_facts_f this_pile u_this_pile_f this_state u_this_state_f this_undos this_isMarked this_weight this_rounding this_lacks u_this_lacks_f this_alikes u_this_alikes_f this_g) → va_S A s.heap H locs → lv_has ls 7 [(0, .ref this), (2, .int x2), (3, .int x3), (4, .int x4)] → K139 x2 x3 x4 u_this_thrown u_this_facts_f u_this_pile_f u_this_state_f u_this_lacks_f u_this_alikes_f = some R0 → W p l e (Rm 7 164) s m args below meth c H locs 0 0 (MQ below (QW D (some (.int R0.1)) (wd_X12_look k this this_thrown this_tape this_taped this_size this_sort this_place this_value this_at this_fault this_words this_towns this_towns_f this_op this_op_f this_arg this_arg_f this_codes this_names this_readNames this_namesMany this_readMany this_once this_lines this_facts this_facts_f this_pile this_pile_f this_state this_state_f this_undos this_isMarked this_weight this_rounding this_lacks this_lacks_f this_alikes this_alikes_f this_g) (wd_X12_look k this R0.2.1 this_tape this_taped this_size this_sort this_place this_value this_at this_fault this_words this_towns this_towns_f this_op this_op_f this_arg this_arg_f this_codes this_names this_readNames this_namesMany this_readMany this_once this_lines this_facts R0.2.2.1 this_pile R0.2.2.2.1 this_state R0.2.2.2.2.1 this_undos this_isMarked this_weight this_rounding this_lacks R0.2.2.2.2.2.1 this_alikes R0.2.2.2.2.2.2 this_g) s.heap.size) args s 0 0 A) (F0 m 139 ls [])), ∀ (n : Nat), ∀ (x2 : Int32) (x3 : Int32) (x4 : Int32) (x5 : Int32) (x6 : Int32) (u_this_thrown : Int32) (u_this_facts_f : Nat → Int32) (u_this_pile_f : Nat → Int32) (u_this_state_f : Nat → Int32) (u_this_lacks_f : Nat → Int32) (u_this_alikes_f : Nat → Int32) (H : Heap) (locs : List Loc) (ls : Array Slot), va_P D vwCl (wd_X12_look k this u_this_thrown this_tape this_taped this_size this_sort this_place this_value this_at this_fault this_words this_towns this_towns_f this_op this_op_f this_arg this_arg_f this_codes this_names this_readNames this_namesMany this_readMany this_once this_lines this_facts u_this_facts_f this_pile u_this_pile_f this_state u_this_state_f this_undos this_isMarked this_weight this_rounding this_lacks u_this_lacks_f this_alikes u_this_alikes_f this_g) H → va_D A (wd_X12_look k this u_this_thrown this_tape this_taped this_size this_sort this_place this_value this_at this_fault this_words this_towns this_towns_f this_op this_op_f this_arg this_arg_f this_codes this_names this_readNames this_namesMany this_readMany this_once this_lines this_facts u_this_facts_f this_pile u_this_pile_f this_state u_this_state_f this_undos this_isMarked this_weight this_rounding this_lacks u_this_lacks_f this_alikes u_this_alikes_f this_g) → va_S A s.heap H locs → lv_has ls 7 [(0, .ref this), (2, .int x2), (3, .int x3), (4, .int x4), (5, .int x5), (6, .int x6)] → m_X12_look_152 this_towns_f this_op_f this_arg_f this_weight this_rounding K139 n x2 x3 x4 x5 x6 u_this_thrown u_this_facts_f u_this_pile_f u_this_state_f u_this_lacks_f u_this_alikes_f = some R0 → W p l e (Rm 7 164) s m args below meth c H locs 0 0 (MQ below (QW D (some (.int R0.1)) (wd_X12_look k this this_thrown this_tape this_taped this_size this_sort this_place this_value this_at this_fault this_words this_towns this_towns_f this_op this_op_f this_arg this_arg_f this_codes this_names this_readNames this_namesMany this_readMany this_once this_lines this_facts this_facts_f this_pile this_pile_f this_state this_state_f this_undos this_isMarked this_weight this_rounding this_lacks this_lacks_f this_alikes this_alikes_f this_g) (wd_X12_look k this R0.2.1 this_tape this_taped this_size this_sort this_place this_value this_at this_fault this_words this_towns this_towns_f this_op this_op_f this_arg this_arg_f this_codes this_names this_readNames this_namesMany this_readMany this_once this_lines this_facts R0.2.2.1 this_pile R0.2.2.2.1 this_state R0.2.2.2.2.1 this_undos this_isMarked this_weight this_rounding this_lacks R0.2.2.2.2.2.1 this_alikes R0.2.2.2.2.2.2 this_g) s.heap.size) args s 0 0 A) (F0 m 152 ls []) := by
    intro K139 hK139
    intro n
    induction n with
    | zero => intro x2 x3 x4 x5 x6 u_this_thrown u_this_facts_f u_this_pile_f u_this_state_f u_this_lacks_f u_this_alikes_f H locs ls hP hD hS hl hm; cases hm
    | succ n ih =>
      intro x2 x3 x4 x5 x6 u_this_thrown u_this_facts_f u_this_pile_f u_this_state_f u_this_lacks_f u_this_alikes_f H locs ls hP hD hS hl hm
      unfold m_X12_look_152 at hm
      refine lv_iload (pc := 152) hx hb dX12_look_152 (lv_at hl 5 rfl) ?_
      refine lv_bipush (v := 99) (pc := 154) hx hb dX12_look_154 (by decide) ?_
      refine lv_icmp_gt (tgt := 203) (pc := 156) hx hb dX12_look_156 (by decide) (fun hc => ?_) (fun hc => ?_)
      · rw [if_pos hc] at hm
        refine lv_iload (pc := 203) hx hb dX12_look_203 (lv_at hl 4 rfl) ?_
        refine lv_iload_n (pc := 205) hx hb dX12_look_205 rfl (lv_at hl 2 rfl) ?_
        refine lv_icmp_ge (tgt := 214) (pc := 206) hx hb dX12_look_206 (by decide) (fun hc => ?_) (fun hc => ?_)
        · rw [if_pos hc] at hm
          refine lv_iload_n (pc := 214) hx hb dX12_look_214 rfl (lv_at hl 1 rfl) ?_
          exact h_215 K139 hK139 x3 x4 x5 x2 u_this_thrown u_this_facts_f u_this_pile_f u_this_state_f u_this_lacks_f u_this_alikes_f H locs ls hP hD hS (lv_sub hl [0, 2, 3, 4] rfl) hm
        · rw [if_neg hc] at hm
          refine lv_iload (pc := 209) hx hb dX12_look_209 (lv_at hl 3 rfl) ?_
          refine lv_goto (tgt := 215) (pc := 211) hx hb dX12_look_211 (by decide) ?_
          exact h_215 K139 hK139 x3 x4 x5 x4 u_this_thrown u_this_facts_f u_this_pile_f u_this_state_f u_this_lacks_f u_this_alikes_f H locs ls hP hD hS (lv_sub hl [0, 2, 3, 4] rfl) hm
      · rw [if_neg hc] at hm
        refine lv_aload_n (pc := 159) hx hb dX12_look_159 rfl (lv_at hl 0 rfl) ?_
        refine va_get (pc := 160) (D := D) (ci := 10) (C := RX12) (T := TX12) (N := 30) hx hb hts hiX12 hown hG.1 hP 0 rfl rfl 28 (Nat.le_of_ble_eq_true rfl) (hts _ kw_1285) (fun _ h9 => h9) rfl dX12_look_160 ?_
        refine lv_bipush (v := 100) (pc := 163) hx hb dX12_look_163 (by decide) ?_
        refine lv_iload (pc := 165) hx hb dX12_look_165 (lv_at hl 3 rfl) ?_
        refine lv_imul (pc := 167) hx hb dX12_look_167 ?_
        refine lv_iload (pc := 168) hx hb dX12_look_168 (lv_at hl 5 rfl) ?_
        refine lv_iadd (pc := 170) hx hb dX12_look_170 ?_
        obtain ⟨hin, hm⟩ := gd hm
        refine va_iald (pc := 171) (D := D) hx hb hG.1 hP 8 0 rfl rfl hin dX12_look_171 ?_
        refine lv_iload (pc := 172) hx hb dX12_look_172 (lv_at hl 4 rfl) ?_
        refine lv_icmp_le (tgt := 193) (pc := 174) hx hb dX12_look_174 (by decide) (fun hc => ?_) (fun hc => ?_)
        · rw [if_pos hc] at hm
          refine lv_iload (pc := 193) hx hb dX12_look_193 (lv_at hl 4 rfl) ?_
          refine lv_istore (lv' := [(5, .int x5), (0, .ref this), (2, .int x2), (3, .int x3), (4, .int x4), (6, .int x6)]) (pc := 195) hx hb dX12_look_195 hl (Nat.le_of_ble_eq_true rfl) rfl (fun ls hl => ?_)
          refine lv_iinc (k := 5) (v := x6 + 1) (lv' := [(6, .int (x6 + 1)), (5, .int x5), (0, .ref this), (2, .int x2), (3, .int x3), (4, .int x4)]) (pc := 197) hx hb dX12_look_197 hl rfl rfl (Nat.le_of_ble_eq_true rfl) rfl (fun ls hl => ?_)
          refine lv_goto (tgt := 152) (pc := 200) hx hb dX12_look_200 (by decide) ?_
          exact ih x2 x3 x4 x5 (x6 + 1) u_this_thrown u_this_facts_f u_this_pile_f u_this_state_f u_this_lacks_f u_this_alikes_f H locs ls hP hD hS (lv_sub hl [2, 3, 4, 5, 1, 0] rfl) hm
        · rw [if_neg hc] at hm
          refine lv_aload_n (pc := 177) hx hb dX12_look_177 rfl (lv_at hl 0 rfl) ?_
          refine va_get (pc := 178) (D := D) (ci := 10) (C := RX12) (T := TX12) (N := 30) hx hb hts hiX12 hown hG.1 hP 0 rfl rfl 28 (Nat.le_of_ble_eq_true rfl) (hts _ kw_1285) (fun _ h9 => h9) rfl dX12_look_178 ?_
          refine lv_bipush (v := 100) (pc := 181) hx hb dX12_look_181 (by decide) ?_
          refine lv_iload (pc := 183) hx hb dX12_look_183 (lv_at hl 3 rfl) ?_
          refine lv_imul (pc := 185) hx hb dX12_look_185 ?_
          refine lv_iload (pc := 186) hx hb dX12_look_186 (lv_at hl 5 rfl) ?_
          refine lv_iadd (pc := 188) hx hb dX12_look_188 ?_
          obtain ⟨hin, hm⟩ := gd hm
          refine va_iald (pc := 189) (D := D) hx hb hG.1 hP 8 0 rfl rfl hin dX12_look_189 ?_
          refine lv_goto (tgt := 195) (pc := 190) hx hb dX12_look_190 (by decide) ?_
          obtain ⟨z8, hv, hm⟩ := bd hm
          refine lv_topi (fun w ew => ?_)
          obtain rfl : z8 = w := (Option.some.inj hv).symm.trans ew.symm
          refine lv_istore (lv' := [(5, .int z8), (0, .ref this), (2, .int x2), (3, .int x3), (4, .int x4), (6, .int x6)]) (pc := 195) hx hb dX12_look_195 hl (Nat.le_of_ble_eq_true rfl) rfl (fun ls hl => ?_)
          refine lv_iinc (k := 5) (v := x6 + 1) (lv' := [(6, .int (x6 + 1)), (5, .int z8), (0, .ref this), (2, .int x2), (3, .int x3), (4, .int x4)]) (pc := 197) hx hb dX12_look_197 hl rfl rfl (Nat.le_of_ble_eq_true rfl) rfl (fun ls hl => ?_)
          refine lv_goto (tgt := 152) (pc := 200) hx hb dX12_look_200 (by decide) ?_
          exact ih x2 x3 x4 z8 (x6 + 1) u_this_thrown u_this_facts_f u_this_pile_f u_this_state_f u_this_lacks_f u_this_alikes_f H locs ls hP hD hS (lv_sub hl [2, 3, 4, 5, 1, 0] rfl) hm
  have h_139 : ∀ (n : Nat), ∀ (x2 : Int32) (x3 : Int32) (x4 : Int32) (u_this_thrown : Int32) (u_this_facts_f : Nat → Int32) (u_this_pile_f : Nat → Int32) (u_this_state_f : Nat → Int32) (u_this_lacks_f : Nat → Int32) (u_this_alikes_f : Nat → Int32) (H : Heap) (locs : List Loc) (ls : Array Slot), va_P D vwCl (wd_X12_look k this u_this_thrown this_tape this_taped this_size this_sort this_place this_value this_at this_fault this_words this_towns this_towns_f this_op this_op_f this_arg this_arg_f this_codes this_names this_readNames this_namesMany this_readMany this_once this_lines this_facts u_this_facts_f this_pile u_this_pile_f this_state u_this_state_f this_undos this_isMarked this_weight this_rounding this_lacks u_this_lacks_f this_alikes u_this_alikes_f this_g) H → va_D A (wd_X12_look k this u_this_thrown this_tape this_taped this_size this_sort this_place this_value this_at this_fault this_words this_towns this_towns_f this_op this_op_f this_arg this_arg_f this_codes this_names this_readNames this_namesMany this_readMany this_once this_lines this_facts u_this_facts_f this_pile u_this_pile_f this_state u_this_state_f this_undos this_isMarked this_weight this_rounding this_lacks u_this_lacks_f this_alikes u_this_alikes_f this_g) → va_S A s.heap H locs → lv_has ls 7 [(0, .ref this), (2, .int x2), (3, .int x3), (4, .int x4)] → m_X12_look_139 this_towns_f this_op_f this_arg_f this_weight this_rounding n x2 x3 x4 u_this_thrown u_this_facts_f u_this_pile_f u_this_state_f u_this_lacks_f u_this_alikes_f = some R0 → W p l e (Rm 7 164) s m args below meth c H locs 0 0 (MQ below (QW D (some (.int R0.1)) (wd_X12_look k this this_thrown this_tape this_taped this_size this_sort this_place this_value this_at this_fault this_words this_towns this_towns_f this_op this_op_f this_arg this_arg_f this_codes this_names this_readNames this_namesMany this_readMany this_once this_lines this_facts this_facts_f this_pile this_pile_f this_state this_state_f this_undos this_isMarked this_weight this_rounding this_lacks this_lacks_f this_alikes this_alikes_f this_g) (wd_X12_look k this R0.2.1 this_tape this_taped this_size this_sort this_place this_value this_at this_fault this_words this_towns this_towns_f this_op this_op_f this_arg this_arg_f this_codes this_names this_readNames this_namesMany this_readMany this_once this_lines this_facts R0.2.2.1 this_pile R0.2.2.2.1 this_state R0.2.2.2.2.1 this_undos this_isMarked this_weight this_rounding this_lacks R0.2.2.2.2.2.1 this_alikes R0.2.2.2.2.2.2 this_g) s.heap.size) args s 0 0 A) (F0 m 139 ls []) := by
    intro n
    induction n with
    | zero => intro x2 x3 x4 u_this_thrown u_this_facts_f u_this_pile_f u_this_state_f u_this_lacks_f u_this_alikes_f H locs ls hP hD hS hl hm; cases hm
    | succ n ih =>
      intro x2 x3 x4 u_this_thrown u_this_facts_f u_this_pile_f u_this_state_f u_this_lacks_f u_this_alikes_f H locs ls hP hD hS hl hm
      unfold m_X12_look_139 at hm
      refine lv_iload (pc := 139) hx hb dX12_look_139 (lv_at hl 3 rfl) ?_
      refine lv_bipush (v := 20) (pc := 141) hx hb dX12_look_141 (by decide) ?_
      refine lv_icmp_gt (tgt := 235) (pc := 143) hx hb dX12_look_143 (by decide) (fun hc => ?_) (fun hc => ?_)
      · rw [if_pos hc] at hm
        refine lv_iload_n (pc := 235) hx hb dX12_look_235 rfl (lv_at hl 1 rfl) ?_
        rw [← Option.some.inj hm]
        exact W.iret hx hb hr (fun t ht _ => hq _ _ H t ht hP hD locs hS) hS.2.2 dX12_look_236 hlocks
      · rw [if_neg hc] at hm
        refine lv_iconst (v := 0) (pc := 146) hx hb dX12_look_146 (by decide) ?_
        refine lv_istore (lv' := [(5, .int 0), (0, .ref this), (2, .int x2), (3, .int x3), (4, .int x4)]) (pc := 147) hx hb dX12_look_147 hl (Nat.le_of_ble_eq_true rfl) rfl (fun ls hl => ?_)
        refine lv_iconst (v := 0) (pc := 149) hx hb dX12_look_149 (by decide) ?_
        refine lv_istore (lv' := [(6, .int 0), (5, .int 0), (0, .ref this), (2, .int x2), (3, .int x3), (4, .int x4)]) (pc := 150) hx hb dX12_look_150 hl (Nat.le_of_ble_eq_true rfl) rfl (fun ls hl => ?_)
        exact h_152 (m_X12_look_139 this_towns_f this_op_f this_arg_f this_weight this_rounding n) ih FU x2 x3 x4 0 0 u_this_thrown u_this_facts_f u_this_pile_f u_this_state_f u_this_lacks_f u_this_alikes_f H locs ls hP hD hS (lv_sub hl [2, 3, 4, 5, 1, 0] rfl) hm
  have h_85 : ∀ (K31 : Int32 → Int32 → Int32 → (Nat → Int32) → (Nat → Int32) → (Nat → Int32) → (Nat → Int32) → (Nat → Int32) → Option (Int32 × Int32 × (Nat → Int32) × (Nat → Int32) × (Nat → Int32) × (Nat → Int32) × (Nat → Int32))) (hK31 : ∀ (x1 : Int32) (x2 : Int32) (u_this_thrown : Int32) (u_this_facts_f : Nat → Int32) (u_this_pile_f : Nat → Int32) (u_this_state_f : Nat → Int32) (u_this_lacks_f : Nat → Int32) (u_this_alikes_f : Nat → Int32) (H : Heap) (locs : List Loc) (ls : Array Slot), va_P D vwCl (wd_X12_look k this u_this_thrown this_tape this_taped this_size this_sort this_place this_value this_at this_fault this_words this_towns this_towns_f this_op this_op_f this_arg this_arg_f this_codes this_names this_readNames this_namesMany this_readMany this_once this_lines this_facts u_this_facts_f this_pile u_this_pile_f this_state u_this_state_f this_undos this_isMarked this_weight this_rounding this_lacks u_this_lacks_f this_alikes u_this_alikes_f this_g) H → va_D A (wd_X12_look k this u_this_thrown this_tape this_taped this_size this_sort this_place this_value this_at this_fault this_words this_towns this_towns_f this_op this_op_f this_arg this_arg_f this_codes this_names this_readNames this_namesMany this_readMany this_once this_lines this_facts u_this_facts_f this_pile u_this_pile_f this_state u_this_state_f this_undos this_isMarked this_weight this_rounding this_lacks u_this_lacks_f this_alikes u_this_alikes_f this_g) → va_S A s.heap H locs → lv_has ls 7 [(0, .ref this), (1, .int x1), (2, .int x2)] → K31 x1 x2 u_this_thrown u_this_facts_f u_this_pile_f u_this_state_f u_this_lacks_f u_this_alikes_f = some R0 → W p l e (Rm 7 164) s m args below meth c H locs 0 0 (MQ below (QW D (some (.int R0.1)) (wd_X12_look k this this_thrown this_tape this_taped this_size this_sort this_place this_value this_at this_fault this_words this_towns this_towns_f this_op this_op_f this_arg this_arg_f this_codes this_names this_readNames this_namesMany this_readMany this_once this_lines this_facts this_facts_f this_pile this_pile_f this_state this_state_f this_undos this_isMarked this_weight this_rounding this_lacks this_lacks_f this_alikes this_alikes_f this_g) (wd_X12_look k this R0.2.1 this_tape this_taped this_size this_sort this_place this_value this_at this_fault this_words this_towns this_towns_f this_op this_op_f this_arg this_arg_f this_codes this_names this_readNames this_namesMany this_readMany this_once this_lines this_facts R0.2.2.1 this_pile R0.2.2.2.1 this_state R0.2.2.2.2.1 this_undos this_isMarked this_weight this_rounding this_lacks R0.2.2.2.2.2.1 this_alikes R0.2.2.2.2.2.2 this_g) s.heap.size) args s 0 0 A) (F0 m 31 ls [])), ∀ (n : Nat), ∀ (x1 : Int32) (x2 : Int32) (x3 : Int32) (u_this_thrown : Int32) (u_this_facts_f : Nat → Int32) (u_this_pile_f : Nat → Int32) (u_this_state_f : Nat → Int32) (u_this_lacks_f : Nat → Int32) (u_this_alikes_f : Nat → Int32) (H : Heap) (locs : List Loc) (ls : Array Slot), va_P D vwCl (wd_X12_look k this u_this_thrown this_tape this_taped this_size this_sort this_place this_value this_at this_fault this_words this_towns this_towns_f this_op this_op_f this_arg this_arg_f this_codes this_names this_readNames this_namesMany this_readMany this_once this_lines this_facts u_this_facts_f this_pile u_this_pile_f this_state u_this_state_f this_undos this_isMarked this_weight this_rounding this_lacks u_this_lacks_f this_alikes u_this_alikes_f this_g) H → va_D A (wd_X12_look k this u_this_thrown this_tape this_taped this_size this_sort this_place this_value this_at this_fault this_words this_towns this_towns_f this_op this_op_f this_arg this_arg_f this_codes this_names this_readNames this_namesMany this_readMany this_once this_lines this_facts u_this_facts_f this_pile u_this_pile_f this_state u_this_state_f this_undos this_isMarked this_weight this_rounding this_lacks u_this_lacks_f this_alikes u_this_alikes_f this_g) → va_S A s.heap H locs → lv_has ls 7 [(0, .ref this), (1, .int x1), (2, .int x2), (3, .int x3)] → m_X12_look_85 this_towns_f this_op_f this_arg_f this_weight this_rounding K31 n x1 x2 x3 u_this_thrown u_this_facts_f u_this_pile_f u_this_state_f u_this_lacks_f u_this_alikes_f = some R0 → W p l e (Rm 7 164) s m args below meth c H locs 0 0 (MQ below (QW D (some (.int R0.1)) (wd_X12_look k this this_thrown this_tape this_taped this_size this_sort this_place this_value this_at this_fault this_words this_towns this_towns_f this_op this_op_f this_arg this_arg_f this_codes this_names this_readNames this_namesMany this_readMany this_once this_lines this_facts this_facts_f this_pile this_pile_f this_state this_state_f this_undos this_isMarked this_weight this_rounding this_lacks this_lacks_f this_alikes this_alikes_f this_g) (wd_X12_look k this R0.2.1 this_tape this_taped this_size this_sort this_place this_value this_at this_fault this_words this_towns this_towns_f this_op this_op_f this_arg this_arg_f this_codes this_names this_readNames this_namesMany this_readMany this_once this_lines this_facts R0.2.2.1 this_pile R0.2.2.2.1 this_state R0.2.2.2.2.1 this_undos this_isMarked this_weight this_rounding this_lacks R0.2.2.2.2.2.1 this_alikes R0.2.2.2.2.2.2 this_g) s.heap.size) args s 0 0 A) (F0 m 85 ls []) := by
    intro K31 hK31
    intro n
    induction n with
    | zero => intro x1 x2 x3 u_this_thrown u_this_facts_f u_this_pile_f u_this_state_f u_this_lacks_f u_this_alikes_f H locs ls hP hD hS hl hm; cases hm
    | succ n ih =>
      intro x1 x2 x3 u_this_thrown u_this_facts_f u_this_pile_f u_this_state_f u_this_lacks_f u_this_alikes_f H locs ls hP hD hS hl hm
      unfold m_X12_look_85 at hm
      refine lv_iload_n (pc := 85) hx hb dX12_look_85 rfl (lv_at hl 3 rfl) ?_
      refine lv_bipush (v := 20) (pc := 86) hx hb dX12_look_86 (by decide) ?_
      refine lv_icmp_gt (tgt := 126) (pc := 88) hx hb dX12_look_88 (by decide) (fun hc => ?_) (fun hc => ?_)
      · rw [if_pos hc] at hm
        refine lv_iinc (k := 2) (v := x2 + 1) (lv' := [(2, .int (x2 + 1)), (0, .ref this), (1, .int x1), (3, .int x3)]) (pc := 126) hx hb dX12_look_126 hl rfl rfl (Nat.le_of_ble_eq_true rfl) rfl (fun ls hl => ?_)
        refine lv_goto (tgt := 31) (pc := 129) hx hb dX12_look_129 (by decide) ?_
        exact hK31 x1 (x2 + 1) u_this_thrown u_this_facts_f u_this_pile_f u_this_state_f u_this_lacks_f u_this_alikes_f H locs ls hP hD hS (lv_sub hl [1, 2, 0] rfl) hm
      · rw [if_neg hc] at hm
        refine lv_aload_n (pc := 91) hx hb dX12_look_91 rfl (lv_at hl 0 rfl) ?_
        refine va_get (pc := 92) (D := D) (ci := 10) (C := RX12) (T := TX12) (N := 30) hx hb hts hiX12 hown hG.1 hP 0 rfl rfl 28 (Nat.le_of_ble_eq_true rfl) (hts _ kw_1285) (fun _ h9 => h9) rfl dX12_look_92 ?_
        refine lv_bipush (v := 100) (pc := 95) hx hb dX12_look_95 (by decide) ?_
        refine lv_iload_n (pc := 97) hx hb dX12_look_97 rfl (lv_at hl 3 rfl) ?_
        refine lv_imul (pc := 98) hx hb dX12_look_98 ?_
        refine lv_aload_n (pc := 99) hx hb dX12_look_99 rfl (lv_at hl 0 rfl) ?_
        refine lv_sipush (v := 1008) (pc := 100) hx hb dX12_look_100 (by decide) ?_
        obtain ⟨r9, hcl, hm⟩ := bd hm
        refine cr_back (run_V (pc := 103) (n := 1) (As := [.int 1008]) (rest := [.int (100 * x3), .ref this_alikes]) ⟨hx, hb, hml, hown, hts⟩ (c_X12_highOf l D k this u_this_thrown this_tape this_taped this_size this_sort this_place this_value this_at this_fault this_words this_towns this_towns_f this_op this_arg this_codes this_names this_readNames this_namesMany this_readMany this_once this_lines this_facts this_pile this_state u_this_state_f this_undos this_isMarked this_weight this_rounding this_lacks this_alikes this_g 1008 r9 hcl) ⟨kw_1475, kw_16, by decide +kernel⟩ kw_1472 kw_1474 ks_123 ⟨Nat.le_of_ble_eq_true rfl, Nat.le_of_ble_eq_true rfl⟩ pr_blind (prR (hP.sub [0, 1, 6] rfl) hG) (va_recv hG.1 hP (ci := 10) (q0 := 0) rfl rfl) rfl hl.1 rfl (Nat.le_of_ble_eq_true rfl) dX12_look_103 ⟨Nat.zero_le _, Nat.zero_le _⟩) ?_
        refine lv_iadd (pc := 106) hx hb dX12_look_106 ?_
        refine lv_dup2_11 (pc := 107) hx hb dX12_look_107 rfl rfl ?_
        obtain ⟨hin, hm⟩ := gd hm
        refine va_iald (pc := 108) (D := D) hx hb hG.1 hP 8 0 rfl rfl hin dX12_look_108 ?_
        refine lv_iconst (v := 1) (pc := 109) hx hb dX12_look_109 (by decide) ?_
        refine lv_iadd (pc := 110) hx hb dX12_look_110 ?_
        obtain ⟨hin, hm⟩ := gd hm
        refine va_iast (pc := 111) (D := D) hx hb hG.1 hP hD hS 8 0 rfl rfl hin dX12_look_111 (fun H locs hP hD hS => ?_)
        have hP : va_P D vwCl (wd_X12_look k this u_this_thrown this_tape this_taped this_size this_sort this_place this_value this_at this_fault this_words this_towns this_towns_f this_op this_op_f this_arg this_arg_f this_codes this_names this_readNames this_namesMany this_readMany this_once this_lines this_facts u_this_facts_f this_pile u_this_pile_f this_state u_this_state_f this_undos this_isMarked this_weight this_rounding this_lacks u_this_lacks_f this_alikes (upd u_this_alikes_f ((100 * x3) + r9).toNatClampNeg ((u_this_alikes_f ((100 * x3) + r9).toNatClampNeg) + 1)) this_g) H := hP
        have hD : va_D A (wd_X12_look k this u_this_thrown this_tape this_taped this_size this_sort this_place this_value this_at this_fault this_words this_towns this_towns_f this_op this_op_f this_arg this_arg_f this_codes this_names this_readNames this_namesMany this_readMany this_once this_lines this_facts u_this_facts_f this_pile u_this_pile_f this_state u_this_state_f this_undos this_isMarked this_weight this_rounding this_lacks u_this_lacks_f this_alikes (upd u_this_alikes_f ((100 * x3) + r9).toNatClampNeg ((u_this_alikes_f ((100 * x3) + r9).toNatClampNeg) + 1)) this_g) := hD
        refine lv_aload_n (pc := 112) hx hb dX12_look_112 rfl (lv_at hl 0 rfl) ?_
        refine lv_sipush (v := 1008) (pc := 113) hx hb dX12_look_113 (by decide) ?_
        obtain ⟨r10, hcl, hm⟩ := bd hm
        refine cw_mask (ws' := (wd_X12_look k this u_this_thrown this_tape this_taped this_size this_sort this_place this_value this_at this_fault this_words this_towns this_towns_f this_op this_op_f this_arg this_arg_f this_codes this_names this_readNames this_namesMany this_readMany this_once this_lines this_facts r10.2.1 this_pile r10.2.2.1 this_state r10.2.2.2.1 this_undos this_isMarked this_weight this_rounding this_lacks r10.2.2.2.2 this_alikes (upd u_this_alikes_f ((100 * x3) + r9).toNatClampNeg ((u_this_alikes_f ((100 * x3) + r9).toNatClampNeg) + 1)) this_g)) (run_V (pc := 116) (n := 1) (As := [.int 1008]) (rest := []) ⟨hx, hb, hml, hown, hts⟩ ((c_X12_passes l D k this u_this_thrown this_tape this_taped this_size this_sort this_place this_value this_at this_fault this_words this_towns this_towns_f this_op this_op_f this_arg this_arg_f this_codes this_names this_readNames this_namesMany this_readMany this_once this_lines this_facts u_this_facts_f this_pile u_this_pile_f this_state u_this_state_f this_undos this_isMarked this_weight this_rounding this_lacks u_this_lacks_f this_alikes this_g 1008 r10 hcl) H.size) ⟨kw_1537, kw_16, by decide +kernel⟩ kw_1534 kw_1536 ks_131 ⟨Nat.le_of_ble_eq_true rfl, Nat.le_of_ble_eq_true rfl⟩ pw_blind (prW (P_pick [true, true, true, true, true, true, true, true] rfl hP) hG (D_pick [true, true, true, true, true, true, true, true] rfl hD)) (va_recv hG.1 hP (ci := 10) (q0 := 0) rfl rfl) rfl hl.1 rfl (Nat.le_of_ble_eq_true rfl) dX12_look_116 ⟨Nat.zero_le _, Nat.zero_le _⟩) hP hD hS hA [true, true, true, true, true, true, true, true] rfl rfl rfl (fun H locs hP hD hS => ?_)
        refine lv_pop (pc := 119) hx hb dX12_look_119 rfl ?_
        refine lv_iinc (k := 3) (v := x3 + 1) (lv' := [(3, .int (x3 + 1)), (0, .ref this), (1, .int x1), (2, .int x2)]) (pc := 120) hx hb dX12_look_120 hl rfl rfl (Nat.le_of_ble_eq_true rfl) rfl (fun ls hl => ?_)
        refine lv_goto (tgt := 85) (pc := 123) hx hb dX12_look_123 (by decide) ?_
        exact ih x1 x2 (x3 + 1) u_this_thrown r10.2.1 r10.2.2.1 r10.2.2.2.1 r10.2.2.2.2 (upd u_this_alikes_f ((100 * x3) + r9).toNatClampNeg ((u_this_alikes_f ((100 * x3) + r9).toNatClampNeg) + 1)) H locs ls hP hD hS (lv_sub hl [1, 2, 3, 0] rfl) hm
  have h_31 : ∀ (n : Nat), ∀ (x1 : Int32) (x2 : Int32) (u_this_thrown : Int32) (u_this_facts_f : Nat → Int32) (u_this_pile_f : Nat → Int32) (u_this_state_f : Nat → Int32) (u_this_lacks_f : Nat → Int32) (u_this_alikes_f : Nat → Int32) (H : Heap) (locs : List Loc) (ls : Array Slot), va_P D vwCl (wd_X12_look k this u_this_thrown this_tape this_taped this_size this_sort this_place this_value this_at this_fault this_words this_towns this_towns_f this_op this_op_f this_arg this_arg_f this_codes this_names this_readNames this_namesMany this_readMany this_once this_lines this_facts u_this_facts_f this_pile u_this_pile_f this_state u_this_state_f this_undos this_isMarked this_weight this_rounding this_lacks u_this_lacks_f this_alikes u_this_alikes_f this_g) H → va_D A (wd_X12_look k this u_this_thrown this_tape this_taped this_size this_sort this_place this_value this_at this_fault this_words this_towns this_towns_f this_op this_op_f this_arg this_arg_f this_codes this_names this_readNames this_namesMany this_readMany this_once this_lines this_facts u_this_facts_f this_pile u_this_pile_f this_state u_this_state_f this_undos this_isMarked this_weight this_rounding this_lacks u_this_lacks_f this_alikes u_this_alikes_f this_g) → va_S A s.heap H locs → lv_has ls 7 [(0, .ref this), (1, .int x1), (2, .int x2)] → m_X12_look_31 this_towns_f this_op_f this_arg_f this_weight this_rounding n x1 x2 u_this_thrown u_this_facts_f u_this_pile_f u_this_state_f u_this_lacks_f u_this_alikes_f = some R0 → W p l e (Rm 7 164) s m args below meth c H locs 0 0 (MQ below (QW D (some (.int R0.1)) (wd_X12_look k this this_thrown this_tape this_taped this_size this_sort this_place this_value this_at this_fault this_words this_towns this_towns_f this_op this_op_f this_arg this_arg_f this_codes this_names this_readNames this_namesMany this_readMany this_once this_lines this_facts this_facts_f this_pile this_pile_f this_state this_state_f this_undos this_isMarked this_weight this_rounding this_lacks this_lacks_f this_alikes this_alikes_f this_g) (wd_X12_look k this R0.2.1 this_tape this_taped this_size this_sort this_place this_value this_at this_fault this_words this_towns this_towns_f this_op this_op_f this_arg this_arg_f this_codes this_names this_readNames this_namesMany this_readMany this_once this_lines this_facts R0.2.2.1 this_pile R0.2.2.2.1 this_state R0.2.2.2.2.1 this_undos this_isMarked this_weight this_rounding this_lacks R0.2.2.2.2.2.1 this_alikes R0.2.2.2.2.2.2 this_g) s.heap.size) args s 0 0 A) (F0 m 31 ls []) := by
    intro n
    induction n with
    | zero => intro x1 x2 u_this_thrown u_this_facts_f u_this_pile_f u_this_state_f u_this_lacks_f u_this_alikes_f H locs ls hP hD hS hl hm; cases hm
    | succ n ih =>
      intro x1 x2 u_this_thrown u_this_facts_f u_this_pile_f u_this_state_f u_this_lacks_f u_this_alikes_f H locs ls hP hD hS hl hm
      unfold m_X12_look_31 at hm
      refine lv_iload_n (pc := 31) hx hb dX12_look_31 rfl (lv_at hl 2 rfl) ?_
      refine lv_bipush (v := 20) (pc := 32) hx hb dX12_look_32 (by decide) ?_
      refine lv_aload_n (pc := 34) hx hb dX12_look_34 rfl (lv_at hl 0 rfl) ?_
      obtain ⟨r11, hcl, hm⟩ := bd hm
      refine cr_back (run_V (pc := 35) (n := 0) (As := []) (rest := [.int 20, .int x2]) ⟨hx, hb, hml, hown, hts⟩ (c_X12_persons l D k this u_this_thrown this_tape this_taped this_size this_sort this_place this_value this_at this_fault this_words this_towns this_towns_f this_op this_arg this_codes this_names this_readNames this_namesMany this_readMany this_once this_lines this_facts this_pile this_state this_undos this_isMarked this_weight this_rounding this_lacks this_alikes this_g r11 hcl) ⟨kw_1252, kw_16, by decide +kernel⟩ kw_1249 kw_1251 ks_97 ⟨Nat.le_of_ble_eq_true rfl, Nat.le_of_ble_eq_true rfl⟩ pr_blind (prR (hP.sub [0, 1] rfl) hG) (va_recv hG.1 hP (ci := 10) (q0 := 0) rfl rfl) rfl hl.1 rfl (Nat.le_of_ble_eq_true rfl) dX12_look_35 ⟨Nat.zero_le _, Nat.zero_le _⟩) ?_
      refine lv_imul (pc := 38) hx hb dX12_look_38 ?_
      refine lv_icmp_ge (tgt := 132) (pc := 39) hx hb dX12_look_39 (by decide) (fun hc => ?_) (fun hc => ?_)
      · rw [if_pos hc] at hm
        refine lv_iconst (v := (-1)) (pc := 132) hx hb dX12_look_132 (by decide) ?_
        refine lv_istore_n (lv' := [(2, .int (-1)), (0, .ref this), (1, .int x1)]) (pc := 133) hx hb dX12_look_133 rfl hl (Nat.le_of_ble_eq_true rfl) rfl (fun ls hl => ?_)
        refine lv_iload_n (pc := 134) hx hb dX12_look_134 rfl (lv_at hl 2 rfl) ?_
        refine lv_istore_n (lv' := [(3, .int x1), (2, .int (-1)), (0, .ref this), (1, .int x1)]) (pc := 135) hx hb dX12_look_135 rfl hl (Nat.le_of_ble_eq_true rfl) rfl (fun ls hl => ?_)
        refine lv_iconst (v := 0) (pc := 136) hx hb dX12_look_136 (by decide) ?_
        refine lv_istore (lv' := [(4, .int 0), (3, .int x1), (2, .int (-1)), (0, .ref this), (1, .int x1)]) (pc := 137) hx hb dX12_look_137 hl (Nat.le_of_ble_eq_true rfl) rfl (fun ls hl => ?_)
        exact h_139 FU (-1) x1 0 u_this_thrown u_this_facts_f u_this_pile_f u_this_state_f u_this_lacks_f u_this_alikes_f H locs ls hP hD hS (lv_sub hl [3, 2, 1, 0] rfl) hm
      · rw [if_neg hc] at hm
        refine lv_aload_n (pc := 42) hx hb dX12_look_42 rfl (lv_at hl 0 rfl) ?_
        refine lv_iload_n (pc := 43) hx hb dX12_look_43 rfl (lv_at hl 2 rfl) ?_
        refine lv_bipush (v := 20) (pc := 44) hx hb dX12_look_44 (by decide) ?_
        refine lv_idiv (pc := 46) hx hb dX12_look_46 (by decide) ?_
        refine lv_iconst (v := 1) (pc := 47) hx hb dX12_look_47 (by decide) ?_
        refine lv_iload_n (pc := 48) hx hb dX12_look_48 rfl (lv_at hl 2 rfl) ?_
        refine lv_bipush (v := 20) (pc := 49) hx hb dX12_look_49 (by decide) ?_
        refine lv_irem (pc := 51) hx hb dX12_look_51 (by decide) ?_
        refine lv_iadd (pc := 52) hx hb dX12_look_52 ?_
        obtain ⟨r12, hcl, hm⟩ := bd hm
        refine cw_mask (ws' := (wd_X12_look k this u_this_thrown this_tape this_taped this_size this_sort this_place this_value this_at this_fault this_words this_towns this_towns_f this_op this_op_f this_arg this_arg_f this_codes this_names this_readNames this_namesMany this_readMany this_once this_lines this_facts r12.2.1 this_pile r12.2.2.1 this_state r12.2.2.2.1 this_undos this_isMarked this_weight this_rounding this_lacks r12.2.2.2.2 this_alikes u_this_alikes_f this_g)) (run_V (pc := 53) (n := 2) (As := [.int (x2 / 20), .int (1 + (x2 - x2 / 20 * 20))]) (rest := []) ⟨hx, hb, hml, hown, hts⟩ ((c_X12_isSeen l D k this u_this_thrown this_tape this_taped this_size this_sort this_place this_value this_at this_fault this_words this_towns this_towns_f this_op this_op_f this_arg this_arg_f this_codes this_names this_readNames this_namesMany this_readMany this_once this_lines this_facts u_this_facts_f this_pile u_this_pile_f this_state u_this_state_f this_undos this_isMarked this_weight this_rounding this_lacks u_this_lacks_f this_alikes this_g (x2 / 20) (1 + (x2 - x2 / 20 * 20)) r12 hcl) H.size) ⟨kw_1655, kw_16, by decide +kernel⟩ kw_1652 kw_1654 ks_139 ⟨Nat.le_of_ble_eq_true rfl, Nat.le_of_ble_eq_true rfl⟩ pw_blind (prW (P_pick [true, true, true, true, true, true, true, true] rfl hP) hG (D_pick [true, true, true, true, true, true, true, true] rfl hD)) (va_recv hG.1 hP (ci := 10) (q0 := 0) rfl rfl) rfl hl.1 rfl (Nat.le_of_ble_eq_true rfl) dX12_look_53 ⟨Nat.zero_le _, Nat.zero_le _⟩) hP hD hS hA [true, true, true, true, true, true, true, true] rfl rfl rfl (fun H locs hP hD hS => ?_)
        refine lv_if_eq (tgt := 126) (pc := 56) hx hb dX12_look_56 (by decide) (fun hc => ?_) (fun hc => ?_)
        · rw [if_pos hc] at hm
          refine lv_iinc (k := 2) (v := x2 + 1) (lv' := [(2, .int (x2 + 1)), (0, .ref this), (1, .int x1)]) (pc := 126) hx hb dX12_look_126 hl rfl rfl (Nat.le_of_ble_eq_true rfl) rfl (fun ls hl => ?_)
          refine lv_goto (tgt := 31) (pc := 129) hx hb dX12_look_129 (by decide) ?_
          exact ih x1 (x2 + 1) u_this_thrown r12.2.1 r12.2.2.1 r12.2.2.2.1 r12.2.2.2.2 u_this_alikes_f H locs ls hP hD hS (lv_sub hl [1, 2, 0] rfl) hm
        · rw [if_neg hc] at hm
          refine lv_iinc (k := 1) (v := x1 + 1) (lv' := [(1, .int (x1 + 1)), (0, .ref this), (2, .int x2)]) (pc := 59) hx hb dX12_look_59 hl rfl rfl (Nat.le_of_ble_eq_true rfl) rfl (fun ls hl => ?_)
          refine lv_aload_n (pc := 62) hx hb dX12_look_62 rfl (lv_at hl 1 rfl) ?_
          obtain ⟨r13, hcl, hm⟩ := bd hm
          refine cw_mask (ws' := (wd_X12_look k this u_this_thrown this_tape this_taped this_size this_sort this_place this_value this_at this_fault this_words this_towns this_towns_f this_op this_op_f this_arg this_arg_f this_codes this_names this_readNames this_namesMany this_readMany this_once this_lines this_facts r12.2.1 this_pile r12.2.2.1 this_state r13 this_undos this_isMarked this_weight this_rounding this_lacks r12.2.2.2.2 this_alikes u_this_alikes_f this_g)) (run_V (pc := 63) (n := 0) (As := []) (rest := []) ⟨hx, hb, hml, hown, hts⟩ ((c_X12_triesNow l D k this u_this_thrown this_tape this_taped this_size this_sort this_place this_value this_at this_fault this_words this_towns this_op this_arg this_codes this_names this_readNames this_namesMany this_readMany this_once this_lines this_facts this_pile this_state r12.2.2.2.1 this_undos this_isMarked this_weight this_rounding this_lacks this_alikes this_g r13 hcl) H.size) ⟨kw_1564, kw_16, by decide +kernel⟩ kw_1561 kw_1563 ks_134 ⟨Nat.le_of_ble_eq_true rfl, Nat.le_of_ble_eq_true rfl⟩ pw_blind (prW (P_pick [true, false, false, false, false, false, true] rfl hP) hG (D_pick [true, false, false, false, false, false, true] rfl hD)) (va_recv hG.1 hP (ci := 10) (q0 := 0) rfl rfl) rfl hl.1 rfl (Nat.le_of_ble_eq_true rfl) dX12_look_63 ⟨Nat.zero_le _, Nat.zero_le _⟩) hP hD hS hA [true, false, false, false, false, false, true] rfl rfl rfl (fun H locs hP hD hS => ?_)
          refine lv_aload_n (pc := 66) hx hb dX12_look_66 rfl (lv_at hl 1 rfl) ?_
          refine lv_sipush (v := 1008) (pc := 67) hx hb dX12_look_67 (by decide) ?_
          refine lv_iload_n (pc := 70) hx hb dX12_look_70 rfl (lv_at hl 2 rfl) ?_
          refine lv_bipush (v := 20) (pc := 71) hx hb dX12_look_71 (by decide) ?_
          refine lv_idiv (pc := 73) hx hb dX12_look_73 (by decide) ?_
          refine lv_iconst (v := 1) (pc := 74) hx hb dX12_look_74 (by decide) ?_
          refine lv_iload_n (pc := 75) hx hb dX12_look_75 rfl (lv_at hl 2 rfl) ?_
          refine lv_bipush (v := 20) (pc := 76) hx hb dX12_look_76 (by decide) ?_
          refine lv_irem (pc := 78) hx hb dX12_look_78 (by decide) ?_
          refine lv_iadd (pc := 79) hx hb dX12_look_79 ?_
          obtain ⟨r14, hcl, hm⟩ := bd hm
          refine cw_mask (ws' := (wd_X12_look k this u_this_thrown this_tape this_taped this_size this_sort this_place this_value this_at this_fault this_words this_towns this_towns_f this_op this_op_f this_arg this_arg_f this_codes this_names this_readNames this_namesMany this_readMany this_once this_lines this_facts r12.2.1 this_pile r12.2.2.1 this_state r14 this_undos this_isMarked this_weight this_rounding this_lacks r12.2.2.2.2 this_alikes u_this_alikes_f this_g)) (run_V (pc := 80) (n := 3) (As := [.int 1008, .int (x2 / 20), .int (1 + (x2 - x2 / 20 * 20))]) (rest := []) ⟨hx, hb, hml, hown, hts⟩ ((c_X12_loses l D k this u_this_thrown this_tape this_taped this_size this_sort this_place this_value this_at this_fault this_words this_towns this_op this_arg this_codes this_names this_readNames this_namesMany this_readMany this_once this_lines this_facts this_pile this_state r13 this_undos this_isMarked this_weight this_rounding this_lacks this_alikes this_g 1008 (x2 / 20) (1 + (x2 - x2 / 20 * 20)) r14 hcl) H.size) ⟨kw_1517, kw_16, by decide +kernel⟩ kw_1514 kw_1516 ks_130 ⟨Nat.le_of_ble_eq_true rfl, Nat.le_of_ble_eq_true rfl⟩ pw_blind (prW (P_pick [true, false, false, false, false, false, true] rfl hP) hG (D_pick [true, false, false, false, false, false, true] rfl hD)) (va_recv hG.1 hP (ci := 10) (q0 := 0) rfl rfl) rfl hl.1 rfl (Nat.le_of_ble_eq_true rfl) dX12_look_80 ⟨Nat.zero_le _, Nat.zero_le _⟩) hP hD hS hA [true, false, false, false, false, false, true] rfl rfl rfl (fun H locs hP hD hS => ?_)
          refine lv_iconst (v := 0) (pc := 83) hx hb dX12_look_83 (by decide) ?_
          refine lv_istore_n (lv' := [(3, .int 0), (1, .int (x1 + 1)), (0, .ref this), (2, .int x2)]) (pc := 84) hx hb dX12_look_84 rfl hl (Nat.le_of_ble_eq_true rfl) rfl (fun ls hl => ?_)
          exact h_85 (m_X12_look_31 this_towns_f this_op_f this_arg_f this_weight this_rounding n) ih FU (x1 + 1) x2 0 u_this_thrown r12.2.1 r12.2.2.1 r14 r12.2.2.2.2 u_this_alikes_f H locs ls hP hD hS (lv_sub hl [2, 1, 3, 0] rfl) hm
  have h_7 : ∀ (n : Nat), ∀ (x1 : Int32) (u_this_thrown : Int32) (u_this_facts_f : Nat → Int32) (u_this_pile_f : Nat → Int32) (u_this_state_f : Nat → Int32) (u_this_lacks_f : Nat → Int32) (u_this_alikes_f : Nat → Int32) (H : Heap) (locs : List Loc) (ls : Array Slot), va_P D vwCl (wd_X12_look k this u_this_thrown this_tape this_taped this_size this_sort this_place this_value this_at this_fault this_words this_towns this_towns_f this_op this_op_f this_arg this_arg_f this_codes this_names this_readNames this_namesMany this_readMany this_once this_lines this_facts u_this_facts_f this_pile u_this_pile_f this_state u_this_state_f this_undos this_isMarked this_weight this_rounding this_lacks u_this_lacks_f this_alikes u_this_alikes_f this_g) H → va_D A (wd_X12_look k this u_this_thrown this_tape this_taped this_size this_sort this_place this_value this_at this_fault this_words this_towns this_towns_f this_op this_op_f this_arg this_arg_f this_codes this_names this_readNames this_namesMany this_readMany this_once this_lines this_facts u_this_facts_f this_pile u_this_pile_f this_state u_this_state_f this_undos this_isMarked this_weight this_rounding this_lacks u_this_lacks_f this_alikes u_this_alikes_f this_g) → va_S A s.heap H locs → lv_has ls 7 [(0, .ref this), (1, .int x1)] → m_X12_look_7 this_towns_f this_op_f this_arg_f this_weight this_rounding n x1 u_this_thrown u_this_facts_f u_this_pile_f u_this_state_f u_this_lacks_f u_this_alikes_f = some R0 → W p l e (Rm 7 164) s m args below meth c H locs 0 0 (MQ below (QW D (some (.int R0.1)) (wd_X12_look k this this_thrown this_tape this_taped this_size this_sort this_place this_value this_at this_fault this_words this_towns this_towns_f this_op this_op_f this_arg this_arg_f this_codes this_names this_readNames this_namesMany this_readMany this_once this_lines this_facts this_facts_f this_pile this_pile_f this_state this_state_f this_undos this_isMarked this_weight this_rounding this_lacks this_lacks_f this_alikes this_alikes_f this_g) (wd_X12_look k this R0.2.1 this_tape this_taped this_size this_sort this_place this_value this_at this_fault this_words this_towns this_towns_f this_op this_op_f this_arg this_arg_f this_codes this_names this_readNames this_namesMany this_readMany this_once this_lines this_facts R0.2.2.1 this_pile R0.2.2.2.1 this_state R0.2.2.2.2.1 this_undos this_isMarked this_weight this_rounding this_lacks R0.2.2.2.2.2.1 this_alikes R0.2.2.2.2.2.2 this_g) s.heap.size) args s 0 0 A) (F0 m 7 ls []) := by
    intro n
    induction n with
    | zero => intro x1 u_this_thrown u_this_facts_f u_this_pile_f u_this_state_f u_this_lacks_f u_this_alikes_f H locs ls hP hD hS hl hm; cases hm
    | succ n ih =>
      intro x1 u_this_thrown u_this_facts_f u_this_pile_f u_this_state_f u_this_lacks_f u_this_alikes_f H locs ls hP hD hS hl hm
      unfold m_X12_look_7 at hm
      refine lv_iload_n (pc := 7) hx hb dX12_look_7 rfl (lv_at hl 1 rfl) ?_
      refine lv_sipush (v := 2100) (pc := 8) hx hb dX12_look_8 (by decide) ?_
      refine lv_icmp_ge (tgt := 27) (pc := 11) hx hb dX12_look_11 (by decide) (fun hc => ?_) (fun hc => ?_)
      · rw [if_pos hc] at hm
        refine lv_iconst (v := 0) (pc := 27) hx hb dX12_look_27 (by decide) ?_
        refine lv_istore_n (lv' := [(1, .int 0), (0, .ref this)]) (pc := 28) hx hb dX12_look_28 rfl hl (Nat.le_of_ble_eq_true rfl) rfl (fun ls hl => ?_)
        refine lv_iconst (v := 0) (pc := 29) hx hb dX12_look_29 (by decide) ?_
        refine lv_istore_n (lv' := [(2, .int 0), (1, .int 0), (0, .ref this)]) (pc := 30) hx hb dX12_look_30 rfl hl (Nat.le_of_ble_eq_true rfl) rfl (fun ls hl => ?_)
        exact h_31 FU 0 0 u_this_thrown u_this_facts_f u_this_pile_f u_this_state_f u_this_lacks_f u_this_alikes_f H locs ls hP hD hS (lv_sub hl [2, 1, 0] rfl) hm
      · rw [if_neg hc] at hm
        refine lv_aload_n (pc := 14) hx hb dX12_look_14 rfl (lv_at hl 0 rfl) ?_
        refine va_get (pc := 15) (D := D) (ci := 10) (C := RX12) (T := TX12) (N := 30) hx hb hts hiX12 hown hG.1 hP 0 rfl rfl 28 (Nat.le_of_ble_eq_true rfl) (hts _ kw_1285) (fun _ h9 => h9) rfl dX12_look_15 ?_
        refine lv_iload_n (pc := 18) hx hb dX12_look_18 rfl (lv_at hl 1 rfl) ?_
        refine lv_iconst (v := 0) (pc := 19) hx hb dX12_look_19 (by decide) ?_
        obtain ⟨hin, hm⟩ := gd hm
        refine va_iast (pc := 20) (D := D) hx hb hG.1 hP hD hS 8 0 rfl rfl hin dX12_look_20 (fun H locs hP hD hS => ?_)
        have hP : va_P D vwCl (wd_X12_look k this u_this_thrown this_tape this_taped this_size this_sort this_place this_value this_at this_fault this_words this_towns this_towns_f this_op this_op_f this_arg this_arg_f this_codes this_names this_readNames this_namesMany this_readMany this_once this_lines this_facts u_this_facts_f this_pile u_this_pile_f this_state u_this_state_f this_undos this_isMarked this_weight this_rounding this_lacks u_this_lacks_f this_alikes (upd u_this_alikes_f x1.toNatClampNeg 0) this_g) H := hP
        have hD : va_D A (wd_X12_look k this u_this_thrown this_tape this_taped this_size this_sort this_place this_value this_at this_fault this_words this_towns this_towns_f this_op this_op_f this_arg this_arg_f this_codes this_names this_readNames this_namesMany this_readMany this_once this_lines this_facts u_this_facts_f this_pile u_this_pile_f this_state u_this_state_f this_undos this_isMarked this_weight this_rounding this_lacks u_this_lacks_f this_alikes (upd u_this_alikes_f x1.toNatClampNeg 0) this_g) := hD
        refine lv_iinc (k := 1) (v := x1 + 1) (lv' := [(1, .int (x1 + 1)), (0, .ref this)]) (pc := 21) hx hb dX12_look_21 hl rfl rfl (Nat.le_of_ble_eq_true rfl) rfl (fun ls hl => ?_)
        refine lv_goto (tgt := 7) (pc := 24) hx hb dX12_look_24 (by decide) ?_
        exact ih (x1 + 1) u_this_thrown u_this_facts_f u_this_pile_f u_this_state_f u_this_lacks_f (upd u_this_alikes_f x1.toNatClampNeg 0) H locs ls hP hD hS (lv_sub hl [1, 0] rfl) hm
  unfold m_X12_look at hm
  suffices hgo : ∀ (H : Heap) (locs : List Loc), va_P D vwCl (wd_X12_look k this this_thrown this_tape this_taped this_size this_sort this_place this_value this_at this_fault this_words this_towns this_towns_f this_op this_op_f this_arg this_arg_f this_codes this_names this_readNames this_namesMany this_readMany this_once this_lines this_facts this_facts_f this_pile this_pile_f this_state this_state_f this_undos this_isMarked this_weight this_rounding this_lacks this_lacks_f this_alikes this_alikes_f this_g) H → va_D A (wd_X12_look k this this_thrown this_tape this_taped this_size this_sort this_place this_value this_at this_fault this_words this_towns this_towns_f this_op this_op_f this_arg this_arg_f this_codes this_names this_readNames this_namesMany this_readMany this_once this_lines this_facts this_facts_f this_pile this_pile_f this_state this_state_f this_undos this_isMarked this_weight this_rounding this_lacks this_lacks_f this_alikes this_alikes_f this_g) → va_S A s.heap H locs → W p l e (Rm 7 164) s m args below meth c H locs 0 0 (MQ below (QW D (some (.int R0.1)) (wd_X12_look k this this_thrown this_tape this_taped this_size this_sort this_place this_value this_at this_fault this_words this_towns this_towns_f this_op this_op_f this_arg this_arg_f this_codes this_names this_readNames this_namesMany this_readMany this_once this_lines this_facts this_facts_f this_pile this_pile_f this_state this_state_f this_undos this_isMarked this_weight this_rounding this_lacks this_lacks_f this_alikes this_alikes_f this_g) (wd_X12_look k this R0.2.1 this_tape this_taped this_size this_sort this_place this_value this_at this_fault this_words this_towns this_towns_f this_op this_op_f this_arg this_arg_f this_codes this_names this_readNames this_namesMany this_readMany this_once this_lines this_facts R0.2.2.1 this_pile R0.2.2.2.1 this_state R0.2.2.2.2.1 this_undos this_isMarked this_weight this_rounding this_lacks R0.2.2.2.2.2.1 this_alikes R0.2.2.2.2.2.2 this_g) s.heap.size) args s 0 0 A) (F0 m 0 ls []) from hgo _ _ hP hD hS
  clear hP hD hS
  intro H locs hP hD hS
  refine lv_aload_n (pc := 0) hx hb dX12_look_0 rfl (lv_at hl 0 rfl) ?_
  refine lv_iconst (v := 0) (pc := 1) hx hb dX12_look_1 (by decide) ?_
  refine va_put (pc := 2) (D := D) (ci := 10) (v := .int 0) (ty := .int) (C := RX12) (T := TX12) (N := 30) hx hb hts hiX12 tyX12 tyX12_ok nmX12 hown hG.1 hP hD hS 0 rfl rfl 0 (Nat.le_of_ble_eq_true rfl) (hts _ kw_1257) (fun _ h9 => h9) rfl (by decide +kernel) rfl rfl (Nat.le_of_ble_eq_true rfl) dX12_look_2 (fun H locs hP hD hS => ?_)
  have hP : va_P D vwCl (wd_X12_look k this 0 this_tape this_taped this_size this_sort this_place this_value this_at this_fault this_words this_towns this_towns_f this_op this_op_f this_arg this_arg_f this_codes this_names this_readNames this_namesMany this_readMany this_once this_lines this_facts this_facts_f this_pile this_pile_f this_state this_state_f this_undos this_isMarked this_weight this_rounding this_lacks this_lacks_f this_alikes this_alikes_f this_g) H := hP
  have hD : va_D A (wd_X12_look k this 0 this_tape this_taped this_size this_sort this_place this_value this_at this_fault this_words this_towns this_towns_f this_op this_op_f this_arg this_arg_f this_codes this_names this_readNames this_namesMany this_readMany this_once this_lines this_facts this_facts_f this_pile this_pile_f this_state this_state_f this_undos this_isMarked this_weight this_rounding this_lacks this_lacks_f this_alikes this_alikes_f this_g) := hD
  refine lv_iconst (v := 0) (pc := 5) hx hb dX12_look_5 (by decide) ?_
  refine lv_istore_n (lv' := [(1, .int 0), (0, .ref this)]) (pc := 6) hx hb dX12_look_6 rfl hl (Nat.le_of_ble_eq_true rfl) rfl (fun ls hl => ?_)
  exact h_7 FU 0 0 this_facts_f this_pile_f this_state_f this_lacks_f this_alikes_f H locs ls hP hD hS (lv_sub hl [1, 0] rfl) hm
