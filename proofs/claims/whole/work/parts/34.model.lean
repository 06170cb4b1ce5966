theorem dX12_lacksAll_0 : decode cX12_lacksAll 0 = .ok (.iconst 0, 1) := by decide +kernel
theorem dX12_lacksAll_1 : decode cX12_lacksAll 1 = .ok (.istore_n 2, 1) := by decide +kernel
theorem dX12_lacksAll_2 : decode cX12_lacksAll 2 = .ok (.iconst 0, 1) := by decide +kernel
theorem dX12_lacksAll_3 : decode cX12_lacksAll 3 = .ok (.istore_n 3, 1) := by decide +kernel
theorem dX12_lacksAll_4 : decode cX12_lacksAll 4 = .ok (.iload_n 3, 1) := by decide +kernel
theorem dX12_lacksAll_5 : decode cX12_lacksAll 5 = .ok (.aload_n 0, 1) := by decide +kernel
theorem dX12_lacksAll_6 : decode cX12_lacksAll 6 = .ok (.invokevirtual 255, 3) := by decide +kernel
theorem dX12_lacksAll_9 : decode cX12_lacksAll 9 = .ok (.if_icmp .ge 22, 3) := by decide +kernel
theorem dX12_lacksAll_12 : decode cX12_lacksAll 12 = .ok (.iload_n 2, 1) := by decide +kernel
theorem dX12_lacksAll_13 : decode cX12_lacksAll 13 = .ok (.aload_n 0, 1) := by decide +kernel
theorem dX12_lacksAll_14 : decode cX12_lacksAll 14 = .ok (.getfield 113, 3) := by decide +kernel
theorem dX12_lacksAll_17 : decode cX12_lacksAll 17 = .ok (.iload_n 1, 1) := by decide +kernel
theorem dX12_lacksAll_18 : decode cX12_lacksAll 18 = .ok (.iconst 1, 1) := by decide +kernel
theorem dX12_lacksAll_19 : decode cX12_lacksAll 19 = .ok (.iadd, 1) := by decide +kernel
theorem dX12_lacksAll_20 : decode cX12_lacksAll 20 = .ok (.iload_n 3, 1) := by decide +kernel
theorem dX12_lacksAll_21 : decode cX12_lacksAll 21 = .ok (.iadd, 1) := by decide +kernel
theorem dX12_lacksAll_22 : decode cX12_lacksAll 22 = .ok (.iaload, 1) := by decide +kernel
theorem dX12_lacksAll_23 : decode cX12_lacksAll 23 = .ok (.iadd, 1) := by decide +kernel
theorem dX12_lacksAll_24 : decode cX12_lacksAll 24 = .ok (.istore_n 2, 1) := by decide +kernel
theorem dX12_lacksAll_25 : decode cX12_lacksAll 25 = .ok (.iinc 3 1, 3) := by decide +kernel
theorem dX12_lacksAll_28 : decode cX12_lacksAll 28 = .ok (.goto (-24), 3) := by decide +kernel
theorem dX12_lacksAll_31 : decode cX12_lacksAll 31 = .ok (.iload_n 2, 1) := by decide +kernel
theorem dX12_lacksAll_32 : decode cX12_lacksAll 32 = .ok (.ireturn, 1) := by decide +kernel
abbrev wd_X12_lacksAll (k : Nat → ClassId) (this : Nat) (this_thrown : Int32) (this_tape : Nat) (this_taped : Int32) (this_size : Int32) (this_sort : Nat) (this_place : Nat) (this_value : Nat) (this_at : Int32) (this_fault : Int32) (this_words : Nat) (this_towns : Nat) (this_towns_f : Nat → Int32) (this_op : Nat) (this_arg : Nat) (this_codes : Int32) (this_names : Nat) (this_readNames : Nat) (this_namesMany : Int32) (this_readMany : Int32) (this_once : Int32) (this_lines : Nat) (this_facts : Nat) (this_pile : Nat) (this_state : Nat) (this_state_f : Nat → Int32) (this_undos : Int32) (this_isMarked : Nat) (this_weight : Int32) (this_rounding : Int32) (this_lacks : Nat) (this_alikes : Nat) (this_g : Int64) : va_W := [(this, .inr (10, [.int this_thrown, .ref this_tape, .int this_taped, .int this_size, .ref this_sort, .ref this_place, .ref this_value, .int this_at, .int this_fault, .ref this_words, .ref this_towns, .ref this_op, .ref this_arg, .int this_codes, .ref this_names, .ref this_readNames, .int this_namesMany, .int this_readMany, .int this_once, .ref this_lines, .ref this_facts, .ref this_pile, .ref this_state, .int this_undos, .ref this_isMarked, .int this_weight, .int this_rounding, .ref this_lacks, .ref this_alikes, .long this_g])), (this_towns, .inl (k 0, 60, .inl this_towns_f)), (this_state, .inl (k 0, 1104, .inl this_state_f))]
set_option maxHeartbeats 4000000 in
set_option maxRecDepth 100000 in
theorem c_X12_lacksAll (l : Launch) (D : va_G) (k : Nat → ClassId) (this : Nat) (this_thrown : Int32) (this_tape : Nat) (this_taped : Int32) (this_size : Int32) (this_sort : Nat) (this_place : Nat) (this_value : Nat) (this_at : Int32) (this_fault : Int32) (this_words : Nat) (this_towns : Nat) (this_towns_f : Nat → Int32) (this_op : Nat) (this_arg : Nat) (this_codes : Int32) (this_names : Nat) (this_readNames : Nat) (this_namesMany : Int32) (this_readMany : Int32) (this_once : Int32) (this_lines : Nat) (this_facts : Nat) (this_pile : Nat) (this_state : Nat) (this_state_f : Nat → Int32) (this_undos : Int32) (this_isMarked : Nat) (this_weight : Int32) (this_rounding : Int32) (this_lacks : Nat) (this_alikes : Nat) (this_g : Int64) (q1 : Int32) (R0 : Int32) (hm : m_X12_lacksAll this_towns_f this_state_f q1 = some R0) : CR l D (TY k) yX12_lacksAll cX12_lacksAll 4 (some .int) 1 20 [.ref this, .int q1] (wd_X12_lacksAll k this this_thrown this_tape this_taped this_size this_sort this_place this_value this_at this_fault this_words this_towns this_towns_f this_op this_arg this_codes this_names this_readNames this_namesMany this_readMany this_once this_lines this_facts this_pile this_state this_state_f this_undos this_isMarked this_weight this_rounding this_lacks this_alikes this_g) (some (.int R0)) := by
  refine CR.mk (by decide) (Nat.le_of_ble_eq_true rfl) ?_
  intro p e s m args below meth c ls ⟨hx, hb, hr, hts, hown, hlocks, hml⟩ hP hG hl
  have hl : lv_has ls 4 [(0, .ref this), (1, .int q1)] := hl
  have h_4 : ∀ (n : Nat), ∀ (x2 : Int32) (x3 : Int32) (ls : Array Slot), lv_has ls 4 [(0, .ref this), (1, .int q1), (2, .int x2), (3, .int x3)] → m_X12_lacksAll_4 this_towns_f this_state_f q1 n x2 x3 = some R0 → W p l e (Rm 1 20) s m args below meth c s.heap [] 0 0 (MQ below (QR (some (.int R0))) args s 0 0 (fun _ => False)) (F0 m 4 ls []) := by
    intro n
    induction n with
    | zero => intro x2 x3 ls hl hm; cases hm
    | succ n ih =>
      intro x2 x3 ls hl hm
      unfold m_X12_lacksAll_4 at hm
      refine lv_iload_n (pc := 4) hx hb dX12_lacksAll_4 rfl (lv_at hl 3 rfl) ?_
      refine lv_aload_n (pc := 5) hx hb dX12_lacksAll_5 rfl (lv_at hl 0 rfl) ?_
      obtain ⟨r3, hcl, hm⟩ := bd hm
      refine cr_back (run_V (pc := 6) (n := 0) (As := []) (rest := [.int x3]) ⟨hx, hb, hml, hown, hts⟩ (c_X12_persons l D k this this_thrown this_tape this_taped this_size this_sort this_place this_value this_at this_fault this_words this_towns this_towns_f this_op this_arg this_codes this_names this_readNames this_namesMany this_readMany this_once this_lines this_facts this_pile this_state this_undos this_isMarked this_weight this_rounding this_lacks this_alikes this_g r3 hcl) ⟨kw_1252, kw_16, by decide +kernel⟩ kw_1249 kw_1251 ks_97 ⟨Nat.le_of_ble_eq_true rfl, Nat.le_of_ble_eq_true rfl⟩ pr_blind (prR (hP.sub [0, 1] rfl) hG) (va_recv hG.1 hP (ci := 10) (q0 := 0) rfl rfl) rfl hl.1 rfl (Nat.le_of_ble_eq_true rfl) dX12_lacksAll_6 ⟨Nat.zero_le _, Nat.zero_le _⟩) ?_
      refine lv_icmp_ge (tgt := 31) (pc := 9) hx hb dX12_lacksAll_9 (by decide) (fun hc => ?_) (fun hc => ?_)
      · rw [if_pos hc] at hm
        refine lv_iload_n (pc := 31) hx hb dX12_lacksAll_31 rfl (lv_at hl 2 rfl) ?_
        rw [← Option.some.inj hm]
        exact W.iret hx hb hr (fun t ht _ => ⟨rfl, ht⟩) (fun _ h => by cases h) dX12_lacksAll_32 hlocks
      · rw [if_neg hc] at hm
        refine lv_iload_n (pc := 12) hx hb dX12_lacksAll_12 rfl (lv_at hl 2 rfl) ?_
        refine lv_aload_n (pc := 13) hx hb dX12_lacksAll_13 rfl (lv_at hl 0 rfl) ?_
        refine va_get (pc := 14) (D := D) (ci := 10) (C := RX12) (T := TX12) (N := 30) hx hb hts hiX12 hown hG.1 hP 0 rfl rfl 22 (Nat.le_of_ble_eq_true rfl) (hts _ kw_1279) (fun _ h9 => h9) rfl dX12_lacksAll_14 ?_
        refine lv_iload_n (pc := 17) hx hb dX12_lacksAll_17 rfl (lv_at hl 1 rfl) ?_
        refine lv_iconst (v := 1) (pc := 18) hx hb dX12_lacksAll_18 (by decide) ?_
        refine lv_iadd (pc := 19) hx hb dX12_lacksAll_19 ?_
        refine lv_iload_n (pc := 20) hx hb dX12_lacksAll_20 rfl (lv_at hl 3 rfl) ?_
        refine lv_iadd (pc := 21) hx hb dX12_lacksAll_21 ?_
        obtain ⟨hin, hm⟩ := gd hm
        refine va_iald (pc := 22) (D := D) hx hb hG.1 hP 2 0 rfl rfl hin dX12_lacksAll_22 ?_
        refine lv_iadd (pc := 23) hx hb dX12_lacksAll_23 ?_
        obtain ⟨z4, hv, hm⟩ := bd hm
        refine lv_topi (fun w ew => ?_)
        obtain rfl : z4 = w := (Option.some.inj hv).symm.trans ew.symm
        refine lv_istore_n (lv' := [(2, .int z4), (0, .ref this), (1, .int q1), (3, .int x3)]) (pc := 24) hx hb dX12_lacksAll_24 rfl hl (Nat.le_of_ble_eq_true rfl) rfl (fun ls hl => ?_)
        refine lv_iinc (k := 3) (v := x3 + 1) (lv' := [(3, .int (x3 + 1)), (2, .int z4), (0, .ref this), (1, .int q1)]) (pc := 25) hx hb dX12_lacksAll_25 hl rfl rfl (Nat.le_of_ble_eq_true rfl) rfl (fun ls hl => ?_)
        refine lv_goto (tgt := 4) (pc := 28) hx hb dX12_lacksAll_28 (by decide) ?_
        exact ih z4 (x3 + 1) ls (lv_sub hl [2, 3, 1, 0] rfl) hm
  unfold m_X12_lacksAll at hm
  refine lv_iconst (v := 0) (pc := 0) hx hb dX12_lacksAll_0 (by decide) ?_
  refine lv_istore_n (lv' := [(2, .int 0), (0, .ref this), (1, .int q1)]) (pc := 1) hx hb dX12_lacksAll_1 rfl hl (Nat.le_of_ble_eq_true rfl) rfl (fun ls hl => ?_)
  refine lv_iconst (v := 0) (pc := 2) hx hb dX12_lacksAll_2 (by decide) ?_
  refine lv_istore_n (lv' := [(3, .int 0), (2, .int 0), (0, .ref this), (1, .int q1)]) (pc := 3) hx hb dX12_lacksAll_3 rfl hl (Nat.le_of_ble_eq_true rfl) rfl (fun ls hl => ?_)
  exact h_4 FU 0 0 ls (lv_sub hl [2, 3, 1, 0] rfl) hm
theorem dX12_high_0 : decode cX12_high 0 = .ok (.aload_n 0, 1) := by decide +kernel
theorem dX12_high_1 : decode cX12_high 1 = .ok (.iconst 0, 1) := by decide +kernel
theorem dX12_high_2 : decode cX12_high 2 = .ok (.putfield 1, 3) := by decide +kernel
theorem dX12_high_5 : decode cX12_high 5 = .ok (.aload_n 0, 1) := by decide +kernel
theorem dX12_high_6 : decode cX12_high 6 = .ok (.iconst 0, 1) := by decide +kernel
theorem dX12_high_7 : decode cX12_high 7 = .ok (.invokevirtual 293, 3) := by decide +kernel
theorem dX12_high_10 : decode cX12_high 10 = .ok (.ireturn, 1) := by decide +kernel
abbrev wd_X12_high (k : Nat → ClassId) (this : Nat) (this_thrown : Int32) (this_tape : Nat) (this_taped : Int32) (this_size : Int32) (this_sort : Nat) (this_place : Nat) (this_value : Nat) (this_at : Int32) (this_fault : Int32) (this_words : Nat) (this_towns : Nat) (this_towns_f : Nat → Int32) (this_op : Nat) (this_arg : Nat) (this_codes : Int32) (this_names : Nat) (this_readNames : Nat) (this_namesMany : Int32) (this_readMany : Int32) (this_once : Int32) (this_lines : Nat) (this_facts : Nat) (this_pile : Nat) (this_state : Nat) (this_state_f : Nat → Int32) (this_undos : Int32) (this_isMarked : Nat) (this_weight : Int32) (this_rounding : Int32) (this_lacks : Nat) (this_alikes : Nat) (this_g : Int64) : va_W := [(this, .inr (10, [.int this_thrown, .ref this_tape, .int this_taped, .int this_size, .ref this_sort, .ref this_place, .ref this_value, .int this_at, .int this_fault, .ref this_words, .ref this_towns, .ref this_op, .ref this_arg, .int this_codes, .ref this_names, .ref this_readNames, .int this_namesMany, .int this_readMany, .int this_once, .ref this_lines, .ref this_facts, .ref this_pile, .ref this_state, .int this_undos, .ref this_isMarked, .int this_weight, .int this_rounding, .ref this_lacks, .ref this_alikes, .long this_g])), (this_towns, .inl (k 0, 60, .inl this_towns_f)), (this_state, .inl (k 0, 1104, .inl this_state_f))]
set_option maxHeartbeats 4000000 in
set_option maxRecDepth 100000 in
theorem c_X12_high (l : Launch) (D : va_G) (k : Nat → ClassId) (this : Nat) (this_thrown : Int32) (this_tape : Nat) (this_taped : Int32) (this_size : Int32) (this_sort : Nat) (this_place : Nat) (this_value : Nat) (this_at : Int32) (this_fault : Int32) (this_words : Nat) (this_towns : Nat) (this_towns_f : Nat → Int32) (this_op : Nat) (this_arg : Nat) (this_codes : Int32) (this_names : Nat) (this_readNames : Nat) (this_namesMany : Int32) (this_readMany : Int32) (this_once : Int32) (this_lines : Nat) (this_facts : Nat) (this_pile : Nat) (this_state : Nat) (this_state_f : Nat → Int32) (this_undos : Int32) (this_isMarked : Nat) (this_weight : Int32) (this_rounding : Int32) (this_lacks : Nat) (this_alikes : Nat) (this_g : Int64) (R0 : Int32 × Int32) (hm : m_X12_high this_towns_f this_state_f this_weight this_rounding = some R0) : CW l D (TY k) yX12_high cX12_high 1 (some .int) 4 90 [.ref this] (wd_X12_high k this this_thrown this_tape this_taped this_size this_sort this_place this_value this_at this_fault this_words this_towns this_towns_f this_op this_arg this_codes this_names this_readNames this_namesMany this_readMany this_once this_lines this_facts this_pile this_state this_state_f this_undos this_isMarked this_weight this_rounding this_lacks this_alikes this_g) (some (.int R0.1)) (wd_X12_high k this R0.2 this_tape this_taped this_size this_sort this_place this_value this_at this_fault this_words this_towns this_towns_f this_op this_arg this_codes this_names this_readNames this_namesMany this_readMany this_once this_lines this_facts this_pile this_state this_state_f this_undos this_isMarked this_weight this_rounding this_lacks this_alikes this_g) := by
  refine CW.mk (by decide) (Nat.le_of_ble_eq_true rfl) ?_
  intro p e s m args below meth c ls A ⟨hx, hb, hr, hts, hown, hlocks, hml⟩ hP hG hD hA hl hS hq
  have hl : lv_has ls 1 [(0, .ref this)] := hl
  unfold m_X12_high at hm
  suffices hgo : ∀ (H : Heap) (locs : List Loc), va_P D vwCl (wd_X12_high k this this_thrown this_tape this_taped this_size this_sort this_place this_value this_at this_fault this_words this_towns this_towns_f this_op this_arg this_codes this_names this_readNames this_namesMany this_readMany this_once this_lines this_facts this_pile this_state this_state_f this_undos this_isMarked this_weight this_rounding this_lacks this_alikes this_g) H → va_D A (wd_X12_high k this this_thrown this_tape this_taped this_size this_sort this_place this_value this_at this_fault this_words this_towns this_towns_f this_op this_arg this_codes this_names this_readNames this_namesMany this_readMany this_once this_lines this_facts this_pile this_state this_state_f this_undos this_isMarked this_weight this_rounding this_lacks this_alikes this_g) → va_S A s.heap H locs → W p l e (Rm 4 90) s m args below meth c H locs 0 0 (MQ below (QW D (some (.int R0.1)) (wd_X12_high k this this_thrown this_tape this_taped this_size this_sort this_place this_value this_at this_fault this_words this_towns this_towns_f this_op this_arg this_codes this_names this_readNames this_namesMany this_readMany this_once this_lines this_facts this_pile this_state this_state_f this_undos this_isMarked this_weight this_rounding this_lacks this_alikes this_g) (wd_X12_high k this R0.2 this_tape this_taped this_size this_sort this_place this_value this_at this_fault this_words this_towns this_towns_f this_op this_arg this_codes this_names this_readNames this_namesMany this_readMany this_once this_lines this_facts this_pile this_state this_state_f this_undos this_isMarked this_weight this_rounding this_lacks this_alikes this_g) s.heap.size) args s 0 0 A) (F0 m 0 ls []) from hgo _ _ hP hD hS
  clear hP hD hS
  intro H locs hP hD hS
  refine lv_aload_n (pc := 0) hx hb dX12_high_0 rfl (lv_at hl 0 rfl) ?_
  refine lv_iconst (v := 0) (pc := 1) hx hb dX12_high_1 (by decide) ?_
  refine va_put (pc := 2) (D := D) (ci := 10) (v := .int 0) (ty := .int) (C := RX12) (T := TX12) (N := 30) hx hb hts hiX12 tyX12 tyX12_ok nmX12 hown hG.1 hP hD hS 0 rfl rfl 0 (Nat.le_of_ble_eq_true rfl) (hts _ kw_1257) (fun _ h9 => h9) rfl (by decide +kernel) rfl rfl (Nat.le_of_ble_eq_true rfl) dX12_high_2 (fun H locs hP hD hS => ?_)
  have hP : va_P D vwCl (wd_X12_high k this 0 this_tape this_taped this_size this_sort this_place this_value this_at this_fault this_words this_towns this_towns_f this_op this_arg this_codes this_names this_readNames this_namesMany this_readMany this_once this_lines this_facts this_pile this_state this_state_f this_undos this_isMarked this_weight this_rounding this_lacks this_alikes this_g) H := hP
  have hD : va_D A (wd_X12_high k this 0 this_tape this_taped this_size this_sort this_place this_value this_at this_fault this_words this_towns this_towns_f this_op this_arg this_codes this_names this_readNames this_namesMany this_readMany this_once this_lines this_facts this_pile this_state this_state_f this_undos this_isMarked this_weight this_rounding this_lacks this_alikes this_g) := hD
  refine lv_aload_n (pc := 5) hx hb dX12_high_5 rfl (lv_at hl 0 rfl) ?_
  refine lv_iconst (v := 0) (pc := 6) hx hb dX12_high_6 (by decide) ?_
  obtain ⟨r2, hcl, hm⟩ := bd hm
  refine cr_back (run_V (pc := 7) (n := 1) (As := [.int 0]) (rest := []) ⟨hx, hb, hml, hown, hts⟩ (c_X12_highOf l D k this 0 this_tape this_taped this_size this_sort this_place this_value this_at this_fault this_words this_towns this_towns_f this_op this_arg this_codes this_names this_readNames this_namesMany this_readMany this_once this_lines this_facts this_pile this_state this_state_f this_undos this_isMarked this_weight this_rounding this_lacks this_alikes this_g 0 r2 hcl) ⟨kw_1475, kw_16, by decide +kernel⟩ kw_1472 kw_1474 ks_123 ⟨Nat.le_of_ble_eq_true rfl, Nat.le_of_ble_eq_true rfl⟩ pr_blind (prR (hP.sub [0, 1, 2] rfl) hG) (va_recv hG.1 hP (ci := 10) (q0 := 0) rfl rfl) rfl hl.1 rfl (Nat.le_of_ble_eq_true rfl) dX12_high_7 ⟨Nat.zero_le _, Nat.zero_le _⟩) ?_
  rw [← Option.some.inj hm]
  exact W.iret hx hb hr (fun t ht _ => hq _ _ H t ht hP hD locs hS) hS.2.2 dX12_high_10 hlocks
theorem dX12_person_0 : decode cX12_person 0 = .ok (.aload_n 0, 1) := by decide +kernel
theorem dX12_person_1 : decode cX12_person 1 = .ok (.iconst 0, 1) := by decide +kernel
theorem dX12_person_2 : decode cX12_person 2 = .ok (.putfield 1, 3) := by decide +kernel
theorem dX12_person_5 : decode cX12_person 5 = .ok (.aload_n 0, 1) := by decide +kernel
theorem dX12_person_6 : decode cX12_person 6 = .ok (.iload_n 1, 1) := by decide +kernel
theorem dX12_person_7 : decode cX12_person 7 = .ok (.invokevirtual 303, 3) := by decide +kernel
theorem dX12_person_10 : decode cX12_person 10 = .ok (.ifCond .eq 12, 3) := by decide +kernel
theorem dX12_person_13 : decode cX12_person 13 = .ok (.iload_n 2, 1) := by decide +kernel
theorem dX12_person_14 : decode cX12_person 14 = .ok (.iconst 0, 1) := by decide +kernel
theorem dX12_person_15 : decode cX12_person 15 = .ok (.iconst 3, 1) := by decide +kernel
theorem dX12_person_16 : decode cX12_person 16 = .ok (.invokestatic 306, 3) := by decide +kernel
theorem dX12_person_19 : decode cX12_person 19 = .ok (.ifCond .ne 6, 3) := by decide +kernel
theorem dX12_person_22 : decode cX12_person 22 = .ok (.bipush (-2), 2) := by decide +kernel
theorem dX12_person_24 : decode cX12_person 24 = .ok (.ireturn, 1) := by decide +kernel
theorem dX12_person_25 : decode cX12_person 25 = .ok (.iload_n 2, 1) := by decide +kernel
theorem dX12_person_26 : decode cX12_person 26 = .ok (.ifCond .ne 12, 3) := by decide +kernel
theorem dX12_person_29 : decode cX12_person 29 = .ok (.aload_n 0, 1) := by decide +kernel
theorem dX12_person_30 : decode cX12_person 30 = .ok (.iload_n 1, 1) := by decide +kernel
theorem dX12_person_31 : decode cX12_person 31 = .ok (.iconst 0, 1) := by decide +kernel
theorem dX12_person_32 : decode cX12_person 32 = .ok (.invokevirtual 259, 3) := by decide +kernel
theorem dX12_person_35 : decode cX12_person 35 = .ok (.goto 42, 3) := by decide +kernel
theorem dX12_person_38 : decode cX12_person 38 = .ok (.iload_n 2, 1) := by decide +kernel
theorem dX12_person_39 : decode cX12_person 39 = .ok (.iconst 1, 1) := by decide +kernel
theorem dX12_person_40 : decode cX12_person 40 = .ok (.if_icmp .ne 14, 3) := by decide +kernel
theorem dX12_person_43 : decode cX12_person 43 = .ok (.aload_n 0, 1) := by decide +kernel
theorem dX12_person_44 : decode cX12_person 44 = .ok (.getfield 113, 3) := by decide +kernel
theorem dX12_person_47 : decode cX12_person 47 = .ok (.iconst 1, 1) := by decide +kernel
theorem dX12_person_48 : decode cX12_person 48 = .ok (.iload_n 1, 1) := by decide +kernel
theorem dX12_person_49 : decode cX12_person 49 = .ok (.iadd, 1) := by decide +kernel
theorem dX12_person_50 : decode cX12_person 50 = .ok (.iaload, 1) := by decide +kernel
theorem dX12_person_51 : decode cX12_person 51 = .ok (.goto 26, 3) := by decide +kernel
theorem dX12_person_54 : decode cX12_person 54 = .ok (.iload_n 2, 1) := by decide +kernel
theorem dX12_person_55 : decode cX12_person 55 = .ok (.iconst 2, 1) := by decide +kernel
theorem dX12_person_56 : decode cX12_person 56 = .ok (.if_icmp .ne 12, 3) := by decide +kernel
theorem dX12_person_59 : decode cX12_person 59 = .ok (.aload_n 0, 1) := by decide +kernel
theorem dX12_person_60 : decode cX12_person 60 = .ok (.iconst 0, 1) := by decide +kernel
theorem dX12_person_61 : decode cX12_person 61 = .ok (.iload_n 1, 1) := by decide +kernel
theorem dX12_person_62 : decode cX12_person 62 = .ok (.invokevirtual 281, 3) := by decide +kernel
theorem dX12_person_65 : decode cX12_person 65 = .ok (.goto 12, 3) := by decide +kernel
theorem dX12_person_68 : decode cX12_person 68 = .ok (.aload_n 0, 1) := by decide +kernel
theorem dX12_person_69 : decode cX12_person 69 = .ok (.getfield 113, 3) := by decide +kernel
theorem dX12_person_72 : decode cX12_person 72 = .ok (.bipush 7, 2) := by decide +kernel
theorem dX12_person_74 : decode cX12_person 74 = .ok (.iload_n 1, 1) := by decide +kernel
theorem dX12_person_75 : decode cX12_person 75 = .ok (.iadd, 1) := by decide +kernel
theorem dX12_person_76 : decode cX12_person 76 = .ok (.iaload, 1) := by decide +kernel
theorem dX12_person_77 : decode cX12_person 77 = .ok (.ireturn, 1) := by decide +kernel
abbrev wd_X12_person (k : Nat → ClassId) (this : Nat) (this_thrown : Int32) (this_tape : Nat) (this_taped : Int32) (this_size : Int32) (this_sort : Nat) (this_place : Nat) (this_value : Nat) (this_at : Int32) (this_fault : Int32) (this_words : Nat) (this_towns : Nat) (this_towns_f : Nat → Int32) (this_op : Nat) (this_arg : Nat) (this_codes : Int32) (this_names : Nat) (this_readNames : Nat) (this_namesMany : Int32) (this_readMany : Int32) (this_once : Int32) (this_lines : Nat) (this_facts : Nat) (this_pile : Nat) (this_state : Nat) (this_state_f : Nat → Int32) (this_undos : Int32) (this_isMarked : Nat) (this_weight : Int32) (this_rounding : Int32) (this_lacks : Nat) (this_alikes : Nat) (this_g : Int64) : va_W := [(this, .inr (10, [.int this_thrown, .ref this_tape, .int this_taped, .int this_size, .ref this_sort, .ref this_place, .ref this_value, .int this_at, .int this_fault, .ref this_words, .ref this_towns, .ref this_op, .ref this_arg, .int this_codes, .ref this_names, .ref this_readNames, .int this_namesMany, .int this_readMany, .int this_once, .ref this_lines, .ref this_facts, .ref this_pile, .ref this_state, .int this_undos, .ref this_isMarked, .int this_weight, .int this_rounding, .ref this_lacks, .ref this_alikes, .long this_g])), (this_towns, .inl (k 0, 60, .inl this_towns_f)), (this_state, .inl (k 0, 1104, .inl this_state_f))]
set_option maxHeartbeats 4000000 in
set_option maxRecDepth 100000 in
theorem c_X12_person (l : Launch) (D : va_G) (k : Nat → ClassId) (this : Nat) (this_thrown : Int32) (this_tape : Nat) (this_taped : Int32) (this_size : Int32) (this_sort : Nat) (this_place : Nat) (this_value : Nat) (this_at : Int32) (this_fault : Int32) (this_words : Nat) (this_towns : Nat) (this_towns_f : Nat → Int32) (this_op : Nat) (this_arg : Nat) (this_codes : Int32) (this_names : Nat) (this_readNames : Nat) (this_namesMany : Int32) (this_readMany : Int32) (this_once : Int32) (this_lines : Nat) (this_facts : Nat) (this_pile : Nat) (this_state : Nat) (this_state_f : Nat → Int32) (this_undos : Int32) (this_isMarked : Nat) (this_weight : Int32) (this_rounding : Int32) (this_lacks : Nat) (this_alikes : Nat) (this_g : Int64) (q1 : Int32) (q2 : Int32) (R0 : Int32 × Int32) (hm : m_X12_person this_towns_f this_state_f q1 q2 = some R0) : CW l D (TY k) yX12_person cX12_person 3 (some .int) 2 46 [.ref this, .int q1, .int q2] (wd_X12_person k this this_thrown this_tape this_taped this_size this_sort this_place this_value this_at this_fault this_words this_towns this_towns_f this_op this_arg this_codes this_names this_readNames this_namesMany this_readMany this_once this_lines this_facts this_pile this_state this_state_f this_undos this_isMarked this_weight this_rounding this_lacks this_alikes this_g) (some (.int R0.1)) (wd_X12_person k this R0.2 this_tape this_taped this_size this_sort this_place this_value this_at this_fault this_words this_towns this_towns_f this_op this_arg this_codes this_names this_readNames this_namesMany this_readMany this_once this_lines this_facts this_pile this_state this_state_f this_undos this_isMarked this_weight this_rounding this_lacks this_alikes this_g) := by
  refine CW.mk (by decide) (Nat.le_of_ble_eq_true rfl) ?_
  intro p e s m args below meth c ls A ⟨hx, hb, hr, hts, hown, hlocks, hml⟩ hP hG hD hA hl hS hq
  have hl : lv_has ls 3 [(0, .ref this), (1, .int q1), (2, .int q2)] := hl
  unfold m_X12_person at hm
  suffices hgo : ∀ (H : Heap) (locs : List Loc), va_P D vwCl (wd_X12_person k this this_thrown this_tape this_taped this_size this_sort this_place this_value this_at this_fault this_words this_towns this_towns_f this_op this_arg this_codes this_names this_readNames this_namesMany this_readMany this_once this_lines this_facts this_pile this_state this_state_f this_undos this_isMarked this_weight this_rounding this_lacks this_alikes this_g) H → va_D A (wd_X12_person k this this_thrown this_tape this_taped this_size this_sort this_place this_value this_at this_fault this_words this_towns this_towns_f this_op this_arg this_codes this_names this_readNames this_namesMany this_readMany this_once this_lines this_facts this_pile this_state this_state_f this_undos this_isMarked this_weight this_rounding this_lacks this_alikes this_g) → va_S A s.heap H locs → W p l e (Rm 2 46) s m args below meth c H locs 0 0 (MQ below (QW D (some (.int R0.1)) (wd_X12_person k this this_thrown this_tape this_taped this_size this_sort this_place this_value this_at this_fault this_words this_towns this_towns_f this_op this_arg this_codes this_names this_readNames this_namesMany this_readMany this_once this_lines this_facts this_pile this_state this_state_f this_undos this_isMarked this_weight this_rounding this_lacks this_alikes this_g) (wd_X12_person k this R0.2 this_tape this_taped this_size this_sort this_place this_value this_at this_fault this_words this_towns this_towns_f this_op this_arg this_codes this_names this_readNames this_namesMany this_readMany this_once this_lines this_facts this_pile this_state this_state_f this_undos this_isMarked this_weight this_rounding this_lacks this_alikes this_g) s.heap.size) args s 0 0 A) (F0 m 0 ls []) from hgo _ _ hP hD hS
  clear hP hD hS
  intro H locs hP hD hS
  refine lv_aload_n (pc := 0) hx hb dX12_person_0 rfl (lv_at hl 0 rfl) ?_
  refine lv_iconst (v := 0) (pc := 1) hx hb dX12_person_1 (by decide) ?_
  refine va_put (pc := 2) (D := D) (ci := 10) (v := .int 0) (ty := .int) (C := RX12) (T := TX12) (N := 30) hx hb hts hiX12 tyX12 tyX12_ok nmX12 hown hG.1 hP hD hS 0 rfl rfl 0 (Nat.le_of_ble_eq_true rfl) (hts _ kw_1257) (fun _ h9 => h9) rfl (by decide +kernel) rfl rfl (Nat.le_of_ble_eq_true rfl) dX12_person_2 (fun H locs hP hD hS => ?_)
  have hP : va_P D vwCl (wd_X12_person k this 0 this_tape this_taped this_size this_sort this_place this_value this_at this_fault this_words this_towns this_towns_f this_op this_arg this_codes this_names this_readNames this_namesMany this_readMany this_once this_lines this_facts this_pile this_state this_state_f this_undos this_isMarked this_weight this_rounding this_lacks this_alikes this_g) H := hP
  have hD : va_D A (wd_X12_person k this 0 this_tape this_taped this_size this_sort this_place this_value this_at this_fault this_words this_towns this_towns_f this_op this_arg this_codes this_names this_readNames this_namesMany this_readMany this_once this_lines this_facts this_pile this_state this_state_f this_undos this_isMarked this_weight this_rounding this_lacks this_alikes this_g) := hD
  refine lv_aload_n (pc := 5) hx hb dX12_person_5 rfl (lv_at hl 0 rfl) ?_
  refine lv_iload_n (pc := 6) hx hb dX12_person_6 rfl (lv_at hl 1 rfl) ?_
  obtain ⟨r5, hcl, hm⟩ := bd hm
  refine cr_back (run_V (pc := 7) (n := 1) (As := [.int q1]) (rest := []) ⟨hx, hb, hml, hown, hts⟩ (c_X12_isPerson l D k this 0 this_tape this_taped this_size this_sort this_place this_value this_at this_fault this_words this_towns this_towns_f this_op this_arg this_codes this_names this_readNames this_namesMany this_readMany this_once this_lines this_facts this_pile this_state this_undos this_isMarked this_weight this_rounding this_lacks this_alikes this_g q1 r5 hcl) ⟨kw_1498, kw_16, by decide +kernel⟩ kw_1495 kw_1497 ks_127 ⟨Nat.le_of_ble_eq_true rfl, Nat.le_of_ble_eq_true rfl⟩ pr_blind (prR (hP.sub [0, 1] rfl) hG) (va_recv hG.1 hP (ci := 10) (q0 := 0) rfl rfl) rfl hl.1 rfl (Nat.le_of_ble_eq_true rfl) dX12_person_7 ⟨Nat.zero_le _, Nat.zero_le _⟩) ?_
  refine lv_if_eq (tgt := 22) (pc := 10) hx hb dX12_person_10 (by decide) (fun hc => ?_) (fun hc => ?_)
  · rw [if_pos hc] at hm
    refine lv_bipush (v := (-2)) (pc := 22) hx hb dX12_person_22 (by decide) ?_
    rw [← Option.some.inj hm]
    exact W.iret hx hb hr (fun t ht _ => hq _ _ H t ht hP hD locs hS) hS.2.2 dX12_person_24 hlocks
  · rw [if_neg hc] at hm
    refine lv_iload_n (pc := 13) hx hb dX12_person_13 rfl (lv_at hl 2 rfl) ?_
    refine lv_iconst (v := 0) (pc := 14) hx hb dX12_person_14 (by decide) ?_
    refine lv_iconst (v := 3) (pc := 15) hx hb dX12_person_15 (by decide) ?_
    obtain ⟨r6, hcl, hm⟩ := bd hm
    refine cr_back (run_S (pc := 16) (n := 3) (As := [.int q2, .int 0, .int 3]) (rest := []) ⟨hx, hb, hml, hown, hts⟩ (c_X12_within l D k q2 0 3 r6 hcl) ⟨kw_1501, kw_16, by decide +kernel⟩ kw_1499 kw_1500 ⟨Nat.le_of_ble_eq_true rfl, Nat.le_of_ble_eq_true rfl⟩ pr_blind (prR (hP.sub [] rfl) hG) rfl hl.1 rfl (Nat.le_of_ble_eq_true rfl) dX12_person_16 ⟨Nat.zero_le _, Nat.zero_le _⟩) ?_
    refine lv_if_ne (tgt := 25) (pc := 19) hx hb dX12_person_19 (by decide) (fun hc => ?_) (fun hc => ?_)
    · rw [if_neg hc] at hm
      refine lv_iload_n (pc := 25) hx hb dX12_person_25 rfl (lv_at hl 2 rfl) ?_
      refine lv_if_ne (tgt := 38) (pc := 26) hx hb dX12_person_26 (by decide) (fun hc => ?_) (fun hc => ?_)
      · rw [if_neg hc] at hm
        refine lv_iload_n (pc := 38) hx hb dX12_person_38 rfl (lv_at hl 2 rfl) ?_
        refine lv_iconst (v := 1) (pc := 39) hx hb dX12_person_39 (by decide) ?_
        refine lv_icmp_ne (tgt := 54) (pc := 40) hx hb dX12_person_40 (by decide) (fun hc => ?_) (fun hc => ?_)
        · rw [if_neg hc] at hm
          refine lv_iload_n (pc := 54) hx hb dX12_person_54 rfl (lv_at hl 2 rfl) ?_
          refine lv_iconst (v := 2) (pc := 55) hx hb dX12_person_55 (by decide) ?_
          refine lv_icmp_ne (tgt := 68) (pc := 56) hx hb dX12_person_56 (by decide) (fun hc => ?_) (fun hc => ?_)
          · rw [if_neg hc] at hm
            refine lv_aload_n (pc := 68) hx hb dX12_person_68 rfl (lv_at hl 0 rfl) ?_
            refine va_get (pc := 69) (D := D) (ci := 10) (C := RX12) (T := TX12) (N := 30) hx hb hts hiX12 hown hG.1 hP 0 rfl rfl 22 (Nat.le_of_ble_eq_true rfl) (hts _ kw_1279) (fun _ h9 => h9) rfl dX12_person_69 ?_
            refine lv_bipush (v := 7) (pc := 72) hx hb dX12_person_72 (by decide) ?_
            refine lv_iload_n (pc := 74) hx hb dX12_person_74 rfl (lv_at hl 1 rfl) ?_
            refine lv_iadd (pc := 75) hx hb dX12_person_75 ?_
            obtain ⟨hin, hm⟩ := gd hm
            refine va_iald (pc := 76) (D := D) hx hb hG.1 hP 2 0 rfl rfl hin dX12_person_76 ?_
            rw [← Option.some.inj hm]
            exact W.iret hx hb hr (fun t ht _ => hq _ _ H t ht hP hD locs hS) hS.2.2 dX12_person_77 hlocks
          · rw [if_pos hc] at hm
            refine lv_aload_n (pc := 59) hx hb dX12_person_59 rfl (lv_at hl 0 rfl) ?_
            refine lv_iconst (v := 0) (pc := 60) hx hb dX12_person_60 (by decide) ?_
            refine lv_iload_n (pc := 61) hx hb dX12_person_61 rfl (lv_at hl 1 rfl) ?_
            obtain ⟨r7, hcl, hm⟩ := bd hm
            refine cr_back (run_V (pc := 62) (n := 2) (As := [.int 0, .int q1]) (rest := []) ⟨hx, hb, hml, hown, hts⟩ (c_X12_weighsOf l D k this 0 this_tape this_taped this_size this_sort this_place this_value this_at this_fault this_words this_towns this_towns_f this_op this_arg this_codes this_names this_readNames this_namesMany this_readMany this_once this_lines this_facts this_pile this_state this_state_f this_undos this_isMarked this_weight this_rounding this_lacks this_alikes this_g 0 q1 r7 hcl) ⟨kw_1483, kw_16, by decide +kernel⟩ kw_1480 kw_1482 ks_125 ⟨Nat.le_of_ble_eq_true rfl, Nat.le_of_ble_eq_true rfl⟩ pr_blind (prR (hP.sub [0, 1, 2] rfl) hG) (va_recv hG.1 hP (ci := 10) (q0 := 0) rfl rfl) rfl hl.1 rfl (Nat.le_of_ble_eq_true rfl) dX12_person_62 ⟨Nat.zero_le _, Nat.zero_le _⟩) ?_
            refine lv_goto (tgt := 77) (pc := 65) hx hb dX12_person_65 (by decide) ?_
            rw [← Option.some.inj hm]
            exact W.iret hx hb hr (fun t ht _ => hq _ _ H t ht hP hD locs hS) hS.2.2 dX12_person_77 hlocks
        · rw [if_pos hc] at hm
          refine lv_aload_n (pc := 43) hx hb dX12_person_43 rfl (lv_at hl 0 rfl) ?_
          refine va_get (pc := 44) (D := D) (ci := 10) (C := RX12) (T := TX12) (N := 30) hx hb hts hiX12 hown hG.1 hP 0 rfl rfl 22 (Nat.le_of_ble_eq_true rfl) (hts _ kw_1279) (fun _ h9 => h9) rfl dX12_person_44 ?_
          refine lv_iconst (v := 1) (pc := 47) hx hb dX12_person_47 (by decide) ?_
          refine lv_iload_n (pc := 48) hx hb dX12_person_48 rfl (lv_at hl 1 rfl) ?_
          refine lv_iadd (pc := 49) hx hb dX12_person_49 ?_
          obtain ⟨hin, hm⟩ := gd hm
          refine va_iald (pc := 50) (D := D) hx hb hG.1 hP 2 0 rfl rfl hin dX12_person_50 ?_
          refine lv_goto (tgt := 77) (pc := 51) hx hb dX12_person_51 (by decide) ?_
          rw [← Option.some.inj hm]
          exact W.iret hx hb hr (fun t ht _ => hq _ _ H t ht hP hD locs hS) hS.2.2 dX12_person_77 hlocks
      · rw [if_pos hc] at hm
        refine lv_aload_n (pc := 29) hx hb dX12_person_29 rfl (lv_at hl 0 rfl) ?_
        refine lv_iload_n (pc := 30) hx hb dX12_person_30 rfl (lv_at hl 1 rfl) ?_
        refine lv_iconst (v := 0) (pc := 31) hx hb dX12_person_31 (by decide) ?_
        obtain ⟨r8, hcl, hm⟩ := bd hm
        refine cr_back (run_V (pc := 32) (n := 2) (As := [.int q1, .int 0]) (rest := []) ⟨hx, hb, hml, hown, hts⟩ (c_X12_personOf l D k this 0 this_tape this_taped this_size this_sort this_place this_value this_at this_fault this_words this_towns this_towns_f this_op this_arg this_codes this_names this_readNames this_namesMany this_readMany this_once this_lines this_facts this_pile this_state this_undos this_isMarked this_weight this_rounding this_lacks this_alikes this_g q1 0 r8 hcl) ⟨kw_1256, kw_16, by decide +kernel⟩ kw_1253 kw_1255 ks_98 ⟨Nat.le_of_ble_eq_true rfl, Nat.le_of_ble_eq_true rfl⟩ pr_blind (prR (hP.sub [0, 1] rfl) hG) (va_recv hG.1 hP (ci := 10) (q0 := 0) rfl rfl) rfl hl.1 rfl (Nat.le_of_ble_eq_true rfl) dX12_person_32 ⟨Nat.zero_le _, Nat.zero_le _⟩) ?_
        refine lv_goto (tgt := 77) (pc := 35) hx hb dX12_person_35 (by decide) ?_
        rw [← Option.some.inj hm]
        exact W.iret hx hb hr (fun t ht _ => hq _ _ H t ht hP hD locs hS) hS.2.2 dX12_person_77 hlocks
    · rw [if_pos hc] at hm
      refine lv_bipush (v := (-2)) (pc := 22) hx hb dX12_person_22 (by decide) ?_
      rw [← Option.some.inj hm]
      exact W.iret hx hb hr (fun t ht _ => hq _ _ H t ht hP hD locs hS) hS.2.2 dX12_person_24 hlocks
theorem dX12_lose_0 : decode cX12_lose 0 = .ok (.aload_n 0, 1) := by decide +kernel
theorem dX12_lose_1 : decode cX12_lose 1 = .ok (.iconst 0, 1) := by decide +kernel
theorem dX12_lose_2 : decode cX12_lose 2 = .ok (.putfield 1, 3) := by decide +kernel
theorem dX12_lose_5 : decode cX12_lose 5 = .ok (.aload_n 0, 1) := by decide +kernel
theorem dX12_lose_6 : decode cX12_lose 6 = .ok (.iload_n 1, 1) := by decide +kernel
theorem dX12_lose_7 : decode cX12_lose 7 = .ok (.invokevirtual 303, 3) := by decide +kernel
theorem dX12_lose_10 : decode cX12_lose 10 = .ok (.ifCond .eq 13, 3) := by decide +kernel
theorem dX12_lose_13 : decode cX12_lose 13 = .ok (.iload_n 2, 1) := by decide +kernel
theorem dX12_lose_14 : decode cX12_lose 14 = .ok (.iconst 1, 1) := by decide +kernel
theorem dX12_lose_15 : decode cX12_lose 15 = .ok (.bipush 20, 2) := by decide +kernel
theorem dX12_lose_17 : decode cX12_lose 17 = .ok (.invokestatic 306, 3) := by decide +kernel
theorem dX12_lose_20 : decode cX12_lose 20 = .ok (.ifCond .ne 5, 3) := by decide +kernel
theorem dX12_lose_23 : decode cX12_lose 23 = .ok (.iconst (-1), 1) := by decide +kernel
theorem dX12_lose_24 : decode cX12_lose 24 = .ok (.ireturn, 1) := by decide +kernel
theorem dX12_lose_25 : decode cX12_lose 25 = .ok (.aload_n 0, 1) := by decide +kernel
theorem dX12_lose_26 : decode cX12_lose 26 = .ok (.invokevirtual 309, 3) := by decide +kernel
theorem dX12_lose_29 : decode cX12_lose 29 = .ok (.aload_n 0, 1) := by decide +kernel
theorem dX12_lose_30 : decode cX12_lose 30 = .ok (.iconst 0, 1) := by decide +kernel
theorem dX12_lose_31 : decode cX12_lose 31 = .ok (.iload_n 1, 1) := by decide +kernel
theorem dX12_lose_32 : decode cX12_lose 32 = .ok (.iload_n 2, 1) := by decide +kernel
theorem dX12_lose_33 : decode cX12_lose 33 = .ok (.invokevirtual 312, 3) := by decide +kernel
theorem dX12_lose_36 : decode cX12_lose 36 = .ok (.aload_n 0, 1) := by decide +kernel
theorem dX12_lose_37 : decode cX12_lose 37 = .ok (.getfield 113, 3) := by decide +kernel
theorem dX12_lose_40 : decode cX12_lose 40 = .ok (.iconst 1, 1) := by decide +kernel
theorem dX12_lose_41 : decode cX12_lose 41 = .ok (.iload_n 1, 1) := by decide +kernel
theorem dX12_lose_42 : decode cX12_lose 42 = .ok (.iadd, 1) := by decide +kernel
theorem dX12_lose_43 : decode cX12_lose 43 = .ok (.iaload, 1) := by decide +kernel
theorem dX12_lose_44 : decode cX12_lose 44 = .ok (.ireturn, 1) := by decide +kernel
abbrev wd_X12_lose (k : Nat → ClassId) (this : Nat) (this_thrown : Int32) (this_tape : Nat) (this_taped : Int32) (this_size : Int32) (this_sort : Nat) (this_place : Nat) (this_value : Nat) (this_at : Int32) (this_fault : Int32) (this_words : Nat) (this_towns : Nat) (this_towns_f : Nat → Int32) (this_op : Nat) (this_arg : Nat) (this_codes : Int32) (this_names : Nat) (this_readNames : Nat) (this_namesMany : Int32) (this_readMany : Int32) (this_once : Int32) (this_lines : Nat) (this_facts : Nat) (this_pile : Nat) (this_state : Nat) (this_state_f : Nat → Int32) (this_undos : Int32) (this_isMarked : Nat) (this_weight : Int32) (this_rounding : Int32) (this_lacks : Nat) (this_alikes : Nat) (this_g : Int64) : va_W := [(this, .inr (10, [.int this_thrown, .ref this_tape, .int this_taped, .int this_size, .ref this_sort, .ref this_place, .ref this_value, .int this_at, .int this_fault, .ref this_words, .ref this_towns, .ref this_op, .ref this_arg, .int this_codes, .ref this_names, .ref this_readNames, .int this_namesMany, .int this_readMany, .int this_once, .ref this_lines, .ref this_facts, .ref this_pile, .ref this_state, .int this_undos, .ref this_isMarked, .int this_weight, .int this_rounding, .ref this_lacks, .ref this_alikes, .long this_g])), (this_towns, .inl (k 0, 60, .inl this_towns_f)), (this_state, .inl (k 0, 1104, .inl this_state_f))]
set_option maxHeartbeats 4000000 in
set_option maxRecDepth 100000 in
theorem c_X12_lose (l : Launch) (D : va_G) (k : Nat → ClassId) (this : Nat) (this_thrown : Int32) (this_tape : Nat) (this_taped : Int32) (this_size : Int32) (this_sort : Nat) (this_place : Nat) (this_value : Nat) (this_at : Int32) (this_fault : Int32) (this_words : Nat) (this_towns : Nat) (this_towns_f : Nat → Int32) (this_op : Nat) (this_arg : Nat) (this_codes : Int32) (this_names : Nat) (this_readNames : Nat) (this_namesMany : Int32) (this_readMany : Int32) (this_once : Int32) (this_lines : Nat) (this_facts : Nat) (this_pile : Nat) (this_state : Nat) (this_state_f : Nat → Int32) (this_undos : Int32) (this_isMarked : Nat) (this_weight : Int32) (this_rounding : Int32) (this_lacks : Nat) (this_alikes : Nat) (this_g : Int64) (q1 : Int32) (q2 : Int32) (R0 : Int32 × Int32 × Int32 × (Nat → Int32)) (hm : m_X12_lose this_towns_f this_state_f this_undos q1 q2 = some R0) : CW l D (TY k) yX12_lose cX12_lose 3 (some .int) 2 45 [.ref this, .int q1, .int q2] (wd_X12_lose k this this_thrown this_tape this_taped this_size this_sort this_place this_value this_at this_fault this_words this_towns this_towns_f this_op this_arg this_codes this_names this_readNames this_namesMany this_readMany this_once this_lines this_facts this_pile this_state this_state_f this_undos this_isMarked this_weight this_rounding this_lacks this_alikes this_g) (some (.int R0.1)) (wd_X12_lose k this R0.2.1 this_tape this_taped this_size this_sort this_place this_value this_at this_fault this_words this_towns this_towns_f this_op this_arg this_codes this_names this_readNames this_namesMany this_readMany this_once this_lines this_facts this_pile this_state R0.2.2.2 R0.2.2.1 this_isMarked this_weight this_rounding this_lacks this_alikes this_g) := by
  refine CW.mk (by decide) (Nat.le_of_ble_eq_true rfl) ?_
  intro p e s m args below meth c ls A ⟨hx, hb, hr, hts, hown, hlocks, hml⟩ hP hG hD hA hl hS hq
  have hl : lv_has ls 3 [(0, .ref this), (1, .int q1), (2, .int q2)] := hl
  unfold m_X12_lose at hm
  suffices hgo : ∀ (H : Heap) (locs : List Loc), va_P D vwCl (wd_X12_lose k this this_thrown this_tape this_taped this_size this_sort this_place this_value this_at this_fault this_words this_towns this_towns_f this_op this_arg this_codes this_names this_readNames this_namesMany this_readMany this_once this_lines this_facts this_pile this_state this_state_f this_undos this_isMarked this_weight this_rounding this_lacks this_alikes this_g) H → va_D A (wd_X12_lose k this this_thrown this_tape this_taped this_size this_sort this_place this_value this_at this_fault this_words this_towns this_towns_f this_op this_arg this_codes this_names this_readNames this_namesMany this_readMany this_once this_lines this_facts this_pile this_state this_state_f this_undos this_isMarked this_weight this_rounding this_lacks this_alikes this_g) → va_S A s.heap H locs → W p l e (Rm 2 45) s m args below meth c H locs 0 0 (MQ below (QW D (some (.int R0.1)) (wd_X12_lose k this this_thrown this_tape this_taped this_size this_sort this_place this_value this_at this_fault this_words this_towns this_towns_f this_op this_arg this_codes this_names this_readNames this_namesMany this_readMany this_once this_lines this_facts this_pile this_state this_state_f this_undos this_isMarked this_weight this_rounding this_lacks this_alikes this_g) (wd_X12_lose k this R0.2.1 this_tape this_taped this_size this_sort this_place this_value this_at this_fault this_words this_towns this_towns_f this_op this_arg this_codes this_names this_readNames this_namesMany this_readMany this_once this_lines this_facts this_pile this_state R0.2.2.2 R0.2.2.1 this_isMarked this_weight this_rounding this_lacks this_alikes this_g) s.heap.size) args s 0 0 A) (F0 m 0 ls []) from hgo _ _ hP hD hS
  clear hP hD hS
  intro H locs hP hD hS
  refine lv_aload_n (pc := 0) hx hb dX12_lose_0 rfl (lv_at hl 0 rfl) ?_
  refine lv_iconst (v := 0) (pc := 1) hx hb dX12_lose_1 (by decide) ?_
  refine va_put (pc := 2) (D := D) (ci := 10) (v := .int 0) (ty := .int) (C := RX12) (T := TX12) (N := 30) hx hb hts hiX12 tyX12 tyX12_ok nmX12 hown hG.1 hP hD hS 0 rfl rfl 0 (Nat.le_of_ble_eq_true rfl) (hts _ kw_1257) (fun _ h9 => h9) rfl (by decide +kernel) rfl rfl (Nat.le_of_ble_eq_true rfl) dX12_lose_2 (fun H locs hP hD hS => ?_)
  have hP : va_P D vwCl (wd_X12_lose k this 0 this_tape this_taped this_size this_sort this_place this_value this_at this_fault this_words this_towns this_towns_f this_op this_arg this_codes this_names this_readNames this_namesMany this_readMany this_once this_lines this_facts this_pile this_state this_state_f this_undos this_isMarked this_weight this_rounding this_lacks this_alikes this_g) H := hP
  have hD : va_D A (wd_X12_lose k this 0 this_tape this_taped this_size this_sort this_place this_value this_at this_fault this_words this_towns this_towns_f this_op this_arg this_codes this_names this_readNames this_namesMany this_readMany this_once this_lines this_facts this_pile this_state this_state_f this_undos this_isMarked this_weight this_rounding this_lacks this_alikes this_g) := hD
  refine lv_aload_n (pc := 5) hx hb dX12_lose_5 rfl (lv_at hl 0 rfl) ?_
  refine lv_iload_n (pc := 6) hx hb dX12_lose_6 rfl (lv_at hl 1 rfl) ?_
  obtain ⟨r5, hcl, hm⟩ := bd hm
  refine cr_back (run_V (pc := 7) (n := 1) (As := [.int q1]) (rest := []) ⟨hx, hb, hml, hown, hts⟩ (c_X12_isPerson l D k this 0 this_tape this_taped this_size this_sort this_place this_value this_at this_fault this_words this_towns this_towns_f this_op this_arg this_codes this_names this_readNames this_namesMany this_readMany this_once this_lines this_facts this_pile this_state this_undos this_isMarked this_weight this_rounding this_lacks this_alikes this_g q1 r5 hcl) ⟨kw_1498, kw_16, by decide +kernel⟩ kw_1495 kw_1497 ks_127 ⟨Nat.le_of_ble_eq_true rfl, Nat.le_of_ble_eq_true rfl⟩ pr_blind (prR (hP.sub [0, 1] rfl) hG) (va_recv hG.1 hP (ci := 10) (q0 := 0) rfl rfl) rfl hl.1 rfl (Nat.le_of_ble_eq_true rfl) dX12_lose_7 ⟨Nat.zero_le _, Nat.zero_le _⟩) ?_
  refine lv_if_eq (tgt := 23) (pc := 10) hx hb dX12_lose_10 (by decide) (fun hc => ?_) (fun hc => ?_)
  · rw [if_pos hc] at hm
    refine lv_iconst (v := (-1)) (pc := 23) hx hb dX12_lose_23 (by decide) ?_
    rw [← Option.some.inj hm]
    exact W.iret hx hb hr (fun t ht _ => hq _ _ H t ht hP hD locs hS) hS.2.2 dX12_lose_24 hlocks
  · rw [if_neg hc] at hm
    refine lv_iload_n (pc := 13) hx hb dX12_lose_13 rfl (lv_at hl 2 rfl) ?_
    refine lv_iconst (v := 1) (pc := 14) hx hb dX12_lose_14 (by decide) ?_
    refine lv_bipush (v := 20) (pc := 15) hx hb dX12_lose_15 (by decide) ?_
    obtain ⟨r6, hcl, hm⟩ := bd hm
    refine cr_back (run_S (pc := 17) (n := 3) (As := [.int q2, .int 1, .int 20]) (rest := []) ⟨hx, hb, hml, hown, hts⟩ (c_X12_within l D k q2 1 20 r6 hcl) ⟨kw_1501, kw_16, by decide +kernel⟩ kw_1499 kw_1500 ⟨Nat.le_of_ble_eq_true rfl, Nat.le_of_ble_eq_true rfl⟩ pr_blind (prR (hP.sub [] rfl) hG) rfl hl.1 rfl (Nat.le_of_ble_eq_true rfl) dX12_lose_17 ⟨Nat.zero_le _, Nat.zero_le _⟩) ?_
    refine lv_if_ne (tgt := 25) (pc := 20) hx hb dX12_lose_20 (by decide) (fun hc => ?_) (fun hc => ?_)
    · rw [if_neg hc] at hm
      refine lv_aload_n (pc := 25) hx hb dX12_lose_25 rfl (lv_at hl 0 rfl) ?_
      obtain ⟨r7, hcl, hm⟩ := bd hm
      refine cw_mask (ws' := (wd_X12_lose k this 0 this_tape this_taped this_size this_sort this_place this_value this_at this_fault this_words this_towns this_towns_f this_op this_arg this_codes this_names this_readNames this_namesMany this_readMany this_once this_lines this_facts this_pile this_state r7.2 r7.1 this_isMarked this_weight this_rounding this_lacks this_alikes this_g)) (run_V (pc := 26) (n := 0) (As := []) (rest := []) ⟨hx, hb, hml, hown, hts⟩ ((c_X12_keeps l D k this 0 this_tape this_taped this_size this_sort this_place this_value this_at this_fault this_words this_towns this_op this_arg this_codes this_names this_readNames this_namesMany this_readMany this_once this_lines this_facts this_pile this_state this_state_f this_undos this_isMarked this_weight this_rounding this_lacks this_alikes this_g r7 hcl) H.size) ⟨kw_1509, kw_16, by decide +kernel⟩ kw_1506 kw_1508 ks_128 ⟨Nat.le_of_ble_eq_true rfl, Nat.le_of_ble_eq_true rfl⟩ pw_blind (prW (P_pick [true, false, true] rfl hP) hG (D_pick [true, false, true] rfl hD)) (va_recv hG.1 hP (ci := 10) (q0 := 0) rfl rfl) rfl hl.1 rfl (Nat.le_of_ble_eq_true rfl) dX12_lose_26 ⟨Nat.zero_le _, Nat.zero_le _⟩) hP hD hS hA [true, false, true] rfl rfl rfl (fun H locs hP hD hS => ?_)
      refine lv_aload_n (pc := 29) hx hb dX12_lose_29 rfl (lv_at hl 0 rfl) ?_
      refine lv_iconst (v := 0) (pc := 30) hx hb dX12_lose_30 (by decide) ?_
      refine lv_iload_n (pc := 31) hx hb dX12_lose_31 rfl (lv_at hl 1 rfl) ?_
      refine lv_iload_n (pc := 32) hx hb dX12_lose_32 rfl (lv_at hl 2 rfl) ?_
      obtain ⟨r8, hcl, hm⟩ := bd hm
      refine cw_mask (ws' := (wd_X12_lose k this 0 this_tape this_taped this_size this_sort this_place this_value this_at this_fault this_words this_towns this_towns_f this_op this_arg this_codes this_names this_readNames this_namesMany this_readMany this_once this_lines this_facts this_pile this_state r8 r7.1 this_isMarked this_weight this_rounding this_lacks this_alikes this_g)) (run_V (pc := 33) (n := 3) (As := [.int 0, .int q1, .int q2]) (rest := []) ⟨hx, hb, hml, hown, hts⟩ ((c_X12_loses l D k this 0 this_tape this_taped this_size this_sort this_place this_value this_at this_fault this_words this_towns this_op this_arg this_codes this_names this_readNames this_namesMany this_readMany this_once this_lines this_facts this_pile this_state r7.2 r7.1 this_isMarked this_weight this_rounding this_lacks this_alikes this_g 0 q1 q2 r8 hcl) H.size) ⟨kw_1517, kw_16, by decide +kernel⟩ kw_1514 kw_1516 ks_130 ⟨Nat.le_of_ble_eq_true rfl, Nat.le_of_ble_eq_true rfl⟩ pw_blind (prW (P_pick [true, false, true] rfl hP) hG (D_pick [true, false, true] rfl hD)) (va_recv hG.1 hP (ci := 10) (q0 := 0) rfl rfl) rfl hl.1 rfl (Nat.le_of_ble_eq_true rfl) dX12_lose_33 ⟨Nat.zero_le _, Nat.zero_le _⟩) hP hD hS hA [true, false, true] rfl rfl rfl (fun H locs hP hD hS => ?_)
      refine lv_aload_n (pc := 36) hx hb dX12_lose_36 rfl (lv_at hl 0 rfl) ?_
      refine va_get (pc := 37) (D := D) (ci := 10) (C := RX12) (T := TX12) (N := 30) hx hb hts hiX12 hown hG.1 hP 0 rfl rfl 22 (Nat.le_of_ble_eq_true rfl) (hts _ kw_1279) (fun _ h9 => h9) rfl dX12_lose_37 ?_
      refine lv_iconst (v := 1) (pc := 40) hx hb dX12_lose_40 (by decide) ?_
      refine lv_iload_n (pc := 41) hx hb dX12_lose_41 rfl (lv_at hl 1 rfl) ?_
      refine lv_iadd (pc := 42) hx hb dX12_lose_42 ?_
      obtain ⟨hin, hm⟩ := gd hm
      refine va_iald (pc := 43) (D := D) hx hb hG.1 hP 2 0 rfl rfl hin dX12_lose_43 ?_
      rw [← Option.some.inj hm]
      exact W.iret hx hb hr (fun t ht _ => hq _ _ H t ht hP hD locs hS) hS.2.2 dX12_lose_44 hlocks
    · rw [if_pos hc] at hm
      refine lv_iconst (v := (-1)) (pc := 23) hx hb dX12_lose_23 (by decide) ?_
      rw [← Option.some.inj hm]
      exact W.iret hx hb hr (fun t ht _ => hq _ _ H t ht hP hD locs hS) hS.2.2 dX12_lose_24 hlocks
theorem dX12_get_0 : decode cX12_get 0 = .ok (.aload_n 0, 1) := by decide +kernel
theorem dX12_get_1 : decode cX12_get 1 = .ok (.iconst 0, 1) := by decide +kernel
theorem dX12_get_2 : decode cX12_get 2 = .ok (.putfield 1, 3) := by decide +kernel
theorem dX12_get_5 : decode cX12_get 5 = .ok (.aload_n 0, 1) := by decide +kernel
theorem dX12_get_6 : decode cX12_get 6 = .ok (.iload_n 1, 1) := by decide +kernel
theorem dX12_get_7 : decode cX12_get 7 = .ok (.invokevirtual 303, 3) := by decide +kernel
theorem dX12_get_10 : decode cX12_get 10 = .ok (.ifCond .eq 13, 3) := by decide +kernel
theorem dX12_get_13 : decode cX12_get 13 = .ok (.iload_n 2, 1) := by decide +kernel
theorem dX12_get_14 : decode cX12_get 14 = .ok (.iconst 1, 1) := by decide +kernel
theorem dX12_get_15 : decode cX12_get 15 = .ok (.bipush 20, 2) := by decide +kernel
theorem dX12_get_17 : decode cX12_get 17 = .ok (.invokestatic 306, 3) := by decide +kernel
theorem dX12_get_20 : decode cX12_get 20 = .ok (.ifCond .ne 5, 3) := by decide +kernel
theorem dX12_get_23 : decode cX12_get 23 = .ok (.iconst (-1), 1) := by decide +kernel
theorem dX12_get_24 : decode cX12_get 24 = .ok (.ireturn, 1) := by decide +kernel
theorem dX12_get_25 : decode cX12_get 25 = .ok (.aload_n 0, 1) := by decide +kernel
theorem dX12_get_26 : decode cX12_get 26 = .ok (.invokevirtual 309, 3) := by decide +kernel
theorem dX12_get_29 : decode cX12_get 29 = .ok (.aload_n 0, 1) := by decide +kernel
theorem dX12_get_30 : decode cX12_get 30 = .ok (.iconst 0, 1) := by decide +kernel
theorem dX12_get_31 : decode cX12_get 31 = .ok (.iload_n 1, 1) := by decide +kernel
theorem dX12_get_32 : decode cX12_get 32 = .ok (.iload_n 2, 1) := by decide +kernel
theorem dX12_get_33 : decode cX12_get 33 = .ok (.ineg, 1) := by decide +kernel
theorem dX12_get_34 : decode cX12_get 34 = .ok (.invokevirtual 312, 3) := by decide +kernel
theorem dX12_get_37 : decode cX12_get 37 = .ok (.aload_n 0, 1) := by decide +kernel
theorem dX12_get_38 : decode cX12_get 38 = .ok (.getfield 113, 3) := by decide +kernel
theorem dX12_get_41 : decode cX12_get 41 = .ok (.iconst 1, 1) := by decide +kernel
theorem dX12_get_42 : decode cX12_get 42 = .ok (.iload_n 1, 1) := by decide +kernel
theorem dX12_get_43 : decode cX12_get 43 = .ok (.iadd, 1) := by decide +kernel
theorem dX12_get_44 : decode cX12_get 44 = .ok (.iaload, 1) := by decide +kernel
theorem dX12_get_45 : decode cX12_get 45 = .ok (.ireturn, 1) := by decide +kernel
abbrev wd_X12_get (k : Nat → ClassId) (this : Nat) (this_thrown : Int32) (this_tape : Nat) (this_taped : Int32) (this_size : Int32) (this_sort : Nat) (this_place : Nat) (this_value : Nat) (this_at : Int32) (this_fault : Int32) (this_words : Nat) (this_towns : Nat) (this_towns_f : Nat → Int32) (this_op : Nat) (this_arg : Nat) (this_codes : Int32) (this_names : Nat) (this_readNames : Nat) (this_namesMany : Int32) (this_readMany : Int32) (this_once : Int32) (this_lines : Nat) (this_facts : Nat) (this_pile : Nat) (this_state : Nat) (this_state_f : Nat → Int32) (this_undos : Int32) (this_isMarked : Nat) (this_weight : Int32) (this_rounding : Int32) (this_lacks : Nat) (this_alikes : Nat) (this_g : Int64) : va_W := [(this, .inr (10, [.int this_thrown, .ref this_tape, .int this_taped, .int this_size, .ref this_sort, .ref this_place, .ref this_value, .int this_at, .int this_fault, .ref this_words, .ref this_towns, .ref this_op, .ref this_arg, .int this_codes, .ref this_names, .ref this_readNames, .int this_namesMany, .int this_readMany, .int this_once, .ref this_lines, .ref this_facts, .ref this_pile, .ref this_state, .int this_undos, .ref this_isMarked, .int this_weight, .int this_rounding, .ref this_lacks, .ref this_alikes, .long this_g])), (this_towns, .inl (k 0, 60, .inl this_towns_f)), (this_state, .inl (k 0, 1104, .inl this_state_f))]
set_option maxHeartbeats 4000000 in
set_option maxRecDepth 100000 in
theorem c_X12_get (l : Launch) (D : va_G) (k : Nat → ClassId) (this : Nat) (this_thrown : Int32) (this_tape : Nat) (this_taped : Int32) (this_size : Int32) (this_sort : Nat) (this_place : Nat) (this_value : Nat) (this_at : Int32) (this_fault : Int32) (this_words : Nat) (this_towns : Nat) (this_towns_f : Nat → Int32) (this_op : Nat) (this_arg : Nat) (this_codes : Int32) (this_names : Nat) (this_readNames : Nat) (this_namesMany : Int32) (this_readMany : Int32) (this_once : Int32) (this_lines : Nat) (this_facts : Nat) (this_pile : Nat) (this_state : Nat) (this_state_f : Nat → Int32) (this_undos : Int32) (this_isMarked : Nat) (this_weight : Int32) (this_rounding : Int32) (this_lacks : Nat) (this_alikes : Nat) (this_g : Int64) (q1 : Int32) (q2 : Int32) (R0 : Int32 × Int32 × Int32 × (Nat → Int32)) (hm : m_X12_get this_towns_f this_state_f this_undos q1 q2 = some R0) : CW l D (TY k) yX12_get cX12_get 3 (some .int) 2 45 [.ref this, .int q1, .int q2] (wd_X12_get k this this_thrown this_tape this_taped this_size this_sort this_place this_value this_at this_fault this_words this_towns this_towns_f this_op this_arg this_codes this_names this_readNames this_namesMany this_readMany this_once this_lines this_facts this_pile this_state this_state_f this_undos this_isMarked this_weight this_rounding this_lacks this_alikes this_g) (some (.int R0.1)) (wd_X12_get k this R0.2.1 this_tape this_taped this_size this_sort this_place this_value this_at this_fault this_words this_towns this_towns_f this_op this_arg this_codes this_names this_readNames this_namesMany this_readMany this_once this_lines this_facts this_pile this_state R0.2.2.2 R0.2.2.1 this_isMarked this_weight this_rounding this_lacks this_alikes this_g) := by
  refine CW.mk (by decide) (Nat.le_of_ble_eq_true rfl) ?_
  intro p e s m args below meth c ls A ⟨hx, hb, hr, hts, hown, hlocks, hml⟩ hP hG hD hA hl hS hq
  have hl : lv_has ls 3 [(0, .ref this), (1, .int q1), (2, .int q2)] := hl
  unfold m_X12_get at hm
  suffices hgo : ∀ (H : Heap) (locs : List Loc), va_P D vwCl (wd_X12_get k this this_thrown this_tape this_taped this_size this_sort this_place this_value this_at this_fault this_words this_towns this_towns_f this_op this_arg this_codes this_names this_readNames this_namesMany this_readMany this_once this_lines this_facts this_pile this_state this_state_f this_undos this_isMarked this_weight this_rounding this_lacks this_alikes this_g) H → va_D A (wd_X12_get k this this_thrown this_tape this_taped this_size this_sort this_place this_value this_at this_fault this_words this_towns this_towns_f this_op this_arg this_codes this_names this_readNames this_namesMany this_readMany this_once this_lines this_facts this_pile this_state this_state_f this_undos this_isMarked this_weight this_rounding this_lacks this_alikes this_g) → va_S A s.heap H locs → W p l e (Rm 2 45) s m args below meth c H locs 0 0 (MQ below (QW D (some (.int R0.1)) (wd_X12_get k this this_thrown this_tape this_taped this_size this_sort this_place this_value this_at this_fault this_words this_towns this_towns_f this_op this_arg this_codes this_names this_readNames this_namesMany this_readMany this_once this_lines this_facts this_pile this_state this_state_f this_undos this_isMarked this_weight this_rounding this_lacks this_alikes this_g) (wd_X12_get k this R0.2.1 this_tape this_taped this_size this_sort this_place this_value this_at this_fault this_words this_towns this_towns_f this_op this_arg this_codes this_names this_readNames this_namesMany this_readMany this_once this_lines this_facts this_pile this_state R0.2.2.2 R0.2.2.1 this_isMarked this_weight this_rounding this_lacks this_alikes this_g) s.heap.size) args s 0 0 A) (F0 m 0 ls []) from hgo _ _ hP hD hS
  clear hP hD hS
  intro H locs hP hD hS
  refine lv_aload_n (pc := 0) hx hb dX12_get_0 rfl (lv_at hl 0 rfl) ?_
  refine lv_iconst (v := 0) (pc := 1) hx hb dX12_get_1 (by decide) ?_
  refine va_put (pc := 2) (D := D) (ci := 10) (v := .int 0) (ty := .int) (C := RX12) (T := TX12) (N := 30) hx hb hts hiX12 tyX12 tyX12_ok nmX12 hown hG.1 hP hD hS 0 rfl rfl 0 (Nat.le_of_ble_eq_true rfl) (hts _ kw_1257) (fun _ h9 => h9) rfl (by decide +kernel) rfl rfl (Nat.le_of_ble_eq_true rfl) dX12_get_2 (fun H locs hP hD hS => ?_)
  have hP : va_P D vwCl (wd_X12_get k this 0 this_tape this_taped this_size this_sort this_place this_value this_at this_fault this_words this_towns this_towns_f this_op this_arg this_codes this_names this_readNames this_namesMany this_readMany this_once this_lines this_facts this_pile this_state this_state_f this_undos this_isMarked this_weight this_rounding this_lacks this_alikes this_g) H := hP
  have hD : va_D A (wd_X12_get k this 0 this_tape this_taped this_size this_sort this_place this_value this_at this_fault this_words this_towns this_towns_f this_op this_arg this_codes this_names this_readNames this_namesMany this_readMany this_once this_lines this_facts this_pile this_state this_state_f this_undos this_isMarked this_weight this_rounding this_lacks this_alikes this_g) := hD
  refine lv_aload_n (pc := 5) hx hb dX12_get_5 rfl (lv_at hl 0 rfl) ?_
  refine lv_iload_n (pc := 6) hx hb dX12_get_6 rfl (lv_at hl 1 rfl) ?_
  obtain ⟨r5, hcl, hm⟩ := bd hm
  refine cr_back (run_V (pc := 7) (n := 1) (As := [.int q1]) (rest := []) ⟨hx, hb, hml, hown, hts⟩ (c_X12_isPerson l D k this 0 this_tape this_taped this_size this_sort this_place this_value this_at this_fault this_words this_towns this_towns_f this_op this_arg this_codes this_names this_readNames this_namesMany this_readMany this_once this_lines this_facts this_pile this_state this_undos this_isMarked this_weight this_rounding this_lacks this_alikes this_g q1 r5 hcl) ⟨kw_1498, kw_16, by decide +kernel⟩ kw_1495 kw_1497 ks_127 ⟨Nat.le_of_ble_eq_true rfl, Nat.le_of_ble_eq_true rfl⟩ pr_blind (prR (hP.sub [0, 1] rfl) hG) (va_recv hG.1 hP (ci := 10) (q0 := 0) rfl rfl) rfl hl.1 rfl (Nat.le_of_ble_eq_true rfl) dX12_get_7 ⟨Nat.zero_le _, Nat.zero_le _⟩) ?_
  refine lv_if_eq (tgt := 23) (pc := 10) hx hb dX12_get_10 (by decide) (fun hc => ?_) (fun hc => ?_)
  · rw [if_pos hc] at hm
    refine lv_iconst (v := (-1)) (pc := 23) hx hb dX12_get_23 (by decide) ?_
    rw [← Option.some.inj hm]
    exact W.iret hx hb hr (fun t ht _ => hq _ _ H t ht hP hD locs hS) hS.2.2 dX12_get_24 hlocks
  · rw [if_neg hc] at hm
    refine lv_iload_n (pc := 13) hx hb dX12_get_13 rfl (lv_at hl 2 rfl) ?_
    refine lv_iconst (v := 1) (pc := 14) hx hb dX12_get_14 (by decide) ?_
    refine lv_bipush (v := 20) (pc := 15) hx hb dX12_get_15 (by decide) ?_
    obtain ⟨r6, hcl, hm⟩ := bd hm
    refine cr_back (run_S (pc := 17) (n := 3) (As := [.int q2, .int 1, .int 20]) (rest := []) ⟨hx, hb, hml, hown, hts⟩ (c_X12_within l D k q2 1 20 r6 hcl) ⟨kw_1501, kw_16, by decide +kernel⟩ kw_1499 kw_1500 ⟨Nat.le_of_ble_eq_true rfl, Nat.le_of_ble_eq_true rfl⟩ pr_blind (prR (hP.sub [] rfl) hG) rfl hl.1 rfl (Nat.le_of_ble_eq_true rfl) dX12_get_17 ⟨Nat.zero_le _, Nat.zero_le _⟩) ?_
    refine lv_if_ne (tgt := 25) (pc := 20) hx hb dX12_get_20 (by decide) (fun hc => ?_) (fun hc => ?_)
    · rw [if_neg hc] at hm
      refine lv_aload_n (pc := 25) hx hb dX12_get_25 rfl (lv_at hl 0 rfl) ?_
      obtain ⟨r7, hcl, hm⟩ := bd hm
      refine cw_mask (ws' := (wd_X12_get k this 0 this_tape this_taped this_size this_sort this_place this_value this_at this_fault this_words this_towns this_towns_f this_op this_arg this_codes this_names this_readNames this_namesMany this_readMany this_once this_lines this_facts this_pile this_state r7.2 r7.1 this_isMarked this_weight this_rounding this_lacks this_alikes this_g)) (run_V (pc := 26) (n := 0) (As := []) (rest := []) ⟨hx, hb, hml, hown, hts⟩ ((c_X12_keeps l D k this 0 this_tape this_taped this_size this_sort this_place this_value this_at this_fault this_words this_towns this_op this_arg this_codes this_names this_readNames this_namesMany this_readMany this_once this_lines this_facts this_pile this_state this_state_f this_undos this_isMarked this_weight this_rounding this_lacks this_alikes this_g r7 hcl) H.size) ⟨kw_1509, kw_16, by decide +kernel⟩ kw_1506 kw_1508 ks_128 ⟨Nat.le_of_ble_eq_true rfl, Nat.le_of_ble_eq_true rfl⟩ pw_blind (prW (P_pick [true, false, true] rfl hP) hG (D_pick [true, false, true] rfl hD)) (va_recv hG.1 hP (ci := 10) (q0 := 0) rfl rfl) rfl hl.1 rfl (Nat.le_of_ble_eq_true rfl) dX12_get_26 ⟨Nat.zero_le _, Nat.zero_le _⟩) hP hD hS hA [true, false, true] rfl rfl rfl (fun H locs hP hD hS => ?_)
      refine lv_aload_n (pc := 29) hx hb dX12_get_29 rfl (lv_at hl 0 rfl) ?_
      refine lv_iconst (v := 0) (pc := 30) hx hb dX12_get_30 (by decide) ?_
      refine lv_iload_n (pc := 31) hx hb dX12_get_31 rfl (lv_at hl 1 rfl) ?_
      refine lv_iload_n (pc := 32) hx hb dX12_get_32 rfl (lv_at hl 2 rfl) ?_
      refine lv_ineg (pc := 33) hx hb dX12_get_33 ?_
      obtain ⟨r8, hcl, hm⟩ := bd hm
      refine cw_mask (ws' := (wd_X12_get k this 0 this_tape this_taped this_size this_sort this_place this_value this_at this_fault this_words this_towns this_towns_f this_op this_arg this_codes this_names this_readNames this_namesMany this_readMany this_once this_lines this_facts this_pile this_state r8 r7.1 this_isMarked this_weight this_rounding this_lacks this_alikes this_g)) (run_V (pc := 34) (n := 3) (As := [.int 0, .int q1, .int (-q2)]) (rest := []) ⟨hx, hb, hml, hown, hts⟩ ((c_X12_loses l D k this 0 this_tape this_taped this_size this_sort this_place this_value this_at this_fault this_words this_towns this_op this_arg this_codes this_names this_readNames this_namesMany this_readMany this_once this_lines this_facts this_pile this_state r7.2 r7.1 this_isMarked this_weight this_rounding this_lacks this_alikes this_g 0 q1 (-q2) r8 hcl) H.size) ⟨kw_1517, kw_16, by decide +kernel⟩ kw_1514 kw_1516 ks_130 ⟨Nat.le_of_ble_eq_true rfl, Nat.le_of_ble_eq_true rfl⟩ pw_blind (prW (P_pick [true, false, true] rfl hP) hG (D_pick [true, false, true] rfl hD)) (va_recv hG.1 hP (ci := 10) (q0 := 0) rfl rfl) rfl hl.1 rfl (Nat.le_of_ble_eq_true rfl) dX12_get_34 ⟨Nat.zero_le _, Nat.zero_le _⟩) hP hD hS hA [true, false, true] rfl rfl rfl (fun H locs hP hD hS => ?_)
      refine lv_aload_n (pc := 37) hx hb dX12_get_37 rfl (lv_at hl 0 rfl) ?_
      refine va_get (pc := 38) (D := D) (ci := 10) (C := RX12) (T := TX12) (N := 30) hx hb hts hiX12 hown hG.1 hP 0 rfl rfl 22 (Nat.le_of_ble_eq_true rfl) (hts _ kw_1279) (fun _ h9 => h9) rfl dX12_get_38 ?_
      refine lv_iconst (v := 1) (pc := 41) hx hb dX12_get_41 (by decide) ?_
      refine lv_iload_n (pc := 42) hx hb dX12_get_42 rfl (lv_at hl 1 rfl) ?_
      refine lv_iadd (pc := 43) hx hb dX12_get_43 ?_
      obtain ⟨hin, hm⟩ := gd hm
      refine va_iald (pc := 44) (D := D) hx hb hG.1 hP 2 0 rfl rfl hin dX12_get_44 ?_
      rw [← Option.some.inj hm]
      exact W.iret hx hb hr (fun t ht _ => hq _ _ H t ht hP hD locs hS) hS.2.2 dX12_get_45 hlocks
    · rw [if_pos hc] at hm
      refine lv_iconst (v := (-1)) (pc := 23) hx hb dX12_get_23 (by decide) ?_
      rw [← Option.some.inj hm]
      exact W.iret hx hb hr (fun t ht _ => hq _ _ H t ht hP hD locs hS) hS.2.2 dX12_get_24 hlocks
theorem dX12_spare_0 : decode cX12_spare 0 = .ok (.aload_n 0, 1) := by decide +kernel
theorem dX12_spare_1 : decode cX12_spare 1 = .ok (.iconst 0, 1) := by decide +kernel
theorem dX12_spare_2 : decode cX12_spare 2 = .ok (.putfield 1, 3) := by decide +kernel
theorem dX12_spare_5 : decode cX12_spare 5 = .ok (.aload_n 0, 1) := by decide +kernel
theorem dX12_spare_6 : decode cX12_spare 6 = .ok (.iload_n 1, 1) := by decide +kernel
theorem dX12_spare_7 : decode cX12_spare 7 = .ok (.invokevirtual 303, 3) := by decide +kernel
theorem dX12_spare_10 : decode cX12_spare 10 = .ok (.ifCond .ne 5, 3) := by decide +kernel
theorem dX12_spare_13 : decode cX12_spare 13 = .ok (.iconst (-1), 1) := by decide +kernel
theorem dX12_spare_14 : decode cX12_spare 14 = .ok (.ireturn, 1) := by decide +kernel
theorem dX12_spare_15 : decode cX12_spare 15 = .ok (.aload_n 0, 1) := by decide +kernel
theorem dX12_spare_16 : decode cX12_spare 16 = .ok (.invokevirtual 309, 3) := by decide +kernel
theorem dX12_spare_19 : decode cX12_spare 19 = .ok (.aload_n 0, 1) := by decide +kernel
theorem dX12_spare_20 : decode cX12_spare 20 = .ok (.iconst 0, 1) := by decide +kernel
theorem dX12_spare_21 : decode cX12_spare 21 = .ok (.invokevirtual 293, 3) := by decide +kernel
theorem dX12_spare_24 : decode cX12_spare 24 = .ok (.istore_n 2, 1) := by decide +kernel
theorem dX12_spare_25 : decode cX12_spare 25 = .ok (.aload_n 0, 1) := by decide +kernel
theorem dX12_spare_26 : decode cX12_spare 26 = .ok (.getfield 113, 3) := by decide +kernel
theorem dX12_spare_29 : decode cX12_spare 29 = .ok (.iconst 1, 1) := by decide +kernel
theorem dX12_spare_30 : decode cX12_spare 30 = .ok (.iload_n 1, 1) := by decide +kernel
theorem dX12_spare_31 : decode cX12_spare 31 = .ok (.iadd, 1) := by decide +kernel
theorem dX12_spare_32 : decode cX12_spare 32 = .ok (.iconst 0, 1) := by decide +kernel
theorem dX12_spare_33 : decode cX12_spare 33 = .ok (.iastore, 1) := by decide +kernel
theorem dX12_spare_34 : decode cX12_spare 34 = .ok (.aload_n 0, 1) := by decide +kernel
theorem dX12_spare_35 : decode cX12_spare 35 = .ok (.iconst 0, 1) := by decide +kernel
theorem dX12_spare_36 : decode cX12_spare 36 = .ok (.invokevirtual 293, 3) := by decide +kernel
theorem dX12_spare_39 : decode cX12_spare 39 = .ok (.iload_n 2, 1) := by decide +kernel
theorem dX12_spare_40 : decode cX12_spare 40 = .ok (.isub, 1) := by decide +kernel
theorem dX12_spare_41 : decode cX12_spare 41 = .ok (.ireturn, 1) := by decide +kernel
abbrev wd_X12_spare (k : Nat → ClassId) (this : Nat) (this_thrown : Int32) (this_tape : Nat) (this_taped : Int32) (this_size : Int32) (this_sort : Nat) (this_place : Nat) (this_value : Nat) (this_at : Int32) (this_fault : Int32) (this_words : Nat) (this_towns : Nat) (this_towns_f : Nat → Int32) (this_op : Nat) (this_arg : Nat) (this_codes : Int32) (this_names : Nat) (this_readNames : Nat) (this_namesMany : Int32) (this_readMany : Int32) (this_once : Int32) (this_lines : Nat) (this_facts : Nat) (this_pile : Nat) (this_state : Nat) (this_state_f : Nat → Int32) (this_undos : Int32) (this_isMarked : Nat) (this_weight : Int32) (this_rounding : Int32) (this_lacks : Nat) (this_alikes : Nat) (this_g : Int64) : va_W := [(this, .inr (10, [.int this_thrown, .ref this_tape, .int this_taped, .int this_size, .ref this_sort, .ref this_place, .ref this_value, .int this_at, .int this_fault, .ref this_words, .ref this_towns, .ref this_op, .ref this_arg, .int this_codes, .ref this_names, .ref this_readNames, .int this_namesMany, .int this_readMany, .int this_once, .ref this_lines, .ref this_facts, .ref this_pile, .ref this_state, .int this_undos, .ref this_isMarked, .int this_weight, .int this_rounding, .ref this_lacks, .ref this_alikes, .long this_g])), (this_towns, .inl (k 0, 60, .inl this_towns_f)), (this_state, .inl (k 0, 1104, .inl this_state_f))]
set_option maxHeartbeats 4000000 in
set_option maxRecDepth 100000 in
theorem c_X12_spare (l : Launch) (D : va_G) (k : Nat → ClassId) (this : Nat) (this_thrown : Int32) (this_tape : Nat) (this_taped : Int32) (this_size : Int32) (this_sort : Nat) (this_place : Nat) (this_value : Nat) (this_at : Int32) (this_fault : Int32) (this_words : Nat) (this_towns : Nat) (this_towns_f : Nat → Int32) (this_op : Nat) (this_arg : Nat) (this_codes : Int32) (this_names : Nat) (this_readNames : Nat) (this_namesMany : Int32) (this_readMany : Int32) (this_once : Int32) (this_lines : Nat) (this_facts : Nat) (this_pile : Nat) (this_state : Nat) (this_state_f : Nat → Int32) (this_undos : Int32) (this_isMarked : Nat) (this_weight : Int32) (this_rounding : Int32) (this_lacks : Nat) (this_alikes : Nat) (this_g : Int64) (q1 : Int32) (R0 : Int32 × Int32 × Int32 × (Nat → Int32)) (hm : m_X12_spare this_towns_f this_state_f this_undos this_weight this_rounding q1 = some R0) : CW l D (TY k) yX12_spare cX12_spare 3 (some .int) 4 90 [.ref this, .int q1] (wd_X12_spare k this this_thrown this_tape this_taped this_size this_sort this_place this_value this_at this_fault this_words this_towns this_towns_f this_op this_arg this_codes this_names this_readNames this_namesMany this_readMany this_once this_lines this_facts this_pile this_state this_state_f this_undos this_isMarked this_weight this_rounding this_lacks this_alikes this_g) (some (.int R0.1)) (wd_X12_spare k this R0.2.1 this_tape this_taped this_size this_sort this_place this_value this_at this_fault this_words this_towns this_towns_f this_op this_arg this_codes this_names this_readNames this_namesMany this_readMany this_once this_lines this_facts this_pile this_state R0.2.2.2 R0.2.2.1 this_isMarked this_weight this_rounding this_lacks this_alikes this_g) := by
  refine CW.mk (by decide) (Nat.le_of_ble_eq_true rfl) ?_
  intro p e s m args below meth c ls A ⟨hx, hb, hr, hts, hown, hlocks, hml⟩ hP hG hD hA hl hS hq
  have hl : lv_has ls 3 [(0, .ref this), (1, .int q1)] := hl
  unfold m_X12_spare at hm
  suffices hgo : ∀ (H : Heap) (locs : List Loc), va_P D vwCl (wd_X12_spare k this this_thrown this_tape this_taped this_size this_sort this_place this_value this_at this_fault this_words this_towns this_towns_f this_op this_arg this_codes this_names this_readNames this_namesMany this_readMany this_once this_lines this_facts this_pile this_state this_state_f this_undos this_isMarked this_weight this_rounding this_lacks this_alikes this_g) H → va_D A (wd_X12_spare k this this_thrown this_tape this_taped this_size this_sort this_place this_value this_at this_fault this_words this_towns this_towns_f this_op this_arg this_codes this_names this_readNames this_namesMany this_readMany this_once this_lines this_facts this_pile this_state this_state_f this_undos this_isMarked this_weight this_rounding this_lacks this_alikes this_g) → va_S A s.heap H locs → W p l e (Rm 4 90) s m args below meth c H locs 0 0 (MQ below (QW D (some (.int R0.1)) (wd_X12_spare k this this_thrown this_tape this_taped this_size this_sort this_place this_value this_at this_fault this_words this_towns this_towns_f this_op this_arg this_codes this_names this_readNames this_namesMany this_readMany this_once this_lines this_facts this_pile this_state this_state_f this_undos this_isMarked this_weight this_rounding this_lacks this_alikes this_g) (wd_X12_spare k this R0.2.1 this_tape this_taped this_size this_sort this_place this_value this_at this_fault this_words this_towns this_towns_f this_op this_arg this_codes this_names this_readNames this_namesMany this_readMany this_once this_lines this_facts this_pile this_state R0.2.2.2 R0.2.2.1 this_isMarked this_weight this_rounding this_lacks this_alikes this_g) s.heap.size) args s 0 0 A) (F0 m 0 ls []) from hgo _ _ hP hD hS
  clear hP hD hS
  intro H locs hP hD hS
  refine lv_aload_n (pc := 0) hx hb dX12_spare_0 rfl (lv_at hl 0 rfl) ?_
  refine lv_iconst (v := 0) (pc := 1) hx hb dX12_spare_1 (by decide) ?_
  refine va_put (pc := 2) (D := D) (ci := 10) (v := .int 0) (ty := .int) (C := RX12) (T := TX12) (N := 30) hx hb hts hiX12 tyX12 tyX12_ok nmX12 hown hG.1 hP hD hS 0 rfl rfl 0 (Nat.le_of_ble_eq_true rfl) (hts _ kw_1257) (fun _ h9 => h9) rfl (by decide +kernel) rfl rfl (Nat.le_of_ble_eq_true rfl) dX12_spare_2 (fun H locs hP hD hS => ?_)
  have hP : va_P D vwCl (wd_X12_spare k this 0 this_tape this_taped this_size this_sort this_place this_value this_at this_fault this_words this_towns this_towns_f this_op this_arg this_codes this_names this_readNames this_namesMany this_readMany this_once this_lines this_facts this_pile this_state this_state_f this_undos this_isMarked this_weight this_rounding this_lacks this_alikes this_g) H := hP
  have hD : va_D A (wd_X12_spare k this 0 this_tape this_taped this_size this_sort this_place this_value this_at this_fault this_words this_towns this_towns_f this_op this_arg this_codes this_names this_readNames this_namesMany this_readMany this_once this_lines this_facts this_pile this_state this_state_f this_undos this_isMarked this_weight this_rounding this_lacks this_alikes this_g) := hD
  refine lv_aload_n (pc := 5) hx hb dX12_spare_5 rfl (lv_at hl 0 rfl) ?_
  refine lv_iload_n (pc := 6) hx hb dX12_spare_6 rfl (lv_at hl 1 rfl) ?_
  obtain ⟨r5, hcl, hm⟩ := bd hm
  refine cr_back (run_V (pc := 7) (n := 1) (As := [.int q1]) (rest := []) ⟨hx, hb, hml, hown, hts⟩ (c_X12_isPerson l D k this 0 this_tape this_taped this_size this_sort this_place this_value this_at this_fault this_words this_towns this_towns_f this_op this_arg this_codes this_names this_readNames this_namesMany this_readMany this_once this_lines this_facts this_pile this_state this_undos this_isMarked this_weight this_rounding this_lacks this_alikes this_g q1 r5 hcl) ⟨kw_1498, kw_16, by decide +kernel⟩ kw_1495 kw_1497 ks_127 ⟨Nat.le_of_ble_eq_true rfl, Nat.le_of_ble_eq_true rfl⟩ pr_blind (prR (hP.sub [0, 1] rfl) hG) (va_recv hG.1 hP (ci := 10) (q0 := 0) rfl rfl) rfl hl.1 rfl (Nat.le_of_ble_eq_true rfl) dX12_spare_7 ⟨Nat.zero_le _, Nat.zero_le _⟩) ?_
  refine lv_if_ne (tgt := 15) (pc := 10) hx hb dX12_spare_10 (by decide) (fun hc => ?_) (fun hc => ?_)
  · rw [if_neg hc] at hm
    refine lv_aload_n (pc := 15) hx hb dX12_spare_15 rfl (lv_at hl 0 rfl) ?_
    obtain ⟨r6, hcl, hm⟩ := bd hm
    refine cw_mask (ws' := (wd_X12_spare k this 0 this_tape this_taped this_size this_sort this_place this_value this_at this_fault this_words this_towns this_towns_f this_op this_arg this_codes this_names this_readNames this_namesMany this_readMany this_once this_lines this_facts this_pile this_state r6.2 r6.1 this_isMarked this_weight this_rounding this_lacks this_alikes this_g)) (run_V (pc := 16) (n := 0) (As := []) (rest := []) ⟨hx, hb, hml, hown, hts⟩ ((c_X12_keeps l D k this 0 this_tape this_taped this_size this_sort this_place this_value this_at this_fault this_words this_towns this_op this_arg this_codes this_names this_readNames this_namesMany this_readMany this_once this_lines this_facts this_pile this_state this_state_f this_undos this_isMarked this_weight this_rounding this_lacks this_alikes this_g r6 hcl) H.size) ⟨kw_1509, kw_16, by decide +kernel⟩ kw_1506 kw_1508 ks_128 ⟨Nat.le_of_ble_eq_true rfl, Nat.le_of_ble_eq_true rfl⟩ pw_blind (prW (P_pick [true, false, true] rfl hP) hG (D_pick [true, false, true] rfl hD)) (va_recv hG.1 hP (ci := 10) (q0 := 0) rfl rfl) rfl hl.1 rfl (Nat.le_of_ble_eq_true rfl) dX12_spare_16 ⟨Nat.zero_le _, Nat.zero_le _⟩) hP hD hS hA [true, false, true] rfl rfl rfl (fun H locs hP hD hS => ?_)
    refine lv_aload_n (pc := 19) hx hb dX12_spare_19 rfl (lv_at hl 0 rfl) ?_
    refine lv_iconst (v := 0) (pc := 20) hx hb dX12_spare_20 (by decide) ?_
    obtain ⟨r7, hcl, hm⟩ := bd hm
    refine cr_back (run_V (pc := 21) (n := 1) (As := [.int 0]) (rest := []) ⟨hx, hb, hml, hown, hts⟩ (c_X12_highOf l D k this 0 this_tape this_taped this_size this_sort this_place this_value this_at this_fault this_words this_towns this_towns_f this_op this_arg this_codes this_names this_readNames this_namesMany this_readMany this_once this_lines this_facts this_pile this_state r6.2 r6.1 this_isMarked this_weight this_rounding this_lacks this_alikes this_g 0 r7 hcl) ⟨kw_1475, kw_16, by decide +kernel⟩ kw_1472 kw_1474 ks_123 ⟨Nat.le_of_ble_eq_true rfl, Nat.le_of_ble_eq_true rfl⟩ pr_blind (prR (hP.sub [0, 1, 2] rfl) hG) (va_recv hG.1 hP (ci := 10) (q0 := 0) rfl rfl) rfl hl.1 rfl (Nat.le_of_ble_eq_true rfl) dX12_spare_21 ⟨Nat.zero_le _, Nat.zero_le _⟩) ?_
    refine lv_istore_n (lv' := [(2, .int r7), (0, .ref this), (1, .int q1)]) (pc := 24) hx hb dX12_spare_24 rfl hl (Nat.le_of_ble_eq_true rfl) rfl (fun ls hl => ?_)
    refine lv_aload_n (pc := 25) hx hb dX12_spare_25 rfl (lv_at hl 1 rfl) ?_
    refine va_get (pc := 26) (D := D) (ci := 10) (C := RX12) (T := TX12) (N := 30) hx hb hts hiX12 hown hG.1 hP 0 rfl rfl 22 (Nat.le_of_ble_eq_true rfl) (hts _ kw_1279) (fun _ h9 => h9) rfl dX12_spare_26 ?_
    refine lv_iconst (v := 1) (pc := 29) hx hb dX12_spare_29 (by decide) ?_
    refine lv_iload_n (pc := 30) hx hb dX12_spare_30 rfl (lv_at hl 2 rfl) ?_
    refine lv_iadd (pc := 31) hx hb dX12_spare_31 ?_
    refine lv_iconst (v := 0) (pc := 32) hx hb dX12_spare_32 (by decide) ?_
    obtain ⟨hin, hm⟩ := gd hm
    refine va_iast (pc := 33) (D := D) hx hb hG.1 hP hD hS 2 0 rfl rfl hin dX12_spare_33 (fun H locs hP hD hS => ?_)
    have hP : va_P D vwCl (wd_X12_spare k this 0 this_tape this_taped this_size this_sort this_place this_value this_at this_fault this_words this_towns this_towns_f this_op this_arg this_codes this_names this_readNames this_namesMany this_readMany this_once this_lines this_facts this_pile this_state (upd r6.2 (1 + q1).toNatClampNeg 0) r6.1 this_isMarked this_weight this_rounding this_lacks this_alikes this_g) H := hP
    have hD : va_D A (wd_X12_spare k this 0 this_tape this_taped this_size this_sort this_place this_value this_at this_fault this_words this_towns this_towns_f this_op this_arg this_codes this_names this_readNames this_namesMany this_readMany this_once this_lines this_facts this_pile this_state (upd r6.2 (1 + q1).toNatClampNeg 0) r6.1 this_isMarked this_weight this_rounding this_lacks this_alikes this_g) := hD
    refine lv_aload_n (pc := 34) hx hb dX12_spare_34 rfl (lv_at hl 1 rfl) ?_
    refine lv_iconst (v := 0) (pc := 35) hx hb dX12_spare_35 (by decide) ?_
    obtain ⟨r8, hcl, hm⟩ := bd hm
    refine cr_back (run_V (pc := 36) (n := 1) (As := [.int 0]) (rest := []) ⟨hx, hb, hml, hown, hts⟩ (c_X12_highOf l D k this 0 this_tape this_taped this_size this_sort this_place this_value this_at this_fault this_words this_towns this_towns_f this_op this_arg this_codes this_names this_readNames this_namesMany this_readMany this_once this_lines this_facts this_pile this_state (upd r6.2 (1 + q1).toNatClampNeg 0) r6.1 this_isMarked this_weight this_rounding this_lacks this_alikes this_g 0 r8 hcl) ⟨kw_1475, kw_16, by decide +kernel⟩ kw_1472 kw_1474 ks_123 ⟨Nat.le_of_ble_eq_true rfl, Nat.le_of_ble_eq_true rfl⟩ pr_blind (prR (hP.sub [0, 1, 2] rfl) hG) (va_recv hG.1 hP (ci := 10) (q0 := 0) rfl rfl) rfl hl.1 rfl (Nat.le_of_ble_eq_true rfl) dX12_spare_36 ⟨Nat.zero_le _, Nat.zero_le _⟩) ?_
    refine lv_iload_n (pc := 39) hx hb dX12_spare_39 rfl (lv_at hl 0 rfl) ?_
    refine lv_isub (pc := 40) hx hb dX12_spare_40 ?_
    rw [← Option.some.inj hm]
    exact W.iret hx hb hr (fun t ht _ => hq _ _ H t ht hP hD locs hS) hS.2.2 dX12_spare_41 hlocks
  · rw [if_pos hc] at hm
    refine lv_iconst (v := (-1)) (pc := 13) hx hb dX12_spare_13 (by decide) ?_
    rw [← Option.some.inj hm]
    exact W.iret hx hb hr (fun t ht _ => hq _ _ H t ht hP hD locs hS) hS.2.2 dX12_spare_14 hlocks
theorem dX12_feel_0 : decode cX12_feel 0 = .ok (.aload_n 0, 1) := by decide +kernel
theorem dX12_feel_1 : decode cX12_feel 1 = .ok (.iconst 0, 1) := by decide +kernel
theorem dX12_feel_2 : decode cX12_feel 2 = .ok (.putfield 1, 3) := by decide +kernel
theorem dX12_feel_5 : decode cX12_feel 5 = .ok (.aload_n 0, 1) := by decide +kernel
theorem dX12_feel_6 : decode cX12_feel 6 = .ok (.iload_n 1, 1) := by decide +kernel
theorem dX12_feel_7 : decode cX12_feel 7 = .ok (.invokevirtual 303, 3) := by decide +kernel
theorem dX12_feel_10 : decode cX12_feel 10 = .ok (.ifCond .eq 16, 3) := by decide +kernel
theorem dX12_feel_13 : decode cX12_feel 13 = .ok (.aload_n 0, 1) := by decide +kernel
theorem dX12_feel_14 : decode cX12_feel 14 = .ok (.iload_n 2, 1) := by decide +kernel
theorem dX12_feel_15 : decode cX12_feel 15 = .ok (.invokevirtual 303, 3) := by decide +kernel
theorem dX12_feel_18 : decode cX12_feel 18 = .ok (.ifCond .eq 8, 3) := by decide +kernel
theorem dX12_feel_21 : decode cX12_feel 21 = .ok (.iload_n 1, 1) := by decide +kernel
theorem dX12_feel_22 : decode cX12_feel 22 = .ok (.iload_n 2, 1) := by decide +kernel
theorem dX12_feel_23 : decode cX12_feel 23 = .ok (.if_icmp .ne 5, 3) := by decide +kernel
theorem dX12_feel_26 : decode cX12_feel 26 = .ok (.iconst 0, 1) := by decide +kernel
theorem dX12_feel_27 : decode cX12_feel 27 = .ok (.ireturn, 1) := by decide +kernel
theorem dX12_feel_28 : decode cX12_feel 28 = .ok (.aload_n 0, 1) := by decide +kernel
theorem dX12_feel_29 : decode cX12_feel 29 = .ok (.invokevirtual 309, 3) := by decide +kernel
theorem dX12_feel_32 : decode cX12_feel 32 = .ok (.aload_n 0, 1) := by decide +kernel
theorem dX12_feel_33 : decode cX12_feel 33 = .ok (.getfield 113, 3) := by decide +kernel
theorem dX12_feel_36 : decode cX12_feel 36 = .ok (.bipush 7, 2) := by decide +kernel
theorem dX12_feel_38 : decode cX12_feel 38 = .ok (.iload_n 1, 1) := by decide +kernel
theorem dX12_feel_39 : decode cX12_feel 39 = .ok (.iadd, 1) := by decide +kernel
theorem dX12_feel_40 : decode cX12_feel 40 = .ok (.dup2, 1) := by decide +kernel
theorem dX12_feel_41 : decode cX12_feel 41 = .ok (.iaload, 1) := by decide +kernel
theorem dX12_feel_42 : decode cX12_feel 42 = .ok (.iconst 1, 1) := by decide +kernel
theorem dX12_feel_43 : decode cX12_feel 43 = .ok (.iload_n 2, 1) := by decide +kernel
theorem dX12_feel_44 : decode cX12_feel 44 = .ok (.ishl, 1) := by decide +kernel
theorem dX12_feel_45 : decode cX12_feel 45 = .ok (.ixor, 1) := by decide +kernel
theorem dX12_feel_46 : decode cX12_feel 46 = .ok (.iastore, 1) := by decide +kernel
theorem dX12_feel_47 : decode cX12_feel 47 = .ok (.iconst 1, 1) := by decide +kernel
theorem dX12_feel_48 : decode cX12_feel 48 = .ok (.ireturn, 1) := by decide +kernel
abbrev wd_X12_feel (k : Nat → ClassId) (this : Nat) (this_thrown : Int32) (this_tape : Nat) (this_taped : Int32) (this_size : Int32) (this_sort : Nat) (this_place : Nat) (this_value : Nat) (this_at : Int32) (this_fault : Int32) (this_words : Nat) (this_towns : Nat) (this_towns_f : Nat → Int32) (this_op : Nat) (this_arg : Nat) (this_codes : Int32) (this_names : Nat) (this_readNames : Nat) (this_namesMany : Int32) (this_readMany : Int32) (this_once : Int32) (this_lines : Nat) (this_facts : Nat) (this_pile : Nat) (this_state : Nat) (this_state_f : Nat → Int32) (this_undos : Int32) (this_isMarked : Nat) (this_weight : Int32) (this_rounding : Int32) (this_lacks : Nat) (this_alikes : Nat) (this_g : Int64) : va_W := [(this, .inr (10, [.int this_thrown, .ref this_tape, .int this_taped, .int this_size, .ref this_sort, .ref this_place, .ref this_value, .int this_at, .int this_fault, .ref this_words, .ref this_towns, .ref this_op, .ref this_arg, .int this_codes, .ref this_names, .ref this_readNames, .int this_namesMany, .int this_readMany, .int this_once, .ref this_lines, .ref this_facts, .ref this_pile, .ref this_state, .int this_undos, .ref this_isMarked, .int this_weight, .int this_rounding, .ref this_lacks, .ref this_alikes, .long this_g])), (this_towns, .inl (k 0, 60, .inl this_towns_f)), (this_state, .inl (k 0, 1104, .inl this_state_f))]
set_option maxHeartbeats 4000000 in
set_option maxRecDepth 100000 in
theorem c_X12_feel (l : Launch) (D : va_G) (k : Nat → ClassId) (this : Nat) (this_thrown : Int32) (this_tape : Nat) (this_taped : Int32) (this_size : Int32) (this_sort : Nat) (this_place : Nat) (this_value : Nat) (this_at : Int32) (this_fault : Int32) (this_words : Nat) (this_towns : Nat) (this_towns_f : Nat → Int32) (this_op : Nat) (this_arg : Nat) (this_codes : Int32) (this_names : Nat) (this_readNames : Nat) (this_namesMany : Int32) (this_readMany : Int32) (this_once : Int32) (this_lines : Nat) (this_facts : Nat) (this_pile : Nat) (this_state : Nat) (this_state_f : Nat → Int32) (this_undos : Int32) (this_isMarked : Nat) (this_weight : Int32) (this_rounding : Int32) (this_lacks : Nat) (this_alikes : Nat) (this_g : Int64) (q1 : Int32) (q2 : Int32) (R0 : Int32 × Int32 × Int32 × (Nat → Int32)) (hm : m_X12_feel this_towns_f this_state_f this_undos q1 q2 = some R0) : CW l D (TY k) yX12_feel cX12_feel 3 (some .boolean) 2 45 [.ref this, .int q1, .int q2] (wd_X12_feel k this this_thrown this_tape this_taped this_size this_sort this_place this_value this_at this_fault this_words this_towns this_towns_f this_op this_arg this_codes this_names this_readNames this_namesMany this_readMany this_once this_lines this_facts this_pile this_state this_state_f this_undos this_isMarked this_weight this_rounding this_lacks this_alikes this_g) (some (.int R0.1)) (wd_X12_feel k this R0.2.1 this_tape this_taped this_size this_sort this_place this_value this_at this_fault this_words this_towns this_towns_f this_op this_arg this_codes this_names this_readNames this_namesMany this_readMany this_once this_lines this_facts this_pile this_state R0.2.2.2 R0.2.2.1 this_isMarked this_weight this_rounding this_lacks this_alikes this_g) := by
  refine CW.mk (by decide) (Nat.le_of_ble_eq_true rfl) ?_
  intro p e s m args below meth c ls A ⟨hx, hb, hr, hts, hown, hlocks, hml⟩ hP hG hD hA hl hS hq
  have hl : lv_has ls 3 [(0, .ref this), (1, .int q1), (2, .int q2)] := hl
  unfold m_X12_feel at hm
  suffices hgo : ∀ (H : Heap) (locs : List Loc), va_P D vwCl (wd_X12_feel k this this_thrown this_tape this_taped this_size this_sort this_place this_value this_at this_fault this_words this_towns this_towns_f this_op this_arg this_codes this_names this_readNames this_namesMany this_readMany this_once this_lines this_facts this_pile this_state this_state_f this_undos this_isMarked this_weight this_rounding this_lacks this_alikes this_g) H → va_D A (wd_X12_feel k this this_thrown this_tape this_taped this_size this_sort this_place this_value this_at this_fault this_words this_towns this_towns_f this_op this_arg this_codes this_names this_readNames this_namesMany this_readMany this_once this_lines this_facts this_pile this_state this_state_f this_undos this_isMarked this_weight this_rounding this_lacks this_alikes this_g) → va_S A s.heap H locs → W p l e (Rm 2 45) s m args below meth c H locs 0 0 (MQ below (QW D (some (.int R0.1)) (wd_X12_feel k this this_thrown this_tape this_taped this_size this_sort this_place this_value this_at this_fault this_words this_towns this_towns_f this_op this_arg this_codes this_names this_readNames this_namesMany this_readMany this_once this_lines this_facts this_pile this_state this_state_f this_undos this_isMarked this_weight this_rounding this_lacks this_alikes this_g) (wd_X12_feel k this R0.2.1 this_tape this_taped this_size this_sort this_place this_value this_at this_fault this_words this_towns this_towns_f this_op this_arg this_codes this_names this_readNames this_namesMany this_readMany this_once this_lines this_facts this_pile this_state R0.2.2.2 R0.2.2.1 this_isMarked this_weight this_rounding this_lacks this_alikes this_g) s.heap.size) args s 0 0 A) (F0 m 0 ls []) from hgo _ _ hP hD hS
  clear hP hD hS
  intro H locs hP hD hS
  refine lv_aload_n (pc := 0) hx hb dX12_feel_0 rfl (lv_at hl 0 rfl) ?_
  refine lv_iconst (v := 0) (pc := 1) hx hb dX12_feel_1 (by decide) ?_
  refine va_put (pc := 2) (D := D) (ci := 10) (v := .int 0) (ty := .int) (C := RX12) (T := TX12) (N := 30) hx hb hts hiX12 tyX12 tyX12_ok nmX12 hown hG.1 hP hD hS 0 rfl rfl 0 (Nat.le_of_ble_eq_true rfl) (hts _ kw_1257) (fun _ h9 => h9) rfl (by decide +kernel) rfl rfl (Nat.le_of_ble_eq_true rfl) dX12_feel_2 (fun H locs hP hD hS => ?_)
  have hP : va_P D vwCl (wd_X12_feel k this 0 this_tape this_taped this_size this_sort this_place this_value this_at this_fault this_words this_towns this_towns_f this_op this_arg this_codes this_names this_readNames this_namesMany this_readMany this_once this_lines this_facts this_pile this_state this_state_f this_undos this_isMarked this_weight this_rounding this_lacks this_alikes this_g) H := hP
  have hD : va_D A (wd_X12_feel k this 0 this_tape this_taped this_size this_sort this_place this_value this_at this_fault this_words this_towns this_towns_f this_op this_arg this_codes this_names this_readNames this_namesMany this_readMany this_once this_lines this_facts this_pile this_state this_state_f this_undos this_isMarked this_weight this_rounding this_lacks this_alikes this_g) := hD
  refine lv_aload_n (pc := 5) hx hb dX12_feel_5 rfl (lv_at hl 0 rfl) ?_
  refine lv_iload_n (pc := 6) hx hb dX12_feel_6 rfl (lv_at hl 1 rfl) ?_
  obtain ⟨r4, hcl, hm⟩ := bd hm
  refine cr_back (run_V (pc := 7) (n := 1) (As := [.int q1]) (rest := []) ⟨hx, hb, hml, hown, hts⟩ (c_X12_isPerson l D k this 0 this_tape this_taped this_size this_sort this_place this_value this_at this_fault this_words this_towns this_towns_f this_op this_arg this_codes this_names this_readNames this_namesMany this_readMany this_once this_lines this_facts this_pile this_state this_undos this_isMarked this_weight this_rounding this_lacks this_alikes this_g q1 r4 hcl) ⟨kw_1498, kw_16, by decide +kernel⟩ kw_1495 kw_1497 ks_127 ⟨Nat.le_of_ble_eq_true rfl, Nat.le_of_ble_eq_true rfl⟩ pr_blind (prR (hP.sub [0, 1] rfl) hG) (va_recv hG.1 hP (ci := 10) (q0 := 0) rfl rfl) rfl hl.1 rfl (Nat.le_of_ble_eq_true rfl) dX12_feel_7 ⟨Nat.zero_le _, Nat.zero_le _⟩) ?_
  refine lv_if_eq (tgt := 26) (pc := 10) hx hb dX12_feel_10 (by decide) (fun hc => ?_) (fun hc => ?_)
  · rw [if_pos hc] at hm
    refine lv_iconst (v := 0) (pc := 26) hx hb dX12_feel_26 (by decide) ?_
    rw [← Option.some.inj hm]
    exact W.zret hx hb hr (nar_bool (Or.inl rfl)) (fun t ht _ => hq _ _ H t ht hP hD locs hS) hS.2.2 dX12_feel_27 hlocks
  · rw [if_neg hc] at hm
    refine lv_aload_n (pc := 13) hx hb dX12_feel_13 rfl (lv_at hl 0 rfl) ?_
    refine lv_iload_n (pc := 14) hx hb dX12_feel_14 rfl (lv_at hl 2 rfl) ?_
    obtain ⟨r5, hcl, hm⟩ := bd hm
    refine cr_back (run_V (pc := 15) (n := 1) (As := [.int q2]) (rest := []) ⟨hx, hb, hml, hown, hts⟩ (c_X12_isPerson l D k this 0 this_tape this_taped this_size this_sort this_place this_value this_at this_fault this_words this_towns this_towns_f this_op this_arg this_codes this_names this_readNames this_namesMany this_readMany this_once this_lines this_facts this_pile this_state this_undos this_isMarked this_weight this_rounding this_lacks this_alikes this_g q2 r5 hcl) ⟨kw_1498, kw_16, by decide +kernel⟩ kw_1495 kw_1497 ks_127 ⟨Nat.le_of_ble_eq_true rfl, Nat.le_of_ble_eq_true rfl⟩ pr_blind (prR (hP.sub [0, 1] rfl) hG) (va_recv hG.1 hP (ci := 10) (q0 := 0) rfl rfl) rfl hl.1 rfl (Nat.le_of_ble_eq_true rfl) dX12_feel_15 ⟨Nat.zero_le _, Nat.zero_le _⟩) ?_
    refine lv_if_eq (tgt := 26) (pc := 18) hx hb dX12_feel_18 (by decide) (fun hc => ?_) (fun hc => ?_)
    · rw [if_pos hc] at hm
      refine lv_iconst (v := 0) (pc := 26) hx hb dX12_feel_26 (by decide) ?_
      rw [← Option.some.inj hm]
      exact W.zret hx hb hr (nar_bool (Or.inl rfl)) (fun t ht _ => hq _ _ H t ht hP hD locs hS) hS.2.2 dX12_feel_27 hlocks
    · rw [if_neg hc] at hm
      refine lv_iload_n (pc := 21) hx hb dX12_feel_21 rfl (lv_at hl 1 rfl) ?_
      refine lv_iload_n (pc := 22) hx hb dX12_feel_22 rfl (lv_at hl 2 rfl) ?_
      refine lv_icmp_ne (tgt := 28) (pc := 23) hx hb dX12_feel_23 (by decide) (fun hc => ?_) (fun hc => ?_)
      · rw [if_neg hc] at hm
        refine lv_aload_n (pc := 28) hx hb dX12_feel_28 rfl (lv_at hl 0 rfl) ?_
        obtain ⟨r6, hcl, hm⟩ := bd hm
        refine cw_mask (ws' := (wd_X12_feel k this 0 this_tape this_taped this_size this_sort this_place this_value this_at this_fault this_words this_towns this_towns_f this_op this_arg this_codes this_names this_readNames this_namesMany this_readMany this_once this_lines this_facts this_pile this_state r6.2 r6.1 this_isMarked this_weight this_rounding this_lacks this_alikes this_g)) (run_V (pc := 29) (n := 0) (As := []) (rest := []) ⟨hx, hb, hml, hown, hts⟩ ((c_X12_keeps l D k this 0 this_tape this_taped this_size this_sort this_place this_value this_at this_fault this_words this_towns this_op this_arg this_codes this_names this_readNames this_namesMany this_readMany this_once this_lines this_facts this_pile this_state this_state_f this_undos this_isMarked this_weight this_rounding this_lacks this_alikes this_g r6 hcl) H.size) ⟨kw_1509, kw_16, by decide +kernel⟩ kw_1506 kw_1508 ks_128 ⟨Nat.le_of_ble_eq_true rfl, Nat.le_of_ble_eq_true rfl⟩ pw_blind (prW (P_pick [true, false, true] rfl hP) hG (D_pick [true, false, true] rfl hD)) (va_recv hG.1 hP (ci := 10) (q0 := 0) rfl rfl) rfl hl.1 rfl (Nat.le_of_ble_eq_true rfl) dX12_feel_29 ⟨Nat.zero_le _, Nat.zero_le _⟩) hP hD hS hA [true, false, true] rfl rfl rfl (fun H locs hP hD hS => ?_)
        refine lv_aload_n (pc := 32) hx hb dX12_feel_32 rfl (lv_at hl 0 rfl) ?_
        refine va_get (pc := 33) (D := D) (ci := 10) (C := RX12) (T := TX12) (N := 30) hx hb hts hiX12 hown hG.1 hP 0 rfl rfl 22 (Nat.le_of_ble_eq_true rfl) (hts _ kw_1279) (fun _ h9 => h9) rfl dX12_feel_33 ?_
        refine lv_bipush (v := 7) (pc := 36) hx hb dX12_feel_36 (by decide) ?_
        refine lv_iload_n (pc := 38) hx hb dX12_feel_38 rfl (lv_at hl 1 rfl) ?_
        refine lv_iadd (pc := 39) hx hb dX12_feel_39 ?_
        refine lv_dup2_11 (pc := 40) hx hb dX12_feel_40 rfl rfl ?_
        obtain ⟨hin, hm⟩ := gd hm
        refine va_iald (pc := 41) (D := D) hx hb hG.1 hP 2 0 rfl rfl hin dX12_feel_41 ?_
        refine lv_iconst (v := 1) (pc := 42) hx hb dX12_feel_42 (by decide) ?_
        refine lv_iload_n (pc := 43) hx hb dX12_feel_43 rfl (lv_at hl 2 rfl) ?_
        refine lv_ishl (pc := 44) hx hb dX12_feel_44 ?_
        refine lv_ixor (pc := 45) hx hb dX12_feel_45 ?_
        obtain ⟨hin, hm⟩ := gd hm
        refine va_iast (pc := 46) (D := D) hx hb hG.1 hP hD hS 2 0 rfl rfl hin dX12_feel_46 (fun H locs hP hD hS => ?_)
        have hP : va_P D vwCl (wd_X12_feel k this 0 this_tape this_taped this_size this_sort this_place this_value this_at this_fault this_words this_towns this_towns_f this_op this_arg this_codes this_names this_readNames this_namesMany this_readMany this_once this_lines this_facts this_pile this_state (upd r6.2 (7 + q1).toNatClampNeg ((r6.2 (7 + q1).toNatClampNeg) ^^^ (1 <<< (q2 &&& 31)))) r6.1 this_isMarked this_weight this_rounding this_lacks this_alikes this_g) H := hP
        have hD : va_D A (wd_X12_feel k this 0 this_tape this_taped this_size this_sort this_place this_value this_at this_fault this_words this_towns this_towns_f this_op this_arg this_codes this_names this_readNames this_namesMany this_readMany this_once this_lines this_facts this_pile this_state (upd r6.2 (7 + q1).toNatClampNeg ((r6.2 (7 + q1).toNatClampNeg) ^^^ (1 <<< (q2 &&& 31)))) r6.1 this_isMarked this_weight this_rounding this_lacks this_alikes this_g) := hD
        refine lv_iconst (v := 1) (pc := 47) hx hb dX12_feel_47 (by decide) ?_
        rw [← Option.some.inj hm]
        exact W.zret hx hb hr (nar_bool (Or.inr rfl)) (fun t ht _ => hq _ _ H t ht hP hD locs hS) hS.2.2 dX12_feel_48 hlocks
      · rw [if_pos hc] at hm
        refine lv_iconst (v := 0) (pc := 26) hx hb dX12_feel_26 (by decide) ?_
        rw [← Option.some.inj hm]
        exact W.zret hx hb hr (nar_bool (Or.inl rfl)) (fun t ht _ => hq _ _ H t ht hP hD locs hS) hS.2.2 dX12_feel_27 hlocks
theorem dX12_day_0 : decode cX12_day 0 = .ok (.aload_n 0, 1) := by decide +kernel
theorem dX12_day_1 : decode cX12_day 1 = .ok (.iconst 0, 1) := by decide +kernel
theorem dX12_day_2 : decode cX12_day 2 = .ok (.putfield 1, 3) := by decide +kernel
theorem dX12_day_5 : decode cX12_day 5 = .ok (.aload_n 0, 1) := by decide +kernel
theorem dX12_day_6 : decode cX12_day 6 = .ok (.invokevirtual 309, 3) := by decide +kernel
theorem dX12_day_9 : decode cX12_day 9 = .ok (.aload_n 0, 1) := by decide +kernel
theorem dX12_day_10 : decode cX12_day 10 = .ok (.iconst 0, 1) := by decide +kernel
theorem dX12_day_11 : decode cX12_day 11 = .ok (.invokevirtual 293, 3) := by decide +kernel
theorem dX12_day_14 : decode cX12_day 14 = .ok (.istore_n 1, 1) := by decide +kernel
theorem dX12_day_15 : decode cX12_day 15 = .ok (.aload_n 0, 1) := by decide +kernel
theorem dX12_day_16 : decode cX12_day 16 = .ok (.iconst 0, 1) := by decide +kernel
theorem dX12_day_17 : decode cX12_day 17 = .ok (.invokevirtual 315, 3) := by decide +kernel
theorem dX12_day_20 : decode cX12_day 20 = .ok (.pop, 1) := by decide +kernel
theorem dX12_day_21 : decode cX12_day 21 = .ok (.aload_n 0, 1) := by decide +kernel
theorem dX12_day_22 : decode cX12_day 22 = .ok (.iconst 0, 1) := by decide +kernel
theorem dX12_day_23 : decode cX12_day 23 = .ok (.invokevirtual 293, 3) := by decide +kernel
theorem dX12_day_26 : decode cX12_day 26 = .ok (.iload_n 1, 1) := by decide +kernel
theorem dX12_day_27 : decode cX12_day 27 = .ok (.isub, 1) := by decide +kernel
theorem dX12_day_28 : decode cX12_day 28 = .ok (.ireturn, 1) := by decide +kernel
abbrev wd_X12_day (k : Nat → ClassId) (this : Nat) (this_thrown : Int32) (this_tape : Nat) (this_taped : Int32) (this_size : Int32) (this_sort : Nat) (this_place : Nat) (this_value : Nat) (this_at : Int32) (this_fault : Int32) (this_words : Nat) (this_towns : Nat) (this_towns_f : Nat → Int32) (this_op : Nat) (this_op_f : Nat → Int32) (this_arg : Nat) (this_arg_f : Nat → Int32) (this_codes : Int32) (this_names : Nat) (this_readNames : Nat) (this_namesMany : Int32) (this_readMany : Int32) (this_once : Int32) (this_lines : Nat) (this_facts : Nat) (this_facts_f : Nat → Int32) (this_pile : Nat) (this_pile_f : Nat → Int32) (this_state : Nat) (this_state_f : Nat → Int32) (this_undos : Int32) (this_isMarked : Nat) (this_weight : Int32) (this_rounding : Int32) (this_lacks : Nat) (this_lacks_f : Nat → Int32) (this_alikes : Nat) (this_g : Int64) : va_W := [(this, .inr (10, [.int this_thrown, .ref this_tape, .int this_taped, .int this_size, .ref this_sort, .ref this_place, .ref this_value, .int this_at, .int this_fault, .ref this_words, .ref this_towns, .ref this_op, .ref this_arg, .int this_codes, .ref this_names, .ref this_readNames, .int this_namesMany, .int this_readMany, .int this_once, .ref this_lines, .ref this_facts, .ref this_pile, .ref this_state, .int this_undos, .ref this_isMarked, .int this_weight, .int this_rounding, .ref this_lacks, .ref this_alikes, .long this_g])), (this_towns, .inl (k 0, 60, .inl this_towns_f)), (this_op, .inl (k 0, 2200, .inl this_op_f)), (this_arg, .inl (k 0, 2200, .inl this_arg_f)), (this_facts, .inl (k 0, 4, .inl this_facts_f)), (this_pile, .inl (k 0, 1100, .inl this_pile_f)), (this_state, .inl (k 0, 1104, .inl this_state_f)), (this_lacks, .inl (k 0, 6, .inl this_lacks_f))]
set_option maxHeartbeats 4000000 in
set_option maxRecDepth 100000 in
theorem c_X12_day (l : Launch) (D : va_G) (k : Nat → ClassId) (this : Nat) (this_thrown : Int32) (this_tape : Nat) (this_taped : Int32) (this_size : Int32) (this_sort : Nat) (this_place : Nat) (this_value : Nat) (this_at : Int32) (this_fault : Int32) (this_words : Nat) (this_towns : Nat) (this_towns_f : Nat → Int32) (this_op : Nat) (this_op_f : Nat → Int32) (this_arg : Nat) (this_arg_f : Nat → Int32) (this_codes : Int32) (this_names : Nat) (this_readNames : Nat) (this_namesMany : Int32) (this_readMany : Int32) (this_once : Int32) (this_lines : Nat) (this_facts : Nat) (this_facts_f : Nat → Int32) (this_pile : Nat) (this_pile_f : Nat → Int32) (this_state : Nat) (this_state_f : Nat → Int32) (this_undos : Int32) (this_isMarked : Nat) (this_weight : Int32) (this_rounding : Int32) (this_lacks : Nat) (this_lacks_f : Nat → Int32) (this_alikes : Nat) (this_g : Int64) (R0 : Int32 × Int32 × Int32 × (Nat → Int32) × (Nat → Int32) × (Nat → Int32) × (Nat → Int32)) (hm : m_X12_day this_towns_f this_op_f this_arg_f this_facts_f this_pile_f this_state_f this_undos this_weight this_rounding this_lacks_f = some R0) : CW l D (TY k) yX12_day cX12_day 2 (some .int) 5 117 [.ref this] (wd_X12_day k this this_thrown this_tape this_taped this_size this_sort this_place this_value this_at this_fault this_words this_towns this_towns_f this_op this_op_f this_arg this_arg_f this_codes this_names this_readNames this_namesMany this_readMany this_once this_lines this_facts this_facts_f this_pile this_pile_f this_state this_state_f this_undos this_isMarked this_weight this_rounding this_lacks this_lacks_f this_alikes this_g) (some (.int R0.1)) (wd_X12_day k this R0.2.1 this_tape this_taped this_size this_sort this_place this_value this_at this_fault this_words this_towns this_towns_f this_op this_op_f this_arg this_arg_f this_codes this_names this_readNames this_namesMany this_readMany this_once this_lines this_facts R0.2.2.2.1 this_pile R0.2.2.2.2.1 this_state R0.2.2.2.2.2.1 R0.2.2.1 this_isMarked this_weight this_rounding this_lacks R0.2.2.2.2.2.2 this_alikes this_g) := by
  refine CW.mk (by decide) (Nat.le_of_ble_eq_true rfl) ?_
  intro p e s m args below meth c ls A ⟨hx, hb, hr, hts, hown, hlocks, hml⟩ hP hG hD hA hl hS hq
  have hl : lv_has ls 2 [(0, .ref this)] := hl
  unfold m_X12_day at hm
  suffices hgo : ∀ (H : Heap) (locs : List Loc), va_P D vwCl (wd_X12_day k this this_thrown this_tape this_taped this_size this_sort this_place this_value this_at this_fault this_words this_towns this_towns_f this_op this_op_f this_arg this_arg_f this_codes this_names this_readNames this_namesMany this_readMany this_once this_lines this_facts this_facts_f this_pile this_pile_f this_state this_state_f this_undos this_isMarked this_weight this_rounding this_lacks this_lacks_f this_alikes this_g) H → va_D A (wd_X12_day k this this_thrown this_tape this_taped this_size this_sort this_place this_value this_at this_fault this_words this_towns this_towns_f this_op this_op_f this_arg this_arg_f this_codes this_names this_readNames this_namesMany this_readMany this_once this_lines this_facts this_facts_f this_pile this_pile_f this_state this_state_f this_undos this_isMarked this_weight this_rounding this_lacks this_lacks_f this_alikes this_g) → va_S A s.heap H locs → W p l e (Rm 5 117) s m args below meth c H locs 0 0 (MQ below (QW D (some (.int R0.1)) (wd_X12_day k this this_thrown this_tape this_taped this_size this_sort this_place this_value this_at this_fault this_words this_towns this_towns_f this_op this_op_f this_arg this_arg_f this_codes this_names this_readNames this_namesMany this_readMany this_once this_lines this_facts this_facts_f this_pile this_pile_f this_state this_state_f this_undos this_isMarked this_weight this_rounding this_lacks this_lacks_f this_alikes this_g) (wd_X12_day k this R0.2.1 this_tape this_taped this_size this_sort this_place this_value this_at this_fault this_words this_towns this_towns_f this_op this_op_f this_arg this_arg_f this_codes this_names this_readNames this_namesMany this_readMany this_once this_lines this_facts R0.2.2.2.1 this_pile R0.2.2.2.2.1 this_state R0.2.2.2.2.2.1 R0.2.2.1 this_isMarked this_weight this_rounding this_lacks R0.2.2.2.2.2.2 this_alikes this_g) s.heap.size) args s 0 0 A) (F0 m 0 ls []) from hgo _ _ hP hD hS
  clear hP hD hS
  intro H locs hP hD hS
  refine lv_aload_n (pc := 0) hx hb dX12_day_0 rfl (lv_at hl 0 rfl) ?_
  refine lv_iconst (v := 0) (pc := 1) hx hb dX12_day_1 (by decide) ?_
  refine va_put (pc := 2) (D := D) (ci := 10) (v := .int 0) (ty := .int) (C := RX12) (T := TX12) (N := 30) hx hb hts hiX12 tyX12 tyX12_ok nmX12 hown hG.1 hP hD hS 0 rfl rfl 0 (Nat.le_of_ble_eq_true rfl) (hts _ kw_1257) (fun _ h9 => h9) rfl (by decide +kernel) rfl rfl (Nat.le_of_ble_eq_true rfl) dX12_day_2 (fun H locs hP hD hS => ?_)
  have hP : va_P D vwCl (wd_X12_day k this 0 this_tape this_taped this_size this_sort this_place this_value this_at this_fault this_words this_towns this_towns_f this_op this_op_f this_arg this_arg_f this_codes this_names this_readNames this_namesMany this_readMany this_once this_lines this_facts this_facts_f this_pile this_pile_f this_state this_state_f this_undos this_isMarked this_weight this_rounding this_lacks this_lacks_f this_alikes this_g) H := hP
  have hD : va_D A (wd_X12_day k this 0 this_tape this_taped this_size this_sort this_place this_value this_at this_fault this_words this_towns this_towns_f this_op this_op_f this_arg this_arg_f this_codes this_names this_readNames this_namesMany this_readMany this_once this_lines this_facts this_facts_f this_pile this_pile_f this_state this_state_f this_undos this_isMarked this_weight this_rounding this_lacks this_lacks_f this_alikes this_g) := hD
  refine lv_aload_n (pc := 5) hx hb dX12_day_5 rfl (lv_at hl 0 rfl) ?_
  obtain ⟨r5, hcl, hm⟩ := bd hm
  refine cw_mask (ws' := (wd_X12_day k this 0 this_tape this_taped this_size this_sort this_place this_value this_at this_fault this_words this_towns this_towns_f this_op this_op_f this_arg this_arg_f this_codes this_names this_readNames this_namesMany this_readMany this_once this_lines this_facts this_facts_f this_pile this_pile_f this_state r5.2 r5.1 this_isMarked this_weight this_rounding this_lacks this_lacks_f this_alikes this_g)) (run_V (pc := 6) (n := 0) (As := []) (rest := []) ⟨hx, hb, hml, hown, hts⟩ ((c_X12_keeps l D k this 0 this_tape this_taped this_size this_sort this_place this_value this_at this_fault this_words this_towns this_op this_arg this_codes this_names this_readNames this_namesMany this_readMany this_once this_lines this_facts this_pile this_state this_state_f this_undos this_isMarked this_weight this_rounding this_lacks this_alikes this_g r5 hcl) H.size) ⟨kw_1509, kw_16, by decide +kernel⟩ kw_1506 kw_1508 ks_128 ⟨Nat.le_of_ble_eq_true rfl, Nat.le_of_ble_eq_true rfl⟩ pw_blind (prW (P_pick [true, false, false, false, false, false, true] rfl hP) hG (D_pick [true, false, false, false, false, false, true] rfl hD)) (va_recv hG.1 hP (ci := 10) (q0 := 0) rfl rfl) rfl hl.1 rfl (Nat.le_of_ble_eq_true rfl) dX12_day_6 ⟨Nat.zero_le _, Nat.zero_le _⟩) hP hD hS hA [true, false, false, false, false, false, true] rfl rfl rfl (fun H locs hP hD hS => ?_)
  refine lv_aload_n (pc := 9) hx hb dX12_day_9 rfl (lv_at hl 0 rfl) ?_
  refine lv_iconst (v := 0) (pc := 10) hx hb dX12_day_10 (by decide) ?_
  obtain ⟨r6, hcl, hm⟩ := bd hm
  refine cr_back (run_V (pc := 11) (n := 1) (As := [.int 0]) (rest := []) ⟨hx, hb, hml, hown, hts⟩ (c_X12_highOf l D k this 0 this_tape this_taped this_size this_sort this_place this_value this_at this_fault this_words this_towns this_towns_f this_op this_arg this_codes this_names this_readNames this_namesMany this_readMany this_once this_lines this_facts this_pile this_state r5.2 r5.1 this_isMarked this_weight this_rounding this_lacks this_alikes this_g 0 r6 hcl) ⟨kw_1475, kw_16, by decide +kernel⟩ kw_1472 kw_1474 ks_123 ⟨Nat.le_of_ble_eq_true rfl, Nat.le_of_ble_eq_true rfl⟩ pr_blind (prR (hP.sub [0, 1, 6] rfl) hG) (va_recv hG.1 hP (ci := 10) (q0 := 0) rfl rfl) rfl hl.1 rfl (Nat.le_of_ble_eq_true rfl) dX12_day_11 ⟨Nat.zero_le _, Nat.zero_le _⟩) ?_
  refine lv_istore_n (lv' := [(1, .int r6), (0, .ref this)]) (pc := 14) hx hb dX12_day_14 rfl hl (Nat.le_of_ble_eq_true rfl) rfl (fun ls hl => ?_)
  refine lv_aload_n (pc := 15) hx hb dX12_day_15 rfl (lv_at hl 1 rfl) ?_
  refine lv_iconst (v := 0) (pc := 16) hx hb dX12_day_16 (by decide) ?_
  obtain ⟨r7, hcl, hm⟩ := bd hm
  refine cw_mask (ws' := (wd_X12_day k this 0 this_tape this_taped this_size this_sort this_place this_value this_at this_fault this_words this_towns this_towns_f this_op this_op_f this_arg this_arg_f this_codes this_names this_readNames this_namesMany this_readMany this_once this_lines this_facts r7.2.1 this_pile r7.2.2.1 this_state r7.2.2.2.1 r5.1 this_isMarked this_weight this_rounding this_lacks r7.2.2.2.2 this_alikes this_g)) (run_V (pc := 17) (n := 1) (As := [.int 0]) (rest := []) ⟨hx, hb, hml, hown, hts⟩ ((c_X12_passes l D k this 0 this_tape this_taped this_size this_sort this_place this_value this_at this_fault this_words this_towns this_towns_f this_op this_op_f this_arg this_arg_f this_codes this_names this_readNames this_namesMany this_readMany this_once this_lines this_facts this_facts_f this_pile this_pile_f this_state r5.2 r5.1 this_isMarked this_weight this_rounding this_lacks this_lacks_f this_alikes this_g 0 r7 hcl) H.size) ⟨kw_1537, kw_16, by decide +kernel⟩ kw_1534 kw_1536 ks_131 ⟨Nat.le_of_ble_eq_true rfl, Nat.le_of_ble_eq_true rfl⟩ pw_blind (prW (P_pick [true, true, true, true, true, true, true, true] rfl hP) hG (D_pick [true, true, true, true, true, true, true, true] rfl hD)) (va_recv hG.1 hP (ci := 10) (q0 := 0) rfl rfl) rfl hl.1 rfl (Nat.le_of_ble_eq_true rfl) dX12_day_17 ⟨Nat.zero_le _, Nat.zero_le _⟩) hP hD hS hA [true, true, true, true, true, true, true, true] rfl rfl rfl (fun H locs hP hD hS => ?_)
  refine lv_pop (pc := 20) hx hb dX12_day_20 rfl ?_
  refine lv_aload_n (pc := 21) hx hb dX12_day_21 rfl (lv_at hl 1 rfl) ?_
  refine lv_iconst (v := 0) (pc := 22) hx hb dX12_day_22 (by decide) ?_
  obtain ⟨r8, hcl, hm⟩ := bd hm
  refine cr_back (run_V (pc := 23) (n := 1) (As := [.int 0]) (rest := []) ⟨hx, hb, hml, hown, hts⟩ (c_X12_highOf l D k this 0 this_tape this_taped this_size this_sort this_place this_value this_at this_fault this_words this_towns this_towns_f this_op this_arg this_codes this_names this_readNames this_namesMany this_readMany this_once this_lines this_facts this_pile this_state r7.2.2.2.1 r5.1 this_isMarked this_weight this_rounding this_lacks this_alikes this_g 0 r8 hcl) ⟨kw_1475, kw_16, by decide +kernel⟩ kw_1472 kw_1474 ks_123 ⟨Nat.le_of_ble_eq_true rfl, Nat.le_of_ble_eq_true rfl⟩ pr_blind (prR (hP.sub [0, 1, 6] rfl) hG) (va_recv hG.1 hP (ci := 10) (q0 := 0) rfl rfl) rfl hl.1 rfl (Nat.le_of_ble_eq_true rfl) dX12_day_23 ⟨Nat.zero_le _, Nat.zero_le _⟩) ?_
  refine lv_iload_n (pc := 26) hx hb dX12_day_26 rfl (lv_at hl 0 rfl) ?_
  refine lv_isub (pc := 27) hx hb dX12_day_27 ?_
  rw [← Option.some.inj hm]
  exact W.iret hx hb hr (fun t ht _ => hq _ _ H t ht hP hD locs hS) hS.2.2 dX12_day_28 hlocks
theorem dX12_undo_0 : decode cX12_undo 0 = .ok (.aload_n 0, 1) := by decide +kernel
theorem dX12_undo_1 : decode cX12_undo 1 = .ok (.iconst 0, 1) := by decide +kernel
theorem dX12_undo_2 : decode cX12_undo 2 = .ok (.putfield 1, 3) := by decide +kernel
theorem dX12_undo_5 : decode cX12_undo 5 = .ok (.aload_n 0, 1) := by decide +kernel
theorem dX12_undo_6 : decode cX12_undo 6 = .ok (.getfield 268, 3) := by decide +kernel
theorem dX12_undo_9 : decode cX12_undo 9 = .ok (.ifCond .ne 5, 3) := by decide +kernel
theorem dX12_undo_12 : decode cX12_undo 12 = .ok (.iconst 0, 1) := by decide +kernel
theorem dX12_undo_13 : decode cX12_undo 13 = .ok (.ireturn, 1) := by decide +kernel
theorem dX12_undo_14 : decode cX12_undo 14 = .ok (.aload_n 0, 1) := by decide +kernel
theorem dX12_undo_15 : decode cX12_undo 15 = .ok (.dup, 1) := by decide +kernel
theorem dX12_undo_16 : decode cX12_undo 16 = .ok (.getfield 268, 3) := by decide +kernel
theorem dX12_undo_19 : decode cX12_undo 19 = .ok (.iconst 1, 1) := by decide +kernel
theorem dX12_undo_20 : decode cX12_undo 20 = .ok (.isub, 1) := by decide +kernel
theorem dX12_undo_21 : decode cX12_undo 21 = .ok (.putfield 268, 3) := by decide +kernel
theorem dX12_undo_24 : decode cX12_undo 24 = .ok (.aload_n 0, 1) := by decide +kernel
theorem dX12_undo_25 : decode cX12_undo 25 = .ok (.bipush 48, 2) := by decide +kernel
theorem dX12_undo_27 : decode cX12_undo 27 = .ok (.iconst 5, 1) := by decide +kernel
theorem dX12_undo_28 : decode cX12_undo 28 = .ok (.aload_n 0, 1) := by decide +kernel
theorem dX12_undo_29 : decode cX12_undo 29 = .ok (.getfield 268, 3) := by decide +kernel
theorem dX12_undo_32 : decode cX12_undo 32 = .ok (.iadd, 1) := by decide +kernel
theorem dX12_undo_33 : decode cX12_undo 33 = .ok (.imul, 1) := by decide +kernel
theorem dX12_undo_34 : decode cX12_undo 34 = .ok (.iconst 0, 1) := by decide +kernel
theorem dX12_undo_35 : decode cX12_undo 35 = .ok (.bipush 13, 2) := by decide +kernel
theorem dX12_undo_37 : decode cX12_undo 37 = .ok (.invokevirtual 277, 3) := by decide +kernel
theorem dX12_undo_40 : decode cX12_undo 40 = .ok (.iconst 1, 1) := by decide +kernel
theorem dX12_undo_41 : decode cX12_undo 41 = .ok (.ireturn, 1) := by decide +kernel
abbrev wd_X12_undo (k : Nat → ClassId) (this : Nat) (this_thrown : Int32) (this_tape : Nat) (this_taped : Int32) (this_size : Int32) (this_sort : Nat) (this_place : Nat) (this_value : Nat) (this_at : Int32) (this_fault : Int32) (this_words : Nat) (this_towns : Nat) (this_op : Nat) (this_arg : Nat) (this_codes : Int32) (this_names : Nat) (this_readNames : Nat) (this_namesMany : Int32) (this_readMany : Int32) (this_once : Int32) (this_lines : Nat) (this_facts : Nat) (this_pile : Nat) (this_state : Nat) (this_state_f : Nat → Int32) (this_undos : Int32) (this_isMarked : Nat) (this_weight : Int32) (this_rounding : Int32) (this_lacks : Nat) (this_alikes : Nat) (this_g : Int64) : va_W := [(this, .inr (10, [.int this_thrown, .ref this_tape, .int this_taped, .int this_size, .ref this_sort, .ref this_place, .ref this_value, .int this_at, .int this_fault, .ref this_words, .ref this_towns, .ref this_op, .ref this_arg, .int this_codes, .ref this_names, .ref this_readNames, .int this_namesMany, .int this_readMany, .int this_once, .ref this_lines, .ref this_facts, .ref this_pile, .ref this_state, .int this_undos, .ref this_isMarked, .int this_weight, .int this_rounding, .ref this_lacks, .ref this_alikes, .long this_g])), (this_state, .inl (k 0, 1104, .inl this_state_f))]
set_option maxHeartbeats 4000000 in
set_option maxRecDepth 100000 in
theorem c_X12_undo (l : Launch) (D : va_G) (k : Nat → ClassId) (this : Nat) (this_thrown : Int32) (this_tape : Nat) (this_taped : Int32) (this_size : Int32) (this_sort : Nat) (this_place : Nat) (this_value : Nat) (this_at : Int32) (this_fault : Int32) (this_words : Nat) (this_towns : Nat) (this_op : Nat) (this_arg : Nat) (this_codes : Int32) (this_names : Nat) (this_readNames : Nat) (this_namesMany : Int32) (this_readMany : Int32) (this_once : Int32) (this_lines : Nat) (this_facts : Nat) (this_pile : Nat) (this_state : Nat) (this_state_f : Nat → Int32) (this_undos : Int32) (this_isMarked : Nat) (this_weight : Int32) (this_rounding : Int32) (this_lacks : Nat) (this_alikes : Nat) (this_g : Int64) (R0 : Int32 × Int32 × Int32 × (Nat → Int32)) (hm : m_X12_undo this_state_f this_undos = some R0) : CW l D (TY k) yX12_undo cX12_undo 1 (some .boolean) 1 24 [.ref this] (wd_X12_undo k this this_thrown this_tape this_taped this_size this_sort this_place this_value this_at this_fault this_words this_towns this_op this_arg this_codes this_names this_readNames this_namesMany this_readMany this_once this_lines this_facts this_pile this_state this_state_f this_undos this_isMarked this_weight this_rounding this_lacks this_alikes this_g) (some (.int R0.1)) (wd_X12_undo k this R0.2.1 this_tape this_taped this_size this_sort this_place this_value this_at this_fault this_words this_towns this_op this_arg this_codes this_names this_readNames this_namesMany this_readMany this_once this_lines this_facts this_pile this_state R0.2.2.2 R0.2.2.1 this_isMarked this_weight this_rounding this_lacks this_alikes this_g) := by
  refine CW.mk (by decide) (Nat.le_of_ble_eq_true rfl) ?_
  intro p e s m args below meth c ls A ⟨hx, hb, hr, hts, hown, hlocks, hml⟩ hP hG hD hA hl hS hq
  have hl : lv_has ls 1 [(0, .ref this)] := hl
  unfold m_X12_undo at hm
  suffices hgo : ∀ (H : Heap) (locs : List Loc), va_P D vwCl (wd_X12_undo k this this_thrown this_tape this_taped this_size this_sort this_place this_value this_at this_fault this_words this_towns this_op this_arg this_codes this_names this_readNames this_namesMany this_readMany this_once this_lines this_facts this_pile this_state this_state_f this_undos this_isMarked this_weight this_rounding this_lacks this_alikes this_g) H → va_D A (wd_X12_undo k this this_thrown this_tape this_taped this_size this_sort this_place this_value this_at this_fault this_words this_towns this_op this_arg this_codes this_names this_readNames this_namesMany this_readMany this_once this_lines this_facts this_pile this_state this_state_f this_undos this_isMarked this_weight this_rounding this_lacks this_alikes this_g) → va_S A s.heap H locs → W p l e (Rm 1 24) s m args below meth c H locs 0 0 (MQ below (QW D (some (.int R0.1)) (wd_X12_undo k this this_thrown this_tape this_taped this_size this_sort this_place this_value this_at this_fault this_words this_towns this_op this_arg this_codes this_names this_readNames this_namesMany this_readMany this_once this_lines this_facts this_pile this_state this_state_f this_undos this_isMarked this_weight this_rounding this_lacks this_alikes this_g) (wd_X12_undo k this R0.2.1 this_tape this_taped this_size this_sort this_place this_value this_at this_fault this_words this_towns this_op this_arg this_codes this_names this_readNames this_namesMany this_readMany this_once this_lines this_facts this_pile this_state R0.2.2.2 R0.2.2.1 this_isMarked this_weight this_rounding this_lacks this_alikes this_g) s.heap.size) args s 0 0 A) (F0 m 0 ls []) from hgo _ _ hP hD hS
  clear hP hD hS
  intro H locs hP hD hS
  refine lv_aload_n (pc := 0) hx hb dX12_undo_0 rfl (lv_at hl 0 rfl) ?_
  refine lv_iconst (v := 0) (pc := 1) hx hb dX12_undo_1 (by decide) ?_
  refine va_put (pc := 2) (D := D) (ci := 10) (v := .int 0) (ty := .int) (C := RX12) (T := TX12) (N := 30) hx hb hts hiX12 tyX12 tyX12_ok nmX12 hown hG.1 hP hD hS 0 rfl rfl 0 (Nat.le_of_ble_eq_true rfl) (hts _ kw_1257) (fun _ h9 => h9) rfl (by decide +kernel) rfl rfl (Nat.le_of_ble_eq_true rfl) dX12_undo_2 (fun H locs hP hD hS => ?_)
  have hP : va_P D vwCl (wd_X12_undo k this 0 this_tape this_taped this_size this_sort this_place this_value this_at this_fault this_words this_towns this_op this_arg this_codes this_names this_readNames this_namesMany this_readMany this_once this_lines this_facts this_pile this_state this_state_f this_undos this_isMarked this_weight this_rounding this_lacks this_alikes this_g) H := hP
  have hD : va_D A (wd_X12_undo k this 0 this_tape this_taped this_size this_sort this_place this_value this_at this_fault this_words this_towns this_op this_arg this_codes this_names this_readNames this_namesMany this_readMany this_once this_lines this_facts this_pile this_state this_state_f this_undos this_isMarked this_weight this_rounding this_lacks this_alikes this_g) := hD
  refine lv_aload_n (pc := 5) hx hb dX12_undo_5 rfl (lv_at hl 0 rfl) ?_
  refine va_get (pc := 6) (D := D) (ci := 10) (C := RX12) (T := TX12) (N := 30) hx hb hts hiX12 hown hG.1 hP 0 rfl rfl 23 (Nat.le_of_ble_eq_true rfl) (hts _ kw_1280) (fun _ h9 => h9) rfl dX12_undo_6 ?_
  refine lv_if_ne (tgt := 14) (pc := 9) hx hb dX12_undo_9 (by decide) (fun hc => ?_) (fun hc => ?_)
  · rw [if_neg hc] at hm
    refine lv_aload_n (pc := 14) hx hb dX12_undo_14 rfl (lv_at hl 0 rfl) ?_
    refine lv_dup (pc := 15) hx hb dX12_undo_15 rfl ?_
    refine va_get (pc := 16) (D := D) (ci := 10) (C := RX12) (T := TX12) (N := 30) hx hb hts hiX12 hown hG.1 hP 0 rfl rfl 23 (Nat.le_of_ble_eq_true rfl) (hts _ kw_1280) (fun _ h9 => h9) rfl dX12_undo_16 ?_
    refine lv_iconst (v := 1) (pc := 19) hx hb dX12_undo_19 (by decide) ?_
    refine lv_isub (pc := 20) hx hb dX12_undo_20 ?_
    refine va_put (pc := 21) (D := D) (ci := 10) (v := .int (this_undos - 1)) (ty := .int) (C := RX12) (T := TX12) (N := 30) hx hb hts hiX12 tyX12 tyX12_ok nmX12 hown hG.1 hP hD hS 0 rfl rfl 23 (Nat.le_of_ble_eq_true rfl) (hts _ kw_1280) (fun _ h9 => h9) rfl (by decide +kernel) rfl rfl (Nat.le_of_ble_eq_true rfl) dX12_undo_21 (fun H locs hP hD hS => ?_)
    have hP : va_P D vwCl (wd_X12_undo k this 0 this_tape this_taped this_size this_sort this_place this_value this_at this_fault this_words this_towns this_op this_arg this_codes this_names this_readNames this_namesMany this_readMany this_once this_lines this_facts this_pile this_state this_state_f (this_undos - 1) this_isMarked this_weight this_rounding this_lacks this_alikes this_g) H := hP
    have hD : va_D A (wd_X12_undo k this 0 this_tape this_taped this_size this_sort this_place this_value this_at this_fault this_words this_towns this_op this_arg this_codes this_names this_readNames this_namesMany this_readMany this_once this_lines this_facts this_pile this_state this_state_f (this_undos - 1) this_isMarked this_weight this_rounding this_lacks this_alikes this_g) := hD
    refine lv_aload_n (pc := 24) hx hb dX12_undo_24 rfl (lv_at hl 0 rfl) ?_
    refine lv_bipush (v := 48) (pc := 25) hx hb dX12_undo_25 (by decide) ?_
    refine lv_iconst (v := 5) (pc := 27) hx hb dX12_undo_27 (by decide) ?_
    refine lv_aload_n (pc := 28) hx hb dX12_undo_28 rfl (lv_at hl 0 rfl) ?_
    refine va_get (pc := 29) (D := D) (ci := 10) (C := RX12) (T := TX12) (N := 30) hx hb hts hiX12 hown hG.1 hP 0 rfl rfl 23 (Nat.le_of_ble_eq_true rfl) (hts _ kw_1280) (fun _ h9 => h9) rfl dX12_undo_29 ?_
    refine lv_iadd (pc := 32) hx hb dX12_undo_32 ?_
    refine lv_imul (pc := 33) hx hb dX12_undo_33 ?_
    refine lv_iconst (v := 0) (pc := 34) hx hb dX12_undo_34 (by decide) ?_
    refine lv_bipush (v := 13) (pc := 35) hx hb dX12_undo_35 (by decide) ?_
    obtain ⟨r2, hcl, hm⟩ := bd hm
    refine cw_mask (ws' := (wd_X12_undo k this 0 this_tape this_taped this_size this_sort this_place this_value this_at this_fault this_words this_towns this_op this_arg this_codes this_names this_readNames this_namesMany this_readMany this_once this_lines this_facts this_pile this_state r2 (this_undos - 1) this_isMarked this_weight this_rounding this_lacks this_alikes this_g)) (run_V (pc := 37) (n := 3) (As := [.int (48 * (5 + (this_undos - 1))), .int 0, .int 13]) (rest := []) ⟨hx, hb, hml, hown, hts⟩ ((c_X12_copies l D k this 0 this_tape this_taped this_size this_sort this_place this_value this_at this_fault this_words this_towns this_op this_arg this_codes this_names this_readNames this_namesMany this_readMany this_once this_lines this_facts this_pile this_state this_state_f (this_undos - 1) this_isMarked this_weight this_rounding this_lacks this_alikes this_g (48 * (5 + (this_undos - 1))) 0 13 r2 hcl) H.size) ⟨kw_1513, kw_16, by decide +kernel⟩ kw_1510 kw_1512 ks_129 ⟨Nat.le_of_ble_eq_true rfl, Nat.le_of_ble_eq_true rfl⟩ pw_blind (prW (P_pick [true, true] rfl hP) hG (D_pick [true, true] rfl hD)) (va_recv hG.1 hP (ci := 10) (q0 := 0) rfl rfl) rfl hl.1 rfl (Nat.le_of_ble_eq_true rfl) dX12_undo_37 ⟨Nat.zero_le _, Nat.zero_le _⟩) hP hD hS hA [true, true] rfl rfl rfl (fun H locs hP hD hS => ?_)
    refine lv_iconst (v := 1) (pc := 40) hx hb dX12_undo_40 (by decide) ?_
    rw [← Option.some.inj hm]
    exact W.zret hx hb hr (nar_bool (Or.inr rfl)) (fun t ht _ => hq _ _ H t ht hP hD locs hS) hS.2.2 dX12_undo_41 hlocks
  · rw [if_pos hc] at hm
    refine lv_iconst (v := 0) (pc := 12) hx hb dX12_undo_12 (by decide) ?_
    rw [← Option.some.inj hm]
    exact W.zret hx hb hr (nar_bool (Or.inl rfl)) (fun t ht _ => hq _ _ H t ht hP hD locs hS) hS.2.2 dX12_undo_13 hlocks
theorem dX12_judged_0 : decode cX12_judged 0 = .ok (.aload_n 0, 1) := by decide +kernel
theorem dX12_judged_1 : decode cX12_judged 1 = .ok (.iconst 0, 1) := by decide +kernel
theorem dX12_judged_2 : decode cX12_judged 2 = .ok (.putfield 1, 3) := by decide +kernel
theorem dX12_judged_5 : decode cX12_judged 5 = .ok (.iload_n 1, 1) := by decide +kernel
theorem dX12_judged_6 : decode cX12_judged 6 = .ok (.iconst 0, 1) := by decide +kernel
theorem dX12_judged_7 : decode cX12_judged 7 = .ok (.iconst 2, 1) := by decide +kernel
theorem dX12_judged_8 : decode cX12_judged 8 = .ok (.invokestatic 306, 3) := by decide +kernel
theorem dX12_judged_11 : decode cX12_judged 11 = .ok (.ifCond .ne 6, 3) := by decide +kernel
theorem dX12_judged_14 : decode cX12_judged 14 = .ok (.bipush (-2), 2) := by decide +kernel
theorem dX12_judged_16 : decode cX12_judged 16 = .ok (.ireturn, 1) := by decide +kernel
theorem dX12_judged_17 : decode cX12_judged 17 = .ok (.aload_n 0, 1) := by decide +kernel
theorem dX12_judged_18 : decode cX12_judged 18 = .ok (.sipush 1008, 3) := by decide +kernel
theorem dX12_judged_21 : decode cX12_judged 21 = .ok (.invokevirtual 265, 3) := by decide +kernel
theorem dX12_judged_24 : decode cX12_judged 24 = .ok (.iconst (-1), 1) := by decide +kernel
theorem dX12_judged_25 : decode cX12_judged 25 = .ok (.istore_n 2, 1) := by decide +kernel
theorem dX12_judged_26 : decode cX12_judged 26 = .ok (.iconst 0, 1) := by decide +kernel
theorem dX12_judged_27 : decode cX12_judged 27 = .ok (.istore_n 3, 1) := by decide +kernel
theorem dX12_judged_28 : decode cX12_judged 28 = .ok (.iconst 0, 1) := by decide +kernel
theorem dX12_judged_29 : decode cX12_judged 29 = .ok (.istore 4, 2) := by decide +kernel
theorem dX12_judged_31 : decode cX12_judged 31 = .ok (.iload 4, 2) := by decide +kernel
theorem dX12_judged_33 : decode cX12_judged 33 = .ok (.aload_n 0, 1) := by decide +kernel
theorem dX12_judged_34 : decode cX12_judged 34 = .ok (.getfield 104, 3) := by decide +kernel
theorem dX12_judged_37 : decode cX12_judged 37 = .ok (.iconst 0, 1) := by decide +kernel
theorem dX12_judged_38 : decode cX12_judged 38 = .ok (.iaload, 1) := by decide +kernel
theorem dX12_judged_39 : decode cX12_judged 39 = .ok (.if_icmp .ge 197, 3) := by decide +kernel
theorem dX12_judged_42 : decode cX12_judged 42 = .ok (.aload_n 0, 1) := by decide +kernel
theorem dX12_judged_43 : decode cX12_judged 43 = .ok (.getfield 104, 3) := by decide +kernel
theorem dX12_judged_46 : decode cX12_judged 46 = .ok (.iconst 1, 1) := by decide +kernel
theorem dX12_judged_47 : decode cX12_judged 47 = .ok (.iconst 3, 1) := by decide +kernel
theorem dX12_judged_48 : decode cX12_judged 48 = .ok (.iload 4, 2) := by decide +kernel
theorem dX12_judged_50 : decode cX12_judged 50 = .ok (.imul, 1) := by decide +kernel
theorem dX12_judged_51 : decode cX12_judged 51 = .ok (.iadd, 1) := by decide +kernel
theorem dX12_judged_52 : decode cX12_judged 52 = .ok (.iaload, 1) := by decide +kernel
theorem dX12_judged_53 : decode cX12_judged 53 = .ok (.istore 5, 2) := by decide +kernel
theorem dX12_judged_55 : decode cX12_judged 55 = .ok (.aload_n 0, 1) := by decide +kernel
theorem dX12_judged_56 : decode cX12_judged 56 = .ok (.getfield 104, 3) := by decide +kernel
theorem dX12_judged_59 : decode cX12_judged 59 = .ok (.iconst 2, 1) := by decide +kernel
theorem dX12_judged_60 : decode cX12_judged 60 = .ok (.iconst 3, 1) := by decide +kernel
theorem dX12_judged_61 : decode cX12_judged 61 = .ok (.iload 4, 2) := by decide +kernel
theorem dX12_judged_63 : decode cX12_judged 63 = .ok (.imul, 1) := by decide +kernel
theorem dX12_judged_64 : decode cX12_judged 64 = .ok (.iadd, 1) := by decide +kernel
theorem dX12_judged_65 : decode cX12_judged 65 = .ok (.iaload, 1) := by decide +kernel
theorem dX12_judged_66 : decode cX12_judged 66 = .ok (.istore 6, 2) := by decide +kernel
theorem dX12_judged_68 : decode cX12_judged 68 = .ok (.aload_n 0, 1) := by decide +kernel
theorem dX12_judged_69 : decode cX12_judged 69 = .ok (.getfield 104, 3) := by decide +kernel
theorem dX12_judged_72 : decode cX12_judged 72 = .ok (.iconst 3, 1) := by decide +kernel
theorem dX12_judged_73 : decode cX12_judged 73 = .ok (.iconst 3, 1) := by decide +kernel
theorem dX12_judged_74 : decode cX12_judged 74 = .ok (.iload 4, 2) := by decide +kernel
theorem dX12_judged_76 : decode cX12_judged 76 = .ok (.imul, 1) := by decide +kernel
theorem dX12_judged_77 : decode cX12_judged 77 = .ok (.iadd, 1) := by decide +kernel
theorem dX12_judged_78 : decode cX12_judged 78 = .ok (.iaload, 1) := by decide +kernel
theorem dX12_judged_79 : decode cX12_judged 79 = .ok (.istore 7, 2) := by decide +kernel
theorem dX12_judged_81 : decode cX12_judged 81 = .ok (.aload_n 0, 1) := by decide +kernel
theorem dX12_judged_82 : decode cX12_judged 82 = .ok (.sipush 1008, 3) := by decide +kernel
theorem dX12_judged_85 : decode cX12_judged 85 = .ok (.invokevirtual 293, 3) := by decide +kernel
theorem dX12_judged_88 : decode cX12_judged 88 = .ok (.istore 8, 2) := by decide +kernel
theorem dX12_judged_90 : decode cX12_judged 90 = .ok (.iload 5, 2) := by decide +kernel
theorem dX12_judged_92 : decode cX12_judged 92 = .ok (.ifCond .eq 9, 3) := by decide +kernel
theorem dX12_judged_95 : decode cX12_judged 95 = .ok (.iload 5, 2) := by decide +kernel
theorem dX12_judged_97 : decode cX12_judged 97 = .ok (.iconst 1, 1) := by decide +kernel
theorem dX12_judged_98 : decode cX12_judged 98 = .ok (.if_icmp .ne 28, 3) := by decide +kernel
theorem dX12_judged_101 : decode cX12_judged 101 = .ok (.aload_n 0, 1) := by decide +kernel
theorem dX12_judged_102 : decode cX12_judged 102 = .ok (.sipush 1008, 3) := by decide +kernel
theorem dX12_judged_105 : decode cX12_judged 105 = .ok (.iload 6, 2) := by decide +kernel
theorem dX12_judged_107 : decode cX12_judged 107 = .ok (.iload 5, 2) := by decide +kernel
theorem dX12_judged_109 : decode cX12_judged 109 = .ok (.ifCond .ne 8, 3) := by decide +kernel
theorem dX12_judged_112 : decode cX12_judged 112 = .ok (.iload 7, 2) := by decide +kernel
theorem dX12_judged_114 : decode cX12_judged 114 = .ok (.goto 6, 3) := by decide +kernel
theorem dX12_judged_117 : decode cX12_judged 117 = .ok (.iload 7, 2) := by decide +kernel
theorem dX12_judged_119 : decode cX12_judged 119 = .ok (.ineg, 1) := by decide +kernel
theorem dX12_judged_120 : decode cX12_judged 120 = .ok (.invokevirtual 312, 3) := by decide +kernel
theorem dX12_judged_123 : decode cX12_judged 123 = .ok (.goto 59, 3) := by decide +kernel
theorem dX12_judged_126 : decode cX12_judged 126 = .ok (.iload 5, 2) := by decide +kernel
theorem dX12_judged_128 : decode cX12_judged 128 = .ok (.iconst 2, 1) := by decide +kernel
theorem dX12_judged_129 : decode cX12_judged 129 = .ok (.if_icmp .ne 18, 3) := by decide +kernel
theorem dX12_judged_132 : decode cX12_judged 132 = .ok (.aload_n 0, 1) := by decide +kernel
theorem dX12_judged_133 : decode cX12_judged 133 = .ok (.getfield 113, 3) := by decide +kernel
theorem dX12_judged_136 : decode cX12_judged 136 = .ok (.sipush 1009, 3) := by decide +kernel
theorem dX12_judged_139 : decode cX12_judged 139 = .ok (.iload 6, 2) := by decide +kernel
theorem dX12_judged_141 : decode cX12_judged 141 = .ok (.iadd, 1) := by decide +kernel
theorem dX12_judged_142 : decode cX12_judged 142 = .ok (.iconst 0, 1) := by decide +kernel
theorem dX12_judged_143 : decode cX12_judged 143 = .ok (.iastore, 1) := by decide +kernel
theorem dX12_judged_144 : decode cX12_judged 144 = .ok (.goto 38, 3) := by decide +kernel
theorem dX12_judged_147 : decode cX12_judged 147 = .ok (.iload 5, 2) := by decide +kernel
theorem dX12_judged_149 : decode cX12_judged 149 = .ok (.iconst 3, 1) := by decide +kernel
theorem dX12_judged_150 : decode cX12_judged 150 = .ok (.if_icmp .ne 24, 3) := by decide +kernel
theorem dX12_judged_153 : decode cX12_judged 153 = .ok (.aload_n 0, 1) := by decide +kernel
theorem dX12_judged_154 : decode cX12_judged 154 = .ok (.getfield 113, 3) := by decide +kernel
theorem dX12_judged_157 : decode cX12_judged 157 = .ok (.sipush 1015, 3) := by decide +kernel
theorem dX12_judged_160 : decode cX12_judged 160 = .ok (.iload 6, 2) := by decide +kernel
theorem dX12_judged_162 : decode cX12_judged 162 = .ok (.iadd, 1) := by decide +kernel
theorem dX12_judged_163 : decode cX12_judged 163 = .ok (.dup2, 1) := by decide +kernel
theorem dX12_judged_164 : decode cX12_judged 164 = .ok (.iaload, 1) := by decide +kernel
theorem dX12_judged_165 : decode cX12_judged 165 = .ok (.iconst 1, 1) := by decide +kernel
theorem dX12_judged_166 : decode cX12_judged 166 = .ok (.iload 7, 2) := by decide +kernel
theorem dX12_judged_168 : decode cX12_judged 168 = .ok (.ishl, 1) := by decide +kernel
theorem dX12_judged_169 : decode cX12_judged 169 = .ok (.ixor, 1) := by decide +kernel
theorem dX12_judged_170 : decode cX12_judged 170 = .ok (.iastore, 1) := by decide +kernel
theorem dX12_judged_171 : decode cX12_judged 171 = .ok (.goto 11, 3) := by decide +kernel
theorem dX12_judged_174 : decode cX12_judged 174 = .ok (.aload_n 0, 1) := by decide +kernel
theorem dX12_judged_175 : decode cX12_judged 175 = .ok (.sipush 1008, 3) := by decide +kernel
theorem dX12_judged_178 : decode cX12_judged 178 = .ok (.invokevirtual 315, 3) := by decide +kernel
theorem dX12_judged_181 : decode cX12_judged 181 = .ok (.pop, 1) := by decide +kernel
theorem dX12_judged_182 : decode cX12_judged 182 = .ok (.aload_n 0, 1) := by decide +kernel
theorem dX12_judged_183 : decode cX12_judged 183 = .ok (.sipush 1008, 3) := by decide +kernel
theorem dX12_judged_186 : decode cX12_judged 186 = .ok (.invokevirtual 293, 3) := by decide +kernel
theorem dX12_judged_189 : decode cX12_judged 189 = .ok (.iload 8, 2) := by decide +kernel
theorem dX12_judged_191 : decode cX12_judged 191 = .ok (.if_icmp .eq 7, 3) := by decide +kernel
theorem dX12_judged_194 : decode cX12_judged 194 = .ok (.iconst 1, 1) := by decide +kernel
theorem dX12_judged_195 : decode cX12_judged 195 = .ok (.goto 4, 3) := by decide +kernel
theorem dX12_judged_198 : decode cX12_judged 198 = .ok (.iconst 0, 1) := by decide +kernel
theorem dX12_judged_199 : decode cX12_judged 199 = .ok (.istore 9, 2) := by decide +kernel
theorem dX12_judged_201 : decode cX12_judged 201 = .ok (.iload 9, 2) := by decide +kernel
theorem dX12_judged_203 : decode cX12_judged 203 = .ok (.ifCond .eq 12, 3) := by decide +kernel
theorem dX12_judged_206 : decode cX12_judged 206 = .ok (.iload_n 2, 1) := by decide +kernel
theorem dX12_judged_207 : decode cX12_judged 207 = .ok (.ifCond .ge 8, 3) := by decide +kernel
theorem dX12_judged_210 : decode cX12_judged 210 = .ok (.iload 4, 2) := by decide +kernel
theorem dX12_judged_212 : decode cX12_judged 212 = .ok (.goto 4, 3) := by decide +kernel
theorem dX12_judged_215 : decode cX12_judged 215 = .ok (.iload_n 2, 1) := by decide +kernel
theorem dX12_judged_216 : decode cX12_judged 216 = .ok (.istore_n 2, 1) := by decide +kernel
theorem dX12_judged_217 : decode cX12_judged 217 = .ok (.iload_n 3, 1) := by decide +kernel
theorem dX12_judged_218 : decode cX12_judged 218 = .ok (.iload 9, 2) := by decide +kernel
theorem dX12_judged_220 : decode cX12_judged 220 = .ok (.ifCond .eq 7, 3) := by decide +kernel
theorem dX12_judged_223 : decode cX12_judged 223 = .ok (.iconst 1, 1) := by decide +kernel
theorem dX12_judged_224 : decode cX12_judged 224 = .ok (.goto 4, 3) := by decide +kernel
theorem dX12_judged_227 : decode cX12_judged 227 = .ok (.iconst 0, 1) := by decide +kernel
theorem dX12_judged_228 : decode cX12_judged 228 = .ok (.iadd, 1) := by decide +kernel
theorem dX12_judged_229 : decode cX12_judged 229 = .ok (.istore_n 3, 1) := by decide +kernel
theorem dX12_judged_230 : decode cX12_judged 230 = .ok (.iinc 4 1, 3) := by decide +kernel
theorem dX12_judged_233 : decode cX12_judged 233 = .ok (.goto (-202), 3) := by decide +kernel
theorem dX12_judged_236 : decode cX12_judged 236 = .ok (.iload_n 1, 1) := by decide +kernel
theorem dX12_judged_237 : decode cX12_judged 237 = .ok (.ifCond .ne 7, 3) := by decide +kernel
theorem dX12_judged_240 : decode cX12_judged 240 = .ok (.iload_n 2, 1) := by decide +kernel
theorem dX12_judged_241 : decode cX12_judged 241 = .ok (.goto 19, 3) := by decide +kernel
theorem dX12_judged_244 : decode cX12_judged 244 = .ok (.iload_n 1, 1) := by decide +kernel
theorem dX12_judged_245 : decode cX12_judged 245 = .ok (.iconst 1, 1) := by decide +kernel
theorem dX12_judged_246 : decode cX12_judged 246 = .ok (.if_icmp .ne 7, 3) := by decide +kernel
theorem dX12_judged_249 : decode cX12_judged 249 = .ok (.iload_n 3, 1) := by decide +kernel
theorem dX12_judged_250 : decode cX12_judged 250 = .ok (.goto 10, 3) := by decide +kernel
theorem dX12_judged_253 : decode cX12_judged 253 = .ok (.aload_n 0, 1) := by decide +kernel
theorem dX12_judged_254 : decode cX12_judged 254 = .ok (.sipush 1008, 3) := by decide +kernel
theorem dX12_judged_257 : decode cX12_judged 257 = .ok (.invokevirtual 293, 3) := by decide +kernel
theorem dX12_judged_260 : decode cX12_judged 260 = .ok (.ireturn, 1) := by decide +kernel
abbrev wd_X12_judged (k : Nat → ClassId) (this : Nat) (this_thrown : Int32) (this_tape : Nat) (this_taped : Int32) (this_size : Int32) (this_sort : Nat) (this_place : Nat) (this_value : Nat) (this_at : Int32) (this_fault : Int32) (this_words : Nat) (this_towns : Nat) (this_towns_f : Nat → Int32) (this_op : Nat) (this_op_f : Nat → Int32) (this_arg : Nat) (this_arg_f : Nat → Int32) (this_codes : Int32) (this_names : Nat) (this_readNames : Nat) (this_namesMany : Int32) (this_readMany : Int32) (this_once : Int32) (this_lines : Nat) (this_lines_f : Nat → Int32) (this_facts : Nat) (this_facts_f : Nat → Int32) (this_pile : Nat) (this_pile_f : Nat → Int32) (this_state : Nat) (this_state_f : Nat → Int32) (this_undos : Int32) (this_isMarked : Nat) (this_weight : Int32) (this_rounding : Int32) (this_lacks : Nat) (this_lacks_f : Nat → Int32) (this_alikes : Nat) (this_g : Int64) : va_W := [(this, .inr (10, [.int this_thrown, .ref this_tape, .int this_taped, .int this_size, .ref this_sort, .ref this_place, .ref this_value, .int this_at, .int this_fault, .ref this_words, .ref this_towns, .ref this_op, .ref this_arg, .int this_codes, .ref this_names, .ref this_readNames, .int this_namesMany, .int this_readMany, .int this_once, .ref this_lines, .ref this_facts, .ref this_pile, .ref this_state, .int this_undos, .ref this_isMarked, .int this_weight, .int this_rounding, .ref this_lacks, .ref this_alikes, .long this_g])), (this_towns, .inl (k 0, 60, .inl this_towns_f)), (this_op, .inl (k 0, 2200, .inl this_op_f)), (this_arg, .inl (k 0, 2200, .inl this_arg_f)), (this_lines, .inl (k 0, 250, .inl this_lines_f)), (this_facts, .inl (k 0, 4, .inl this_facts_f)), (this_pile, .inl (k 0, 1100, .inl this_pile_f)), (this_state, .inl (k 0, 1104, .inl this_state_f)), (this_lacks, .inl (k 0, 6, .inl this_lacks_f))]
set_option maxHeartbeats 4000000 in
set_option maxRecDepth 100000 in
theorem c_X12_judged (l : Launch) (D : va_G) (k : Nat → ClassId) (this : Nat) (this_thrown : Int32) (this_tape : Nat) (this_taped : Int32) (this_size : Int32) (this_sort : Nat) (this_place : Nat) (this_value : Nat) (this_at : Int32) (this_fault : Int32) (this_words : Nat) (this_towns : Nat) (this_towns_f : Nat → Int32) (this_op : Nat) (this_op_f : Nat → Int32) (this_arg : Nat) (this_arg_f : Nat → Int32) (this_codes : Int32) (this_names : Nat) (this_readNames : Nat) (this_namesMany : Int32) (this_readMany : Int32) (this_once : Int32) (this_lines : Nat) (this_lines_f : Nat → Int32) (this_facts : Nat) (this_facts_f : Nat → Int32) (this_pile : Nat) (this_pile_f : Nat → Int32) (this_state : Nat) (this_state_f : Nat → Int32) (this_undos : Int32) (this_isMarked : Nat) (this_weight : Int32) (this_rounding : Int32) (this_lacks : Nat) (this_lacks_f : Nat → Int32) (this_alikes : Nat) (this_g : Int64) (q1 : Int32) (R0 : Int32 × Int32 × (Nat → Int32) × (Nat → Int32) × (Nat → Int32) × (Nat → Int32)) (hm : m_X12_judged this_towns_f this_op_f this_arg_f this_lines_f this_facts_f this_pile_f this_state_f this_weight this_rounding this_lacks_f q1 = some R0) : CW l D (TY k) yX12_judged cX12_judged 10 (some .int) 5 117 [.ref this, .int q1] (wd_X12_judged k this this_thrown this_tape this_taped this_size this_sort this_place this_value this_at this_fault this_words this_towns this_towns_f this_op this_op_f this_arg this_arg_f this_codes this_names this_readNames this_namesMany this_readMany this_once this_lines this_lines_f this_facts this_facts_f this_pile this_pile_f this_state this_state_f this_undos this_isMarked this_weight this_rounding this_lacks this_lacks_f this_alikes this_g) (some (.int R0.1)) (wd_X12_judged k this R0.2.1 this_tape this_taped this_size this_sort this_place this_value this_at this_fault this_words this_towns this_towns_f this_op this_op_f this_arg this_arg_f this_codes this_names this_readNames this_namesMany this_readMany this_once this_lines this_lines_f this_facts R0.2.2.1 this_pile R0.2.2.2.1 this_state R0.2.2.2.2.1 this_undos this_isMarked this_weight this_rounding this_lacks R0.2.2.2.2.2 this_alikes this_g) := by
  refine CW.mk (by decide) (Nat.le_of_ble_eq_true rfl) ?_
  intro p e s m args below meth c ls A ⟨hx, hb, hr, hts, hown, hlocks, hml⟩ hP hG hD hA hl hS hq
  have hl : lv_has ls 10 [(0, .ref this), (1, .int q1)] := hl
  have h_216 : ∀ (K31 : Int32 → Int32 → Int32 → Int32 → (Nat → Int32) → (Nat → Int32) → (Nat → Int32) → (Nat → Int32) → Option (Int32 × Int32 × (Nat → Int32) × (Nat → Int32) × (Nat → Int32) × (Nat → Int32))) (hK31 : ∀ (x2 : Int32) (x3 : Int32) (x4 : Int32) (u_this_thrown : Int32) (u_this_facts_f : Nat → Int32) (u_this_pile_f : Nat → Int32) (u_this_state_f : Nat → Int32) (u_this_lacks_f : Nat → Int32) (H : Heap) (locs : List Loc) (ls : Array Slot), va_P D vwCl (wd_X12_judged k this u_this_thrown this_tape this_taped this_size this_sort this_place this_value this_at this_fault this_words this_towns this_towns_f this_op this_op_f this_arg this_arg_f this_codes this_names this_readNames this_namesMany this_readMany this_once this_lines this_lines_f this_facts u_this_facts_f this_pile u_this_pile_f this_state u_this_state_f this_undos this_isMarked this_weight this_rounding this_lacks u_this_lacks_f this_alikes this_g) H → va_D A (wd_X12_judged k this u_this_thrown this_tape this_taped this_size this_sort this_place this_value this_at this_fault this_words this_towns this_towns_f this_op this_op_f this_arg this_arg_f this_codes this_names this_readNames this_namesMany this_readMany this_once this_lines this_lines_f this_facts u_this_facts_f this_pile u_this_pile_f this_state u_this_state_f this_undos this_isMarked this_weight this_rounding this_lacks u_this_lacks_f this_alikes this_g) → va_S A s.heap H locs → lv_has ls 10 [(0, .ref this), (1, .int q1), (2, .int x2), (3, .int x3), (4, .int x4)] → K31 x2 x3 x4 u_this_thrown u_this_facts_f u_this_pile_f u_this_state_f u_this_lacks_f = some R0 → W p l e (Rm 5 117) s m args below meth c H locs 0 0 (MQ below (QW D (some (.int R0.1)) (wd_X12_judged k this this_thrown this_tape this_taped this_size this_sort this_place this_value this_at this_fault this_words this_towns this_towns_f this_op this_op_f this_arg this_arg_f this_codes this_names this_readNames this_namesMany this_readMany this_once this_lines this_lines_f this_facts this_facts_f this_pile this_pile_f this_state this_state_f this_undos this_isMarked this_weight this_rounding this_lacks this_lacks_f this_alikes this_g) (wd_X12_judged k this R0.2.1 this_tape this_taped this_size this_sort this_place this_value this_at this_fault this_words this_towns this_towns_f this_op this_op_f this_arg this_arg_f this_codes this_names this_readNames this_namesMany this_readMany this_once this_lines this_lines_f this_facts R0.2.2.1 this_pile R0.2.2.2.1 this_state R0.2.2.2.2.1 this_undos this_isMarked this_weight this_rounding this_lacks R0.2.2.2.2.2 this_alikes this_g) s.heap.size) args s 0 0 A) (F0 m 31 ls [])), ∀ (x3 : Int32) (x4 : Int32) (x9 : Int32) (t0 : Int32) (u_this_thrown : Int32) (u_this_facts_f : Nat → Int32) (u_this_pile_f : Nat → Int32) (u_this_state_f : Nat → Int32) (u_this_lacks_f : Nat → Int32) (H : Heap) (locs : List Loc) (ls : Array Slot), va_P D vwCl (wd_X12_judged k this u_this_thrown this_tape this_taped this_size this_sort this_place this_value this_at this_fault this_words this_towns this_towns_f this_op this_op_f this_arg this_arg_f this_codes this_names this_readNames this_namesMany this_readMany this_once this_lines this_lines_f this_facts u_this_facts_f this_pile u_this_pile_f this_state u_this_state_f this_undos this_isMarked this_weight this_rounding this_lacks u_this_lacks_f this_alikes this_g) H → va_D A (wd_X12_judged k this u_this_thrown this_tape this_taped this_size this_sort this_place this_value this_at this_fault this_words this_towns this_towns_f this_op this_op_f this_arg this_arg_f this_codes this_names this_readNames this_namesMany this_readMany this_once this_lines this_lines_f this_facts u_this_facts_f this_pile u_this_pile_f this_state u_this_state_f this_undos this_isMarked this_weight this_rounding this_lacks u_this_lacks_f this_alikes this_g) → va_S A s.heap H locs → lv_has ls 10 [(0, .ref this), (1, .int q1), (3, .int x3), (4, .int x4), (9, .int x9)] → m_X12_judged_216 this_towns_f this_op_f this_arg_f this_lines_f this_weight this_rounding q1 K31 x3 x4 x9 t0 u_this_thrown u_this_facts_f u_this_pile_f u_this_state_f u_this_lacks_f = some R0 → W p l e (Rm 5 117) s m args below meth c H locs 0 0 (MQ below (QW D (some (.int R0.1)) (wd_X12_judged k this this_thrown this_tape this_taped this_size this_sort this_place this_value this_at this_fault this_words this_towns this_towns_f this_op this_op_f this_arg this_arg_f this_codes this_names this_readNames this_namesMany this_readMany this_once this_lines this_lines_f this_facts this_facts_f this_pile this_pile_f this_state this_state_f this_undos this_isMarked this_weight this_rounding this_lacks this_lacks_f this_alikes this_g) (wd_X12_judged k this R0.2.1 this_tape this_taped this_size this_sort this_place this_value this_at this_fault this_words this_towns this_towns_f this_op this_op_f this_arg this_arg_f this_codes this_names this_readNames this_namesMany this_readMany this_once this_lines this_lines_f this_facts R0.2.2.1 this_pile R0.2.2.2.1 this_state R0.2.2.2.2.1 this_undos this_isMarked this_weight this_rounding this_lacks R0.2.2.2.2.2 this_alikes this_g) s.heap.size) args s 0 0 A) (F0 m 216 ls [.int t0]) := by
    intro K31 hK31 x3 x4 x9 t0 u_this_thrown u_this_facts_f u_this_pile_f u_this_state_f u_this_lacks_f H locs ls hP hD hS hl hm
    unfold m_X12_judged_216 at hm
    refine lv_istore_n (lv' := [(2, .int t0), (0, .ref this), (1, .int q1), (3, .int x3), (4, .int x4), (9, .int x9)]) (pc := 216) hx hb dX12_judged_216 rfl hl (Nat.le_of_ble_eq_true rfl) rfl (fun ls hl => ?_)
    refine lv_iload_n (pc := 217) hx hb dX12_judged_217 rfl (lv_at hl 3 rfl) ?_
    refine lv_iload (pc := 218) hx hb dX12_judged_218 (lv_at hl 5 rfl) ?_
    refine lv_if_eq (tgt := 227) (pc := 220) hx hb dX12_judged_220 (by decide) (fun hc => ?_) (fun hc => ?_)
    · rw [if_pos hc] at hm
      refine lv_iconst (v := 0) (pc := 227) hx hb dX12_judged_227 (by decide) ?_
      refine lv_iadd (pc := 228) hx hb dX12_judged_228 ?_
      refine lv_istore_n (lv' := [(3, .int (x3 + 0)), (2, .int t0), (0, .ref this), (1, .int q1), (4, .int x4), (9, .int x9)]) (pc := 229) hx hb dX12_judged_229 rfl hl (Nat.le_of_ble_eq_true rfl) rfl (fun ls hl => ?_)
      refine lv_iinc (k := 4) (v := x4 + 1) (lv' := [(4, .int (x4 + 1)), (3, .int (x3 + 0)), (2, .int t0), (0, .ref this), (1, .int q1), (9, .int x9)]) (pc := 230) hx hb dX12_judged_230 hl rfl rfl (Nat.le_of_ble_eq_true rfl) rfl (fun ls hl => ?_)
      refine lv_goto (tgt := 31) (pc := 233) hx hb dX12_judged_233 (by decide) ?_
      exact hK31 t0 (x3 + 0) (x4 + 1) u_this_thrown u_this_facts_f u_this_pile_f u_this_state_f u_this_lacks_f H locs ls hP hD hS (lv_sub hl [3, 4, 2, 1, 0] rfl) hm
    · rw [if_neg hc] at hm
      refine lv_iconst (v := 1) (pc := 223) hx hb dX12_judged_223 (by decide) ?_
      refine lv_goto (tgt := 228) (pc := 224) hx hb dX12_judged_224 (by decide) ?_
      refine lv_iadd (pc := 228) hx hb dX12_judged_228 ?_
      refine lv_istore_n (lv' := [(3, .int (x3 + 1)), (2, .int t0), (0, .ref this), (1, .int q1), (4, .int x4), (9, .int x9)]) (pc := 229) hx hb dX12_judged_229 rfl hl (Nat.le_of_ble_eq_true rfl) rfl (fun ls hl => ?_)
      refine lv_iinc (k := 4) (v := x4 + 1) (lv' := [(4, .int (x4 + 1)), (3, .int (x3 + 1)), (2, .int t0), (0, .ref this), (1, .int q1), (9, .int x9)]) (pc := 230) hx hb dX12_judged_230 hl rfl rfl (Nat.le_of_ble_eq_true rfl) rfl (fun ls hl => ?_)
      refine lv_goto (tgt := 31) (pc := 233) hx hb dX12_judged_233 (by decide) ?_
      exact hK31 t0 (x3 + 1) (x4 + 1) u_this_thrown u_this_facts_f u_this_pile_f u_this_state_f u_this_lacks_f H locs ls hP hD hS (lv_sub hl [3, 4, 2, 1, 0] rfl) hm
  have h_215 : ∀ (K31 : Int32 → Int32 → Int32 → Int32 → (Nat → Int32) → (Nat → Int32) → (Nat → Int32) → (Nat → Int32) → Option (Int32 × Int32 × (Nat → Int32) × (Nat → Int32) × (Nat → Int32) × (Nat → Int32))) (hK31 : ∀ (x2 : Int32) (x3 : Int32) (x4 : Int32) (u_this_thrown : Int32) (u_this_facts_f : Nat → Int32) (u_this_pile_f : Nat → Int32) (u_this_state_f : Nat → Int32) (u_this_lacks_f : Nat → Int32) (H : Heap) (locs : List Loc) (ls : Array Slot), va_P D vwCl (wd_X12_judged k this u_this_thrown this_tape this_taped this_size this_sort this_place this_value this_at this_fault this_words this_towns this_towns_f this_op this_op_f this_arg this_arg_f this_codes this_names this_readNames this_namesMany this_readMany this_once this_lines this_lines_f this_facts u_this_facts_f this_pile u_this_pile_f this_state u_this_state_f this_undos this_isMarked this_weight this_rounding this_lacks u_this_lacks_f this_alikes this_g) H → va_D A (wd_X12_judged k this u_this_thrown this_tape this_taped this_size this_sort this_place this_value this_at this_fault this_words this_towns this_towns_f this_op this_op_f this_arg this_arg_f this_codes this_names this_readNames this_namesMany this_readMany this_once this_lines this_lines_f this_facts u_this_facts_f this_pile u_this_pile_f this_state u_this_state_f this_undos this_isMarked this_weight this_rounding this_lacks u_this_lacks_f this_alikes this_g) → va_S A s.heap H locs → lv_has ls 10 [(0, .ref this), (1, .int q1), (2, .int x2), (3, .int x3), (4, .int x4)] → K31 x2 x3 x4 u_this_thrown u_this_facts_f u_this_pile_f u_this_state_f u_this_lacks_f = some R0 → W p l e (Rm 5 117) s m args below meth c H locs 0 0 (MQ below (QW D (some (.int R0.1)) (wd_X12_judged k this this_thrown this_tape this_taped this_size this_sort this_place this_value this_at this_fault this_words this_towns this_towns_f this_op this_op_f this_arg this_arg_f this_codes this_names this_readNames this_namesMany this_readMany this_once this_lines this_lines_f this_facts this_facts_f this_pile this_pile_f this_state this_state_f this_undos this_isMarked this_weight this_rounding this_lacks this_lacks_f this_alikes this_g) (wd_X12_judged k this R0.2.1 this_tape this_taped this_size this_sort this_place this_value this_at this_fault this_words this_towns this_towns_f this_op this_op_f this_arg this_arg_f this_codes this_names this_readNames this_namesMany this_readMany this_once this_lines this_lines_f this_facts R0.2.2.1 this_pile R0.2.2.2.1 this_state R0.2.2.2.2.1 this_undos this_isMarked this_weight this_rounding this_lacks R0.2.2.2.2.2 this_alikes this_g) s.heap.size) args s 0 0 A) (F0 m 31 ls [])), ∀ (x2 : Int32) (x3 : Int32) (x4 : Int32) (x9 : Int32) (u_this_thrown : Int32) (u_this_facts_f : Nat → Int32) (u_this_pile_f : Nat → Int32) (u_this_state_f : Nat → Int32) (u_this_lacks_f : Nat → Int32) (H : Heap) (locs : List Loc) (ls : Array Slot), va_P D vwCl (wd_X12_judged k this u_this_thrown this_tape this_taped this_size this_sort this_place this_value this_at this_fault this_words this_towns this_towns_f this_op this_op_f this_arg this_arg_f this_codes this_names this_readNames this_namesMany this_readMany this_once this_lines this_lines_f this_facts u_this_facts_f this_pile u_this_pile_f this_state u_this_state_f this_undos this_isMarked this_weight this_rounding this_lacks u_this_lacks_f this_alikes this_g) H → va_D A (wd_X12_judged k this u_this_thrown this_tape this_taped this_size this_sort this_place this_value this_at this_fault this_words this_towns this_towns_f this_op this_op_f this_arg this_arg_f this_codes this_names this_readNames this_namesMany this_readMany this_once this_lines this_lines_f this_facts u_this_facts_f this_pile u_this_pile_f this_state u_this_state_f this_undos this_isMarked this_weight this_rounding this_lacks u_this_lacks_f this_alikes this_g) → va_S A s.heap H locs → lv_has ls 10 [(0, .ref this), (1, .int q1), (2, .int x2), (3, .int x3), (4, .int x4), (9, .int x9)] → m_X12_judged_215 this_towns_f this_op_f this_arg_f this_lines_f this_weight this_rounding q1 K31 x2 x3 x4 x9 u_this_thrown u_this_facts_f u_this_pile_f u_this_state_f u_this_lacks_f = some R0 → W p l e (Rm 5 117) s m args below meth c H locs 0 0 (MQ below (QW D (some (.int R0.1)) (wd_X12_judged k this this_thrown this_tape this_taped this_size this_sort this_place this_value this_at this_fault this_words this_towns this_towns_f this_op this_op_f this_arg this_arg_f this_codes this_names this_readNames this_namesMany this_readMany this_once this_lines this_lines_f this_facts this_facts_f this_pile this_pile_f this_state this_state_f this_undos this_isMarked this_weight this_rounding this_lacks this_lacks_f this_alikes this_g) (wd_X12_judged k this R0.2.1 this_tape this_taped this_size this_sort this_place this_value this_at this_fault this_words this_towns this_towns_f this_op this_op_f this_arg this_arg_f this_codes this_names this_readNames this_namesMany this_readMany this_once this_lines this_lines_f this_facts R0.2.2.1 this_pile R0.2.2.2.1 this_state R0.2.2.2.2.1 this_undos this_isMarked this_weight this_rounding this_lacks R0.2.2.2.2.2 this_alikes this_g) s.heap.size) args s 0 0 A) (F0 m 215 ls []) := by
    intro K31 hK31 x2 x3 x4 x9 u_this_thrown u_this_facts_f u_this_pile_f u_this_state_f u_this_lacks_f H locs ls hP hD hS hl hm
    unfold m_X12_judged_215 at hm
    refine lv_iload_n (pc := 215) hx hb dX12_judged_215 rfl (lv_at hl 2 rfl) ?_
    exact h_216 K31 hK31 x3 x4 x9 x2 u_this_thrown u_this_facts_f u_this_pile_f u_this_state_f u_this_lacks_f H locs ls hP hD hS (lv_sub hl [0, 1, 3, 4, 5] rfl) hm
  have h_199 : ∀ (K31 : Int32 → Int32 → Int32 → Int32 → (Nat → Int32) → (Nat → Int32) → (Nat → Int32) → (Nat → Int32) → Option (Int32 × Int32 × (Nat → Int32) × (Nat → Int32) × (Nat → Int32) × (Nat → Int32))) (hK31 : ∀ (x2 : Int32) (x3 : Int32) (x4 : Int32) (u_this_thrown : Int32) (u_this_facts_f : Nat → Int32) (u_this_pile_f : Nat → Int32) (u_this_state_f : Nat → Int32) (u_this_lacks_f : Nat → Int32) (H : Heap) (locs : List Loc) (ls : Array Slot), va_P D vwCl (wd_X12_judged k this u_this_thrown this_tape this_taped this_size this_sort this_place this_value this_at this_fault this_words this_towns this_towns_f this_op this_op_f this_arg this_arg_f this_codes this_names this_readNames this_namesMany this_readMany this_once this_lines this_lines_f this_facts u_this_facts_f this_pile u_this_pile_f this_state u_this_state_f this_undos this_isMarked this_weight this_rounding this_lacks u_this_lacks_f this_alikes this_g) H → va_D A (wd_X12_judged k this u_this_thrown this_tape this_taped this_size this_sort this_place this_value this_at this_fault this_words this_towns this_towns_f this_op this_op_f this_arg this_arg_f this_codes this_names this_readNames this_namesMany this_readMany this_once this_lines this_lines_f this_facts u_this_facts_f this_pile u_this_pile_f this_state u_this_state_f this_undos this_isMarked this_weight this_rounding this_lacks u_this_lacks_f this_alikes this_g) → va_S A s.heap H locs → lv_has ls 10 [(0, .ref this), (1, .int q1), (2, .int x2), (3, .int x3), (4, .int x4)] → K31 x2 x3 x4 u_this_thrown u_this_facts_f u_this_pile_f u_this_state_f u_this_lacks_f = some R0 → W p l e (Rm 5 117) s m args below meth c H locs 0 0 (MQ below (QW D (some (.int R0.1)) (wd_X12_judged k this this_thrown this_tape this_taped this_size this_sort this_place this_value this_at this_fault this_words this_towns this_towns_f this_op this_op_f this_arg this_arg_f this_codes this_names this_readNames this_namesMany this_readMany this_once this_lines this_lines_f this_facts this_facts_f this_pile this_pile_f this_state this_state_f this_undos this_isMarked this_weight this_rounding this_lacks this_lacks_f this_alikes this_g) (wd_X12_judged k this R0.2.1 this_tape this_taped this_size this_sort this_place this_value this_at this_fault this_words this_towns this_towns_f this_op this_op_f this_arg this_arg_f this_codes this_names this_readNames this_namesMany this_readMany this_once this_lines this_lines_f this_facts R0.2.2.1 this_pile R0.2.2.2.1 this_state R0.2.2.2.2.1 this_undos this_isMarked this_weight this_rounding this_lacks R0.2.2.2.2.2 this_alikes this_g) s.heap.size) args s 0 0 A) (F0 m 31 ls [])), ∀ (x2 : Int32) (x3 : Int32) (x4 : Int32) (t0 : Int32) (u_this_thrown : Int32) (u_this_facts_f : Nat → Int32) (u_this_pile_f : Nat → Int32) (u_this_state_f : Nat → Int32) (u_this_lacks_f : Nat → Int32) (H : Heap) (locs : List Loc) (ls : Array Slot), va_P D vwCl (wd_X12_judged k this u_this_thrown this_tape this_taped this_size this_sort this_place this_value this_at this_fault this_words this_towns this_towns_f this_op this_op_f this_arg this_arg_f this_codes this_names this_readNames this_namesMany this_readMany this_once this_lines this_lines_f this_facts u_this_facts_f this_pile u_this_pile_f this_state u_this_state_f this_undos this_isMarked this_weight this_rounding this_lacks u_this_lacks_f this_alikes this_g) H → va_D A (wd_X12_judged k this u_this_thrown this_tape this_taped this_size this_sort this_place this_value this_at this_fault this_words this_towns this_towns_f this_op this_op_f this_arg this_arg_f this_codes this_names this_readNames this_namesMany this_readMany this_once this_lines this_lines_f this_facts u_this_facts_f this_pile u_this_pile_f this_state u_this_state_f this_undos this_isMarked this_weight this_rounding this_lacks u_this_lacks_f this_alikes this_g) → va_S A s.heap H locs → lv_has ls 10 [(0, .ref this), (1, .int q1), (2, .int x2), (3, .int x3), (4, .int x4)] → m_X12_judged_199 this_towns_f this_op_f this_arg_f this_lines_f this_weight this_rounding q1 K31 x2 x3 x4 t0 u_this_thrown u_this_facts_f u_this_pile_f u_this_state_f u_this_lacks_f = some R0 → W p l e (Rm 5 117) s m args below meth c H locs 0 0 (MQ below (QW D (some (.int R0.1)) (wd_X12_judged k this this_thrown this_tape this_taped this_size this_sort this_place this_value this_at this_fault this_words this_towns this_towns_f this_op this_op_f this_arg this_arg_f this_codes this_names this_readNames this_namesMany this_readMany this_once this_lines this_lines_f this_facts this_facts_f this_pile this_pile_f this_state this_state_f this_undos this_isMarked this_weight this_rounding this_lacks this_lacks_f this_alikes this_g) (wd_X12_judged k this R0.2.1 this_tape this_taped this_size this_sort this_place this_value this_at this_fault this_words this_towns this_towns_f this_op this_op_f this_arg this_arg_f this_codes this_names this_readNames this_namesMany this_readMany this_once this_lines this_lines_f this_facts R0.2.2.1 this_pile R0.2.2.2.1 this_state R0.2.2.2.2.1 this_undos this_isMarked this_weight this_rounding this_lacks R0.2.2.2.2.2 this_alikes this_g) s.heap.size) args s 0 0 A) (F0 m 199 ls [.int t0]) := by
    intro K31 hK31 x2 x3 x4 t0 u_this_thrown u_this_facts_f u_this_pile_f u_this_state_f u_this_lacks_f H locs ls hP hD hS hl hm
    unfold m_X12_judged_199 at hm
    refine lv_istore (lv' := [(9, .int t0), (0, .ref this), (1, .int q1), (2, .int x2), (3, .int x3), (4, .int x4)]) (pc := 199) hx hb dX12_judged_199 hl (Nat.le_of_ble_eq_true rfl) rfl (fun ls hl => ?_)
    refine lv_iload (pc := 201) hx hb dX12_judged_201 (lv_at hl 0 rfl) ?_
    refine lv_if_eq (tgt := 215) (pc := 203) hx hb dX12_judged_203 (by decide) (fun hc => ?_) (fun hc => ?_)
    · rw [if_pos hc] at hm
      exact h_215 K31 hK31 x2 x3 x4 t0 u_this_thrown u_this_facts_f u_this_pile_f u_this_state_f u_this_lacks_f H locs ls hP hD hS (lv_sub hl [1, 2, 3, 4, 5, 0] rfl) hm
    · rw [if_neg hc] at hm
      refine lv_iload_n (pc := 206) hx hb dX12_judged_206 rfl (lv_at hl 3 rfl) ?_
      refine lv_if_ge (tgt := 215) (pc := 207) hx hb dX12_judged_207 (by decide) (fun hc => ?_) (fun hc => ?_)
      · rw [if_pos hc] at hm
        exact h_215 K31 hK31 x2 x3 x4 t0 u_this_thrown u_this_facts_f u_this_pile_f u_this_state_f u_this_lacks_f H locs ls hP hD hS (lv_sub hl [1, 2, 3, 4, 5, 0] rfl) hm
      · rw [if_neg hc] at hm
        refine lv_iload (pc := 210) hx hb dX12_judged_210 (lv_at hl 5 rfl) ?_
        refine lv_goto (tgt := 216) (pc := 212) hx hb dX12_judged_212 (by decide) ?_
        exact h_216 K31 hK31 x3 x4 t0 x4 u_this_thrown u_this_facts_f u_this_pile_f u_this_state_f u_this_lacks_f H locs ls hP hD hS (lv_sub hl [1, 2, 4, 5, 0] rfl) hm
  have h_182 : ∀ (K31 : Int32 → Int32 → Int32 → Int32 → (Nat → Int32) → (Nat → Int32) → (Nat → Int32) → (Nat → Int32) → Option (Int32 × Int32 × (Nat → Int32) × (Nat → Int32) × (Nat → Int32) × (Nat → Int32))) (hK31 : ∀ (x2 : Int32) (x3 : Int32) (x4 : Int32) (u_this_thrown : Int32) (u_this_facts_f : Nat → Int32) (u_this_pile_f : Nat → Int32) (u_this_state_f : Nat → Int32) (u_this_lacks_f : Nat → Int32) (H : Heap) (locs : List Loc) (ls : Array Slot), va_P D vwCl (wd_X12_judged k this u_this_thrown this_tape this_taped this_size this_sort this_place this_value this_at this_fault this_words this_towns this_towns_f this_op this_op_f this_arg this_arg_f this_codes this_names this_readNames this_namesMany this_readMany this_once this_lines this_lines_f this_facts u_this_facts_f this_pile u_this_pile_f this_state u_this_state_f this_undos this_isMarked this_weight this_rounding this_lacks u_this_lacks_f this_alikes this_g) H → va_D A (wd_X12_judged k this u_this_thrown this_tape this_taped this_size this_sort this_place this_value this_at this_fault this_words this_towns this_towns_f this_op this_op_f this_arg this_arg_f this_codes this_names this_readNames this_namesMany this_readMany this_once this_lines this_lines_f this_facts u_this_facts_f this_pile u_this_pile_f this_state u_this_state_f this_undos this_isMarked this_weight this_rounding this_lacks u_this_lacks_f this_alikes this_g) → va_S A s.heap H locs → lv_has ls 10 [(0, .ref this), (1, .int q1), (2, .int x2), (3, .int x3), (4, .int x4)] → K31 x2 x3 x4 u_this_thrown u_this_facts_f u_this_pile_f u_this_state_f u_this_lacks_f = some R0 → W p l e (Rm 5 117) s m args below meth c H locs 0 0 (MQ below (QW D (some (.int R0.1)) (wd_X12_judged k this this_thrown this_tape this_taped this_size this_sort this_place this_value this_at this_fault this_words this_towns this_towns_f this_op this_op_f this_arg this_arg_f this_codes this_names this_readNames this_namesMany this_readMany this_once this_lines this_lines_f this_facts this_facts_f this_pile this_pile_f this_state this_state_f this_undos this_isMarked this_weight this_rounding this_lacks this_lacks_f this_alikes this_g) (wd_X12_judged k this R0.2.1 this_tape this_taped this_size this_sort this_place this_value this_at this_fault this_words this_towns this_towns_f this_op this_op_f this_arg this_arg_f this_codes this_names this_readNames this_namesMany this_readMany this_once this_lines this_lines_f this_facts R0.2.2.1 this_pile R0.2.2.2.1 this_state R0.2.2.2.2.1 this_undos this_isMarked this_weight this_rounding this_lacks R0.2.2.2.2.2 this_alikes this_g) s.heap.size) args s 0 0 A) (F0 m 31 ls [])), ∀ (x2 : Int32) (x3 : Int32) (x4 : Int32) (x8 : Int32) (u_this_thrown : Int32) (u_this_facts_f : Nat → Int32) (u_this_pile_f : Nat → Int32) (u_this_state_f : Nat → Int32) (u_this_lacks_f : Nat → Int32) (H : Heap) (locs : List Loc) (ls : Array Slot), va_P D vwCl (wd_X12_judged k this u_this_thrown this_tape this_taped this_size this_sort this_place this_value this_at this_fault this_words this_towns this_towns_f this_op this_op_f this_arg this_arg_f this_codes this_names this_readNames this_namesMany this_readMany this_once this_lines this_lines_f this_facts u_this_facts_f this_pile u_this_pile_f this_state u_this_state_f this_undos this_isMarked this_weight this_rounding this_lacks u_this_lacks_f this_alikes this_g) H → va_D A (wd_X12_judged k this u_this_thrown this_tape this_taped this_size this_sort this_place this_value this_at this_fault this_words this_towns this_towns_f this_op this_op_f this_arg this_arg_f this_codes this_names this_readNames this_namesMany this_readMany this_once this_lines this_lines_f this_facts u_this_facts_f this_pile u_this_pile_f this_state u_this_state_f this_undos this_isMarked this_weight this_rounding this_lacks u_this_lacks_f this_alikes this_g) → va_S A s.heap H locs → lv_has ls 10 [(0, .ref this), (1, .int q1), (2, .int x2), (3, .int x3), (4, .int x4), (8, .int x8)] → m_X12_judged_182 this_towns_f this_op_f this_arg_f this_lines_f this_weight this_rounding q1 K31 x2 x3 x4 x8 u_this_thrown u_this_facts_f u_this_pile_f u_this_state_f u_this_lacks_f = some R0 → W p l e (Rm 5 117) s m args below meth c H locs 0 0 (MQ below (QW D (some (.int R0.1)) (wd_X12_judged k this this_thrown this_tape this_taped this_size this_sort this_place this_value this_at this_fault this_words this_towns this_towns_f this_op this_op_f this_arg this_arg_f this_codes this_names this_readNames this_namesMany this_readMany this_once this_lines this_lines_f this_facts this_facts_f this_pile this_pile_f this_state this_state_f this_undos this_isMarked this_weight this_rounding this_lacks this_lacks_f this_alikes this_g) (wd_X12_judged k this R0.2.1 this_tape this_taped this_size this_sort this_place this_value this_at this_fault this_words this_towns this_towns_f this_op this_op_f this_arg this_arg_f this_codes this_names this_readNames this_namesMany this_readMany this_once this_lines this_lines_f this_facts R0.2.2.1 this_pile R0.2.2.2.1 this_state R0.2.2.2.2.1 this_undos this_isMarked this_weight this_rounding this_lacks R0.2.2.2.2.2 this_alikes this_g) s.heap.size) args s 0 0 A) (F0 m 182 ls []) := by
    intro K31 hK31 x2 x3 x4 x8 u_this_thrown u_this_facts_f u_this_pile_f u_this_state_f u_this_lacks_f H locs ls hP hD hS hl hm
    unfold m_X12_judged_182 at hm
    refine lv_aload_n (pc := 182) hx hb dX12_judged_182 rfl (lv_at hl 0 rfl) ?_
    refine lv_sipush (v := 1008) (pc := 183) hx hb dX12_judged_183 (by decide) ?_
    obtain ⟨r11, hcl, hm⟩ := bd hm
    refine cr_back (run_V (pc := 186) (n := 1) (As := [.int 1008]) (rest := []) ⟨hx, hb, hml, hown, hts⟩ (c_X12_highOf l D k this u_this_thrown this_tape this_taped this_size this_sort this_place this_value this_at this_fault this_words this_towns this_towns_f this_op this_arg this_codes this_names this_readNames this_namesMany this_readMany this_once this_lines this_facts this_pile this_state u_this_state_f this_undos this_isMarked this_weight this_rounding this_lacks this_alikes this_g 1008 r11 hcl) ⟨kw_1475, kw_16, by decide +kernel⟩ kw_1472 kw_1474 ks_123 ⟨Nat.le_of_ble_eq_true rfl, Nat.le_of_ble_eq_true rfl⟩ pr_blind (prR (hP.sub [0, 1, 7] rfl) hG) (va_recv hG.1 hP (ci := 10) (q0 := 0) rfl rfl) rfl hl.1 rfl (Nat.le_of_ble_eq_true rfl) dX12_judged_186 ⟨Nat.zero_le _, Nat.zero_le _⟩) ?_
    refine lv_iload (pc := 189) hx hb dX12_judged_189 (lv_at hl 5 rfl) ?_
    refine lv_icmp_eq (tgt := 198) (pc := 191) hx hb dX12_judged_191 (by decide) (fun hc => ?_) (fun hc => ?_)
    · rw [if_pos hc] at hm
      refine lv_iconst (v := 0) (pc := 198) hx hb dX12_judged_198 (by decide) ?_
      exact h_199 K31 hK31 x2 x3 x4 0 u_this_thrown u_this_facts_f u_this_pile_f u_this_state_f u_this_lacks_f H locs ls hP hD hS (lv_sub hl [0, 1, 2, 3, 4] rfl) hm
    · rw [if_neg hc] at hm
      refine lv_iconst (v := 1) (pc := 194) hx hb dX12_judged_194 (by decide) ?_
      refine lv_goto (tgt := 199) (pc := 195) hx hb dX12_judged_195 (by decide) ?_
      exact h_199 K31 hK31 x2 x3 x4 1 u_this_thrown u_this_facts_f u_this_pile_f u_this_state_f u_this_lacks_f H locs ls hP hD hS (lv_sub hl [0, 1, 2, 3, 4] rfl) hm
  have h_120 : ∀ (K31 : Int32 → Int32 → Int32 → Int32 → (Nat → Int32) → (Nat → Int32) → (Nat → Int32) → (Nat → Int32) → Option (Int32 × Int32 × (Nat → Int32) × (Nat → Int32) × (Nat → Int32) × (Nat → Int32))) (hK31 : ∀ (x2 : Int32) (x3 : Int32) (x4 : Int32) (u_this_thrown : Int32) (u_this_facts_f : Nat → Int32) (u_this_pile_f : Nat → Int32) (u_this_state_f : Nat → Int32) (u_this_lacks_f : Nat → Int32) (H : Heap) (locs : List Loc) (ls : Array Slot), va_P D vwCl (wd_X12_judged k this u_this_thrown this_tape this_taped this_size this_sort this_place this_value this_at this_fault this_words this_towns this_towns_f this_op this_op_f this_arg this_arg_f this_codes this_names this_readNames this_namesMany this_readMany this_once this_lines this_lines_f this_facts u_this_facts_f this_pile u_this_pile_f this_state u_this_state_f this_undos this_isMarked this_weight this_rounding this_lacks u_this_lacks_f this_alikes this_g) H → va_D A (wd_X12_judged k this u_this_thrown this_tape this_taped this_size this_sort this_place this_value this_at this_fault this_words this_towns this_towns_f this_op this_op_f this_arg this_arg_f this_codes this_names this_readNames this_namesMany this_readMany this_once this_lines this_lines_f this_facts u_this_facts_f this_pile u_this_pile_f this_state u_this_state_f this_undos this_isMarked this_weight this_rounding this_lacks u_this_lacks_f this_alikes this_g) → va_S A s.heap H locs → lv_has ls 10 [(0, .ref this), (1, .int q1), (2, .int x2), (3, .int x3), (4, .int x4)] → K31 x2 x3 x4 u_this_thrown u_this_facts_f u_this_pile_f u_this_state_f u_this_lacks_f = some R0 → W p l e (Rm 5 117) s m args below meth c H locs 0 0 (MQ below (QW D (some (.int R0.1)) (wd_X12_judged k this this_thrown this_tape this_taped this_size this_sort this_place this_value this_at this_fault this_words this_towns this_towns_f this_op this_op_f this_arg this_arg_f this_codes this_names this_readNames this_namesMany this_readMany this_once this_lines this_lines_f this_facts this_facts_f this_pile this_pile_f this_state this_state_f this_undos this_isMarked this_weight this_rounding this_lacks this_lacks_f this_alikes this_g) (wd_X12_judged k this R0.2.1 this_tape this_taped this_size this_sort this_place this_value this_at this_fault this_words this_towns this_towns_f this_op this_op_f this_arg this_arg_f this_codes this_names this_readNames this_namesMany this_readMany this_once this_lines this_lines_f this_facts R0.2.2.1 this_pile R0.2.2.2.1 this_state R0.2.2.2.2.1 this_undos this_isMarked this_weight this_rounding this_lacks R0.2.2.2.2.2 this_alikes this_g) s.heap.size) args s 0 0 A) (F0 m 31 ls [])), ∀ (x2 : Int32) (x3 : Int32) (x4 : Int32) (x8 : Int32) (t0 : Int32) (t1 : Int32) (t2 : Int32) (u_this_thrown : Int32) (u_this_facts_f : Nat → Int32) (u_this_pile_f : Nat → Int32) (u_this_state_f : Nat → Int32) (u_this_lacks_f : Nat → Int32) (H : Heap) (locs : List Loc) (ls : Array Slot), va_P D vwCl (wd_X12_judged k this u_this_thrown this_tape this_taped this_size this_sort this_place this_value this_at this_fault this_words this_towns this_towns_f this_op this_op_f this_arg this_arg_f this_codes this_names this_readNames this_namesMany this_readMany this_once this_lines this_lines_f this_facts u_this_facts_f this_pile u_this_pile_f this_state u_this_state_f this_undos this_isMarked this_weight this_rounding this_lacks u_this_lacks_f this_alikes this_g) H → va_D A (wd_X12_judged k this u_this_thrown this_tape this_taped this_size this_sort this_place this_value this_at this_fault this_words this_towns this_towns_f this_op this_op_f this_arg this_arg_f this_codes this_names this_readNames this_namesMany this_readMany this_once this_lines this_lines_f this_facts u_this_facts_f this_pile u_this_pile_f this_state u_this_state_f this_undos this_isMarked this_weight this_rounding this_lacks u_this_lacks_f this_alikes this_g) → va_S A s.heap H locs → lv_has ls 10 [(0, .ref this), (1, .int q1), (2, .int x2), (3, .int x3), (4, .int x4), (8, .int x8)] → m_X12_judged_120 this_towns_f this_op_f this_arg_f this_lines_f this_weight this_rounding q1 K31 x2 x3 x4 x8 t0 t1 t2 u_this_thrown u_this_facts_f u_this_pile_f u_this_state_f u_this_lacks_f = some R0 → W p l e (Rm 5 117) s m args below meth c H locs 0 0 (MQ below (QW D (some (.int R0.1)) (wd_X12_judged k this this_thrown this_tape this_taped this_size this_sort this_place this_value this_at this_fault this_words this_towns this_towns_f this_op this_op_f this_arg this_arg_f this_codes this_names this_readNames this_namesMany this_readMany this_once this_lines this_lines_f this_facts this_facts_f this_pile this_pile_f this_state this_state_f this_undos this_isMarked this_weight this_rounding this_lacks this_lacks_f this_alikes this_g) (wd_X12_judged k this R0.2.1 this_tape this_taped this_size this_sort this_place this_value this_at this_fault this_words this_towns this_towns_f this_op this_op_f this_arg this_arg_f this_codes this_names this_readNames this_namesMany this_readMany this_once this_lines this_lines_f this_facts R0.2.2.1 this_pile R0.2.2.2.1 this_state R0.2.2.2.2.1 this_undos this_isMarked this_weight this_rounding this_lacks R0.2.2.2.2.2 this_alikes this_g) s.heap.size) args s 0 0 A) (F0 m 120 ls [.int t0, .int t1, .int t2, .ref this]) := by
    intro K31 hK31 x2 x3 x4 x8 t0 t1 t2 u_this_thrown u_this_facts_f u_this_pile_f u_this_state_f u_this_lacks_f H locs ls hP hD hS hl hm
    unfold m_X12_judged_120 at hm
    obtain ⟨r12, hcl, hm⟩ := bd hm
    refine cw_mask (ws' := (wd_X12_judged k this u_this_thrown this_tape this_taped this_size this_sort this_place this_value this_at this_fault this_words this_towns this_towns_f this_op this_op_f this_arg this_arg_f this_codes this_names this_readNames this_namesMany this_readMany this_once this_lines this_lines_f this_facts u_this_facts_f this_pile u_this_pile_f this_state r12 this_undos this_isMarked this_weight this_rounding this_lacks u_this_lacks_f this_alikes this_g)) (run_V (pc := 120) (n := 3) (As := [.int t2, .int t1, .int t0]) (rest := []) ⟨hx, hb, hml, hown, hts⟩ ((c_X12_loses l D k this u_this_thrown this_tape this_taped this_size this_sort this_place this_value this_at this_fault this_words this_towns this_op this_arg this_codes this_names this_readNames this_namesMany this_readMany this_once this_lines this_facts this_pile this_state u_this_state_f this_undos this_isMarked this_weight this_rounding this_lacks this_alikes this_g t2 t1 t0 r12 hcl) H.size) ⟨kw_1517, kw_16, by decide +kernel⟩ kw_1514 kw_1516 ks_130 ⟨Nat.le_of_ble_eq_true rfl, Nat.le_of_ble_eq_true rfl⟩ pw_blind (prW (P_pick [true, false, false, false, false, false, false, true] rfl hP) hG (D_pick [true, false, false, false, false, false, false, true] rfl hD)) (va_recv hG.1 hP (ci := 10) (q0 := 0) rfl rfl) rfl hl.1 rfl (Nat.le_of_ble_eq_true rfl) dX12_judged_120 ⟨Nat.zero_le _, Nat.zero_le _⟩) hP hD hS hA [true, false, false, false, false, false, false, true] rfl rfl rfl (fun H locs hP hD hS => ?_)
    refine lv_goto (tgt := 182) (pc := 123) hx hb dX12_judged_123 (by decide) ?_
    exact h_182 K31 hK31 x2 x3 x4 x8 u_this_thrown u_this_facts_f u_this_pile_f r12 u_this_lacks_f H locs ls hP hD hS (lv_sub hl [0, 1, 2, 3, 4, 5] rfl) hm
  have h_101 : ∀ (K31 : Int32 → Int32 → Int32 → Int32 → (Nat → Int32) → (Nat → Int32) → (Nat → Int32) → (Nat → Int32) → Option (Int32 × Int32 × (Nat → Int32) × (Nat → Int32) × (Nat → Int32) × (Nat → Int32))) (hK31 : ∀ (x2 : Int32) (x3 : Int32) (x4 : Int32) (u_this_thrown : Int32) (u_this_facts_f : Nat → Int32) (u_this_pile_f : Nat → Int32) (u_this_state_f : Nat → Int32) (u_this_lacks_f : Nat → Int32) (H : Heap) (locs : List Loc) (ls : Array Slot), va_P D vwCl (wd_X12_judged k this u_this_thrown this_tape this_taped this_size this_sort this_place this_value this_at this_fault this_words this_towns this_towns_f this_op this_op_f this_arg this_arg_f this_codes this_names this_readNames this_namesMany this_readMany this_once this_lines this_lines_f this_facts u_this_facts_f this_pile u_this_pile_f this_state u_this_state_f this_undos this_isMarked this_weight this_rounding this_lacks u_this_lacks_f this_alikes this_g) H → va_D A (wd_X12_judged k this u_this_thrown this_tape this_taped this_size this_sort this_place this_value this_at this_fault this_words this_towns this_towns_f this_op this_op_f this_arg this_arg_f this_codes this_names this_readNames this_namesMany this_readMany this_once this_lines this_lines_f this_facts u_this_facts_f this_pile u_this_pile_f this_state u_this_state_f this_undos this_isMarked this_weight this_rounding this_lacks u_this_lacks_f this_alikes this_g) → va_S A s.heap H locs → lv_has ls 10 [(0, .ref this), (1, .int q1), (2, .int x2), (3, .int x3), (4, .int x4)] → K31 x2 x3 x4 u_this_thrown u_this_facts_f u_this_pile_f u_this_state_f u_this_lacks_f = some R0 → W p l e (Rm 5 117) s m args below meth c H locs 0 0 (MQ below (QW D (some (.int R0.1)) (wd_X12_judged k this this_thrown this_tape this_taped this_size this_sort this_place this_value this_at this_fault this_words this_towns this_towns_f this_op this_op_f this_arg this_arg_f this_codes this_names this_readNames this_namesMany this_readMany this_once this_lines this_lines_f this_facts this_facts_f this_pile this_pile_f this_state this_state_f this_undos this_isMarked this_weight this_rounding this_lacks this_lacks_f this_alikes this_g) (wd_X12_judged k this R0.2.1 this_tape this_taped this_size this_sort this_place this_value this_at this_fault this_words this_towns this_towns_f this_op this_op_f this_arg this_arg_f this_codes this_names this_readNames this_namesMany this_readMany this_once this_lines this_lines_f this_facts R0.2.2.1 this_pile R0.2.2.2.1 this_state R0.2.2.2.2.1 this_undos this_isMarked this_weight this_rounding this_lacks R0.2.2.2.2.2 this_alikes this_g) s.heap.size) args s 0 0 A) (F0 m 31 ls [])), ∀ (x2 : Int32) (x3 : Int32) (x4 : Int32) (x5 : Int32) (x6 : Int32) (x7 : Int32) (x8 : Int32) (u_this_thrown : Int32) (u_this_facts_f : Nat → Int32) (u_this_pile_f : Nat → Int32) (u_this_state_f : Nat → Int32) (u_this_lacks_f : Nat → Int32) (H : Heap) (locs : List Loc) (ls : Array Slot), va_P D vwCl (wd_X12_judged k this u_this_thrown this_tape this_taped this_size this_sort this_place this_value this_at this_fault this_words this_towns this_towns_f this_op this_op_f this_arg this_arg_f this_codes this_names this_readNames this_namesMany this_readMany this_once this_lines this_lines_f this_facts u_this_facts_f this_pile u_this_pile_f this_state u_this_state_f this_undos this_isMarked this_weight this_rounding this_lacks u_this_lacks_f this_alikes this_g) H → va_D A (wd_X12_judged k this u_this_thrown this_tape this_taped this_size this_sort this_place this_value this_at this_fault this_words this_towns this_towns_f this_op this_op_f this_arg this_arg_f this_codes this_names this_readNames this_namesMany this_readMany this_once this_lines this_lines_f this_facts u_this_facts_f this_pile u_this_pile_f this_state u_this_state_f this_undos this_isMarked this_weight this_rounding this_lacks u_this_lacks_f this_alikes this_g) → va_S A s.heap H locs → lv_has ls 10 [(0, .ref this), (1, .int q1), (2, .int x2), (3, .int x3), (4, .int x4), (5, .int x5), (6, .int x6), (7, .int x7), (8, .int x8)] → m_X12_judged_101 this_towns_f this_op_f this_arg_f this_lines_f this_weight this_rounding q1 K31 x2 x3 x4 x5 x6 x7 x8 u_this_thrown u_this_facts_f u_this_pile_f u_this_state_f u_this_lacks_f = some R0 → W p l e (Rm 5 117) s m args below meth c H locs 0 0 (MQ below (QW D (some (.int R0.1)) (wd_X12_judged k this this_thrown this_tape this_taped this_size this_sort this_place this_value this_at this_fault this_words this_towns this_towns_f this_op this_op_f this_arg this_arg_f this_codes this_names this_readNames this_namesMany this_readMany this_once this_lines this_lines_f this_facts this_facts_f this_pile this_pile_f this_state this_state_f this_undos this_isMarked this_weight this_rounding this_lacks this_lacks_f this_alikes this_g) (wd_X12_judged k this R0.2.1 this_tape this_taped this_size this_sort this_place this_value this_at this_fault this_words this_towns this_towns_f this_op this_op_f this_arg this_arg_f this_codes this_names this_readNames this_namesMany this_readMany this_once this_lines this_lines_f this_facts R0.2.2.1 this_pile R0.2.2.2.1 this_state R0.2.2.2.2.1 this_undos this_isMarked this_weight this_rounding this_lacks R0.2.2.2.2.2 this_alikes this_g) s.heap.size) args s 0 0 A) (F0 m 101 ls []) := by
    intro K31 hK31 x2 x3 x4 x5 x6 x7 x8 u_this_thrown u_this_facts_f u_this_pile_f u_this_state_f u_this_lacks_f H locs ls hP hD hS hl hm
    unfold m_X12_judged_101 at hm
    refine lv_aload_n (pc := 101) hx hb dX12_judged_101 rfl (lv_at hl 0 rfl) ?_
    refine lv_sipush (v := 1008) (pc := 102) hx hb dX12_judged_102 (by decide) ?_
    refine lv_iload (pc := 105) hx hb dX12_judged_105 (lv_at hl 6 rfl) ?_
    refine lv_iload (pc := 107) hx hb dX12_judged_107 (lv_at hl 5 rfl) ?_
    refine lv_if_ne (tgt := 117) (pc := 109) hx hb dX12_judged_109 (by decide) (fun hc => ?_) (fun hc => ?_)
    · rw [if_neg hc] at hm
      refine lv_iload (pc := 117) hx hb dX12_judged_117 (lv_at hl 7 rfl) ?_
      refine lv_ineg (pc := 119) hx hb dX12_judged_119 ?_
      exact h_120 K31 hK31 x2 x3 x4 x8 (-x7) x6 1008 u_this_thrown u_this_facts_f u_this_pile_f u_this_state_f u_this_lacks_f H locs ls hP hD hS (lv_sub hl [0, 1, 2, 3, 4, 8] rfl) hm
    · rw [if_pos hc] at hm
      refine lv_iload (pc := 112) hx hb dX12_judged_112 (lv_at hl 7 rfl) ?_
      refine lv_goto (tgt := 120) (pc := 114) hx hb dX12_judged_114 (by decide) ?_
      exact h_120 K31 hK31 x2 x3 x4 x8 x7 x6 1008 u_this_thrown u_this_facts_f u_this_pile_f u_this_state_f u_this_lacks_f H locs ls hP hD hS (lv_sub hl [0, 1, 2, 3, 4, 8] rfl) hm
  have h_31 : ∀ (n : Nat), ∀ (x2 : Int32) (x3 : Int32) (x4 : Int32) (u_this_thrown : Int32) (u_this_facts_f : Nat → Int32) (u_this_pile_f : Nat → Int32) (u_this_state_f : Nat → Int32) (u_this_lacks_f : Nat → Int32) (H : Heap) (locs : List Loc) (ls : Array Slot), va_P D vwCl (wd_X12_judged k this u_this_thrown this_tape this_taped this_size this_sort this_place this_value this_at this_fault this_words this_towns this_towns_f this_op this_op_f this_arg this_arg_f this_codes this_names this_readNames this_namesMany this_readMany this_once this_lines this_lines_f this_facts u_this_facts_f this_pile u_this_pile_f this_state u_this_state_f this_undos this_isMarked this_weight this_rounding this_lacks u_this_lacks_f this_alikes this_g) H → va_D A (wd_X12_judged k this u_this_thrown this_tape this_taped this_size this_sort this_place this_value this_at this_fault this_words this_towns this_towns_f this_op this_op_f this_arg this_arg_f this_codes this_names this_readNames this_namesMany this_readMany this_once this_lines this_lines_f this_facts u_this_facts_f this_pile u_this_pile_f this_state u_this_state_f this_undos this_isMarked this_weight this_rounding this_lacks u_this_lacks_f this_alikes this_g) → va_S A s.heap H locs → lv_has ls 10 [(0, .ref this), (1, .int q1), (2, .int x2), (3, .int x3), (4, .int x4)] → m_X12_judged_31 this_towns_f this_op_f this_arg_f this_lines_f this_weight this_rounding q1 n x2 x3 x4 u_this_thrown u_this_facts_f u_this_pile_f u_this_state_f u_this_lacks_f = some R0 → W p l e (Rm 5 117) s m args below meth c H locs 0 0 (MQ below (QW D (some (.int R0.1)) (wd_X12_judged k this this_thrown this_tape this_taped this_size this_sort this_place this_value this_at this_fault this_words this_towns this_towns_f this_op this_op_f this_arg this_arg_f this_codes this_names this_readNames this_namesMany this_readMany this_once this_lines this_lines_f this_facts this_facts_f this_pile this_pile_f this_state this_state_f this_undos this_isMarked this_weight this_rounding this_lacks this_lacks_f this_alikes this_g) (wd_X12_judged k this R0.2.1 this_tape this_taped this_size this_sort this_place this_value this_at this_fault this_words this_towns this_towns_f this_op this_op_f this_arg this_arg_f this_codes this_names this_readNames this_namesMany this_readMany this_once this_lines this_lines_f this_facts R0.2.2.1 this_pile R0.2.2.2.1 this_state R0.2.2.2.2.1 this_undos this_isMarked this_weight this_rounding this_lacks R0.2.2.2.2.2 this_alikes this_g) s.heap.size) args s 0 0 A) (F0 m 31 ls []) := by
    intro n
    induction n with
    | zero => intro x2 x3 x4 u_this_thrown u_this_facts_f u_this_pile_f u_this_state_f u_this_lacks_f H locs ls hP hD hS hl hm; cases hm
    | succ n ih =>
      intro x2 x3 x4 u_this_thrown u_this_facts_f u_this_pile_f u_this_state_f u_this_lacks_f H locs ls hP hD hS hl hm
      unfold m_X12_judged_31 at hm
      refine lv_iload (pc := 31) hx hb dX12_judged_31 (lv_at hl 4 rfl) ?_
      refine lv_aload_n (pc := 33) hx hb dX12_judged_33 rfl (lv_at hl 0 rfl) ?_
      refine va_get (pc := 34) (D := D) (ci := 10) (C := RX12) (T := TX12) (N := 30) hx hb hts hiX12 hown hG.1 hP 0 rfl rfl 19 (Nat.le_of_ble_eq_true rfl) (hts _ kw_1276) (fun _ h9 => h9) rfl dX12_judged_34 ?_
      refine lv_iconst (v := 0) (pc := 37) hx hb dX12_judged_37 (by decide) ?_
      refine va_iald (pc := 38) (D := D) hx hb hG.1 hP 4 0 rfl rfl (pn_in (Nat.le_of_ble_eq_true rfl) (Nat.le_of_ble_eq_true rfl)) dX12_judged_38 ?_
      refine lv_icmp_ge (tgt := 236) (pc := 39) hx hb dX12_judged_39 (by decide) (fun hc => ?_) (fun hc => ?_)
      · rw [if_pos hc] at hm
        refine lv_iload_n (pc := 236) hx hb dX12_judged_236 rfl (lv_at hl 1 rfl) ?_
        refine lv_if_ne (tgt := 244) (pc := 237) hx hb dX12_judged_237 (by decide) (fun hc => ?_) (fun hc => ?_)
        · rw [if_neg hc] at hm
          refine lv_iload_n (pc := 244) hx hb dX12_judged_244 rfl (lv_at hl 1 rfl) ?_
          refine lv_iconst (v := 1) (pc := 245) hx hb dX12_judged_245 (by decide) ?_
          refine lv_icmp_ne (tgt := 253) (pc := 246) hx hb dX12_judged_246 (by decide) (fun hc => ?_) (fun hc => ?_)
          · rw [if_neg hc] at hm
            refine lv_aload_n (pc := 253) hx hb dX12_judged_253 rfl (lv_at hl 0 rfl) ?_
            refine lv_sipush (v := 1008) (pc := 254) hx hb dX12_judged_254 (by decide) ?_
            obtain ⟨r13, hcl, hm⟩ := bd hm
            refine cr_back (run_V (pc := 257) (n := 1) (As := [.int 1008]) (rest := []) ⟨hx, hb, hml, hown, hts⟩ (c_X12_highOf l D k this u_this_thrown this_tape this_taped this_size this_sort this_place this_value this_at this_fault this_words this_towns this_towns_f this_op this_arg this_codes this_names this_readNames this_namesMany this_readMany this_once this_lines this_facts this_pile this_state u_this_state_f this_undos this_isMarked this_weight this_rounding this_lacks this_alikes this_g 1008 r13 hcl) ⟨kw_1475, kw_16, by decide +kernel⟩ kw_1472 kw_1474 ks_123 ⟨Nat.le_of_ble_eq_true rfl, Nat.le_of_ble_eq_true rfl⟩ pr_blind (prR (hP.sub [0, 1, 7] rfl) hG) (va_recv hG.1 hP (ci := 10) (q0 := 0) rfl rfl) rfl hl.1 rfl (Nat.le_of_ble_eq_true rfl) dX12_judged_257 ⟨Nat.zero_le _, Nat.zero_le _⟩) ?_
            rw [← Option.some.inj hm]
            exact W.iret hx hb hr (fun t ht _ => hq _ _ H t ht hP hD locs hS) hS.2.2 dX12_judged_260 hlocks
          · rw [if_pos hc] at hm
            refine lv_iload_n (pc := 249) hx hb dX12_judged_249 rfl (lv_at hl 3 rfl) ?_
            refine lv_goto (tgt := 260) (pc := 250) hx hb dX12_judged_250 (by decide) ?_
            rw [← Option.some.inj hm]
            exact W.iret hx hb hr (fun t ht _ => hq _ _ H t ht hP hD locs hS) hS.2.2 dX12_judged_260 hlocks
        · rw [if_pos hc] at hm
          refine lv_iload_n (pc := 240) hx hb dX12_judged_240 rfl (lv_at hl 2 rfl) ?_
          refine lv_goto (tgt := 260) (pc := 241) hx hb dX12_judged_241 (by decide) ?_
          rw [← Option.some.inj hm]
          exact W.iret hx hb hr (fun t ht _ => hq _ _ H t ht hP hD locs hS) hS.2.2 dX12_judged_260 hlocks
      · rw [if_neg hc] at hm
        refine lv_aload_n (pc := 42) hx hb dX12_judged_42 rfl (lv_at hl 0 rfl) ?_
        refine va_get (pc := 43) (D := D) (ci := 10) (C := RX12) (T := TX12) (N := 30) hx hb hts hiX12 hown hG.1 hP 0 rfl rfl 19 (Nat.le_of_ble_eq_true rfl) (hts _ kw_1276) (fun _ h9 => h9) rfl dX12_judged_43 ?_
        refine lv_iconst (v := 1) (pc := 46) hx hb dX12_judged_46 (by decide) ?_
        refine lv_iconst (v := 3) (pc := 47) hx hb dX12_judged_47 (by decide) ?_
        refine lv_iload (pc := 48) hx hb dX12_judged_48 (lv_at hl 4 rfl) ?_
        refine lv_imul (pc := 50) hx hb dX12_judged_50 ?_
        refine lv_iadd (pc := 51) hx hb dX12_judged_51 ?_
        obtain ⟨hin, hm⟩ := gd hm
        refine va_iald (pc := 52) (D := D) hx hb hG.1 hP 4 0 rfl rfl hin dX12_judged_52 ?_
        obtain ⟨z14, hv, hm⟩ := bd hm
        refine lv_topi (fun w ew => ?_)
        obtain rfl : z14 = w := (Option.some.inj hv).symm.trans ew.symm
        refine lv_istore (lv' := [(5, .int z14), (0, .ref this), (1, .int q1), (2, .int x2), (3, .int x3), (4, .int x4)]) (pc := 53) hx hb dX12_judged_53 hl (Nat.le_of_ble_eq_true rfl) rfl (fun ls hl => ?_)
        refine lv_aload_n (pc := 55) hx hb dX12_judged_55 rfl (lv_at hl 1 rfl) ?_
        refine va_get (pc := 56) (D := D) (ci := 10) (C := RX12) (T := TX12) (N := 30) hx hb hts hiX12 hown hG.1 hP 0 rfl rfl 19 (Nat.le_of_ble_eq_true rfl) (hts _ kw_1276) (fun _ h9 => h9) rfl dX12_judged_56 ?_
        refine lv_iconst (v := 2) (pc := 59) hx hb dX12_judged_59 (by decide) ?_
        refine lv_iconst (v := 3) (pc := 60) hx hb dX12_judged_60 (by decide) ?_
        refine lv_iload (pc := 61) hx hb dX12_judged_61 (lv_at hl 5 rfl) ?_
        refine lv_imul (pc := 63) hx hb dX12_judged_63 ?_
        refine lv_iadd (pc := 64) hx hb dX12_judged_64 ?_
        obtain ⟨hin, hm⟩ := gd hm
        refine va_iald (pc := 65) (D := D) hx hb hG.1 hP 4 0 rfl rfl hin dX12_judged_65 ?_
        obtain ⟨z15, hv, hm⟩ := bd hm
        refine lv_topi (fun w ew => ?_)
        obtain rfl : z15 = w := (Option.some.inj hv).symm.trans ew.symm
        refine lv_istore (lv' := [(6, .int z15), (5, .int z14), (0, .ref this), (1, .int q1), (2, .int x2), (3, .int x3), (4, .int x4)]) (pc := 66) hx hb dX12_judged_66 hl (Nat.le_of_ble_eq_true rfl) rfl (fun ls hl => ?_)
        refine lv_aload_n (pc := 68) hx hb dX12_judged_68 rfl (lv_at hl 2 rfl) ?_
        refine va_get (pc := 69) (D := D) (ci := 10) (C := RX12) (T := TX12) (N := 30) hx hb hts hiX12 hown hG.1 hP 0 rfl rfl 19 (Nat.le_of_ble_eq_true rfl) (hts _ kw_1276) (fun _ h9 => h9) rfl dX12_judged_69 ?_
        refine lv_iconst (v := 3) (pc := 72) hx hb dX12_judged_72 (by decide) ?_
        refine lv_iconst (v := 3) (pc := 73) hx hb dX12_judged_73 (by decide) ?_
        refine lv_iload (pc := 74) hx hb dX12_judged_74 (lv_at hl 6 rfl) ?_
        refine lv_imul (pc := 76) hx hb dX12_judged_76 ?_
        refine lv_iadd (pc := 77) hx hb dX12_judged_77 ?_
        obtain ⟨hin, hm⟩ := gd hm
        refine va_iald (pc := 78) (D := D) hx hb hG.1 hP 4 0 rfl rfl hin dX12_judged_78 ?_
        obtain ⟨z16, hv, hm⟩ := bd hm
        refine lv_topi (fun w ew => ?_)
        obtain rfl : z16 = w := (Option.some.inj hv).symm.trans ew.symm
        refine lv_istore (lv' := [(7, .int z16), (6, .int z15), (5, .int z14), (0, .ref this), (1, .int q1), (2, .int x2), (3, .int x3), (4, .int x4)]) (pc := 79) hx hb dX12_judged_79 hl (Nat.le_of_ble_eq_true rfl) rfl (fun ls hl => ?_)
        refine lv_aload_n (pc := 81) hx hb dX12_judged_81 rfl (lv_at hl 3 rfl) ?_
        refine lv_sipush (v := 1008) (pc := 82) hx hb dX12_judged_82 (by decide) ?_
        obtain ⟨r17, hcl, hm⟩ := bd hm
        refine cr_back (run_V (pc := 85) (n := 1) (As := [.int 1008]) (rest := []) ⟨hx, hb, hml, hown, hts⟩ (c_X12_highOf l D k this u_this_thrown this_tape this_taped this_size this_sort this_place this_value this_at this_fault this_words this_towns this_towns_f this_op this_arg this_codes this_names this_readNames this_namesMany this_readMany this_once this_lines this_facts this_pile this_state u_this_state_f this_undos this_isMarked this_weight this_rounding this_lacks this_alikes this_g 1008 r17 hcl) ⟨kw_1475, kw_16, by decide +kernel⟩ kw_1472 kw_1474 ks_123 ⟨Nat.le_of_ble_eq_true rfl, Nat.le_of_ble_eq_true rfl⟩ pr_blind (prR (hP.sub [0, 1, 7] rfl) hG) (va_recv hG.1 hP (ci := 10) (q0 := 0) rfl rfl) rfl hl.1 rfl (Nat.le_of_ble_eq_true rfl) dX12_judged_85 ⟨Nat.zero_le _, Nat.zero_le _⟩) ?_
        refine lv_istore (lv' := [(8, .int r17), (7, .int z16), (6, .int z15), (5, .int z14), (0, .ref this), (1, .int q1), (2, .int x2), (3, .int x3), (4, .int x4)]) (pc := 88) hx hb dX12_judged_88 hl (Nat.le_of_ble_eq_true rfl) rfl (fun ls hl => ?_)
        refine lv_iload (pc := 90) hx hb dX12_judged_90 (lv_at hl 3 rfl) ?_
        refine lv_if_eq (tgt := 101) (pc := 92) hx hb dX12_judged_92 (by decide) (fun hc => ?_) (fun hc => ?_)
        · rw [if_pos hc] at hm
          exact h_101 (m_X12_judged_31 this_towns_f this_op_f this_arg_f this_lines_f this_weight this_rounding q1 n) ih x2 x3 x4 z14 z15 z16 r17 u_this_thrown u_this_facts_f u_this_pile_f u_this_state_f u_this_lacks_f H locs ls hP hD hS (lv_sub hl [4, 5, 6, 7, 8, 3, 2, 1, 0] rfl) hm
        · rw [if_neg hc] at hm
          refine lv_iload (pc := 95) hx hb dX12_judged_95 (lv_at hl 3 rfl) ?_
          refine lv_iconst (v := 1) (pc := 97) hx hb dX12_judged_97 (by decide) ?_
          refine lv_icmp_ne (tgt := 126) (pc := 98) hx hb dX12_judged_98 (by decide) (fun hc => ?_) (fun hc => ?_)
          · rw [if_neg hc] at hm
            refine lv_iload (pc := 126) hx hb dX12_judged_126 (lv_at hl 3 rfl) ?_
            refine lv_iconst (v := 2) (pc := 128) hx hb dX12_judged_128 (by decide) ?_
            refine lv_icmp_ne (tgt := 147) (pc := 129) hx hb dX12_judged_129 (by decide) (fun hc => ?_) (fun hc => ?_)
            · rw [if_neg hc] at hm
              refine lv_iload (pc := 147) hx hb dX12_judged_147 (lv_at hl 3 rfl) ?_
              refine lv_iconst (v := 3) (pc := 149) hx hb dX12_judged_149 (by decide) ?_
              refine lv_icmp_ne (tgt := 174) (pc := 150) hx hb dX12_judged_150 (by decide) (fun hc => ?_) (fun hc => ?_)
              · rw [if_neg hc] at hm
                refine lv_aload_n (pc := 174) hx hb dX12_judged_174 rfl (lv_at hl 4 rfl) ?_
                refine lv_sipush (v := 1008) (pc := 175) hx hb dX12_judged_175 (by decide) ?_
                obtain ⟨r18, hcl, hm⟩ := bd hm
                refine cw_mask (ws' := (wd_X12_judged k this u_this_thrown this_tape this_taped this_size this_sort this_place this_value this_at this_fault this_words this_towns this_towns_f this_op this_op_f this_arg this_arg_f this_codes this_names this_readNames this_namesMany this_readMany this_once this_lines this_lines_f this_facts r18.2.1 this_pile r18.2.2.1 this_state r18.2.2.2.1 this_undos this_isMarked this_weight this_rounding this_lacks r18.2.2.2.2 this_alikes this_g)) (run_V (pc := 178) (n := 1) (As := [.int 1008]) (rest := []) ⟨hx, hb, hml, hown, hts⟩ ((c_X12_passes l D k this u_this_thrown this_tape this_taped this_size this_sort this_place this_value this_at this_fault this_words this_towns this_towns_f this_op this_op_f this_arg this_arg_f this_codes this_names this_readNames this_namesMany this_readMany this_once this_lines this_facts u_this_facts_f this_pile u_this_pile_f this_state u_this_state_f this_undos this_isMarked this_weight this_rounding this_lacks u_this_lacks_f this_alikes this_g 1008 r18 hcl) H.size) ⟨kw_1537, kw_16, by decide +kernel⟩ kw_1534 kw_1536 ks_131 ⟨Nat.le_of_ble_eq_true rfl, Nat.le_of_ble_eq_true rfl⟩ pw_blind (prW (P_pick [true, true, true, true, false, true, true, true, true] rfl hP) hG (D_pick [true, true, true, true, false, true, true, true, true] rfl hD)) (va_recv hG.1 hP (ci := 10) (q0 := 0) rfl rfl) rfl hl.1 rfl (Nat.le_of_ble_eq_true rfl) dX12_judged_178 ⟨Nat.zero_le _, Nat.zero_le _⟩) hP hD hS hA [true, true, true, true, false, true, true, true, true] rfl rfl rfl (fun H locs hP hD hS => ?_)
                refine lv_pop (pc := 181) hx hb dX12_judged_181 rfl ?_
                exact h_182 (m_X12_judged_31 this_towns_f this_op_f this_arg_f this_lines_f this_weight this_rounding q1 n) ih x2 x3 x4 r17 u_this_thrown r18.2.1 r18.2.2.1 r18.2.2.2.1 r18.2.2.2.2 H locs ls hP hD hS (lv_sub hl [4, 5, 6, 7, 8, 0] rfl) hm
              · rw [if_pos hc] at hm
                refine lv_aload_n (pc := 153) hx hb dX12_judged_153 rfl (lv_at hl 4 rfl) ?_
                refine va_get (pc := 154) (D := D) (ci := 10) (C := RX12) (T := TX12) (N := 30) hx hb hts hiX12 hown hG.1 hP 0 rfl rfl 22 (Nat.le_of_ble_eq_true rfl) (hts _ kw_1279) (fun _ h9 => h9) rfl dX12_judged_154 ?_
                refine lv_sipush (v := 1015) (pc := 157) hx hb dX12_judged_157 (by decide) ?_
                refine lv_iload (pc := 160) hx hb dX12_judged_160 (lv_at hl 2 rfl) ?_
                refine lv_iadd (pc := 162) hx hb dX12_judged_162 ?_
                refine lv_dup2_11 (pc := 163) hx hb dX12_judged_163 rfl rfl ?_
                obtain ⟨hin, hm⟩ := gd hm
                refine va_iald (pc := 164) (D := D) hx hb hG.1 hP 7 0 rfl rfl hin dX12_judged_164 ?_
                refine lv_iconst (v := 1) (pc := 165) hx hb dX12_judged_165 (by decide) ?_
                refine lv_iload (pc := 166) hx hb dX12_judged_166 (lv_at hl 1 rfl) ?_
                refine lv_ishl (pc := 168) hx hb dX12_judged_168 ?_
                refine lv_ixor (pc := 169) hx hb dX12_judged_169 ?_
                obtain ⟨hin, hm⟩ := gd hm
                refine va_iast (pc := 170) (D := D) hx hb hG.1 hP hD hS 7 0 rfl rfl hin dX12_judged_170 (fun H locs hP hD hS => ?_)
                have hP : va_P D vwCl (wd_X12_judged k this u_this_thrown this_tape this_taped this_size this_sort this_place this_value this_at this_fault this_words this_towns this_towns_f this_op this_op_f this_arg this_arg_f this_codes this_names this_readNames this_namesMany this_readMany this_once this_lines this_lines_f this_facts u_this_facts_f this_pile u_this_pile_f this_state (upd u_this_state_f (1015 + z15).toNatClampNeg ((u_this_state_f (1015 + z15).toNatClampNeg) ^^^ (1 <<< (z16 &&& 31)))) this_undos this_isMarked this_weight this_rounding this_lacks u_this_lacks_f this_alikes this_g) H := hP
                have hD : va_D A (wd_X12_judged k this u_this_thrown this_tape this_taped this_size this_sort this_place this_value this_at this_fault this_words this_towns this_towns_f this_op this_op_f this_arg this_arg_f this_codes this_names this_readNames this_namesMany this_readMany this_once this_lines this_lines_f this_facts u_this_facts_f this_pile u_this_pile_f this_state (upd u_this_state_f (1015 + z15).toNatClampNeg ((u_this_state_f (1015 + z15).toNatClampNeg) ^^^ (1 <<< (z16 &&& 31)))) this_undos this_isMarked this_weight this_rounding this_lacks u_this_lacks_f this_alikes this_g) := hD
                refine lv_goto (tgt := 182) (pc := 171) hx hb dX12_judged_171 (by decide) ?_
                exact h_182 (m_X12_judged_31 this_towns_f this_op_f this_arg_f this_lines_f this_weight this_rounding q1 n) ih x2 x3 x4 r17 u_this_thrown u_this_facts_f u_this_pile_f (upd u_this_state_f (1015 + z15).toNatClampNeg ((u_this_state_f (1015 + z15).toNatClampNeg) ^^^ (1 <<< (z16 &&& 31)))) u_this_lacks_f H locs ls hP hD hS (lv_sub hl [4, 5, 6, 7, 8, 0] rfl) hm
            · rw [if_pos hc] at hm
              refine lv_aload_n (pc := 132) hx hb dX12_judged_132 rfl (lv_at hl 4 rfl) ?_
              refine va_get (pc := 133) (D := D) (ci := 10) (C := RX12) (T := TX12) (N := 30) hx hb hts hiX12 hown hG.1 hP 0 rfl rfl 22 (Nat.le_of_ble_eq_true rfl) (hts _ kw_1279) (fun _ h9 => h9) rfl dX12_judged_133 ?_
              refine lv_sipush (v := 1009) (pc := 136) hx hb dX12_judged_136 (by decide) ?_
              refine lv_iload (pc := 139) hx hb dX12_judged_139 (lv_at hl 2 rfl) ?_
              refine lv_iadd (pc := 141) hx hb dX12_judged_141 ?_
              refine lv_iconst (v := 0) (pc := 142) hx hb dX12_judged_142 (by decide) ?_
              obtain ⟨hin, hm⟩ := gd hm
              refine va_iast (pc := 143) (D := D) hx hb hG.1 hP hD hS 7 0 rfl rfl hin dX12_judged_143 (fun H locs hP hD hS => ?_)
              have hP : va_P D vwCl (wd_X12_judged k this u_this_thrown this_tape this_taped this_size this_sort this_place this_value this_at this_fault this_words this_towns this_towns_f this_op this_op_f this_arg this_arg_f this_codes this_names this_readNames this_namesMany this_readMany this_once this_lines this_lines_f this_facts u_this_facts_f this_pile u_this_pile_f this_state (upd u_this_state_f (1009 + z15).toNatClampNeg 0) this_undos this_isMarked this_weight this_rounding this_lacks u_this_lacks_f this_alikes this_g) H := hP
              have hD : va_D A (wd_X12_judged k this u_this_thrown this_tape this_taped this_size this_sort this_place this_value this_at this_fault this_words this_towns this_towns_f this_op this_op_f this_arg this_arg_f this_codes this_names this_readNames this_namesMany this_readMany this_once this_lines this_lines_f this_facts u_this_facts_f this_pile u_this_pile_f this_state (upd u_this_state_f (1009 + z15).toNatClampNeg 0) this_undos this_isMarked this_weight this_rounding this_lacks u_this_lacks_f this_alikes this_g) := hD
              refine lv_goto (tgt := 182) (pc := 144) hx hb dX12_judged_144 (by decide) ?_
              exact h_182 (m_X12_judged_31 this_towns_f this_op_f this_arg_f this_lines_f this_weight this_rounding q1 n) ih x2 x3 x4 r17 u_this_thrown u_this_facts_f u_this_pile_f (upd u_this_state_f (1009 + z15).toNatClampNeg 0) u_this_lacks_f H locs ls hP hD hS (lv_sub hl [4, 5, 6, 7, 8, 0] rfl) hm
          · rw [if_pos hc] at hm
            exact h_101 (m_X12_judged_31 this_towns_f this_op_f this_arg_f this_lines_f this_weight this_rounding q1 n) ih x2 x3 x4 z14 z15 z16 r17 u_this_thrown u_this_facts_f u_this_pile_f u_this_state_f u_this_lacks_f H locs ls hP hD hS (lv_sub hl [4, 5, 6, 7, 8, 3, 2, 1, 0] rfl) hm
  unfold m_X12_judged at hm
  suffices hgo : ∀ (H : Heap) (locs : List Loc), va_P D vwCl (wd_X12_judged k this this_thrown this_tape this_taped this_size this_sort this_place this_value this_at this_fault this_words this_towns this_towns_f this_op this_op_f this_arg this_arg_f this_codes this_names this_readNames this_namesMany this_readMany this_once this_lines this_lines_f this_facts this_facts_f this_pile this_pile_f this_state this_state_f this_undos this_isMarked this_weight this_rounding this_lacks this_lacks_f this_alikes this_g) H → va_D A (wd_X12_judged k this this_thrown this_tape this_taped this_size this_sort this_place this_value this_at this_fault this_words this_towns this_towns_f this_op this_op_f this_arg this_arg_f this_codes this_names this_readNames this_namesMany this_readMany this_once this_lines this_lines_f this_facts this_facts_f this_pile this_pile_f this_state this_state_f this_undos this_isMarked this_weight this_rounding this_lacks this_lacks_f this_alikes this_g) → va_S A s.heap H locs → W p l e (Rm 5 117) s m args below meth c H locs 0 0 (MQ below (QW D (some (.int R0.1)) (wd_X12_judged k this this_thrown this_tape this_taped this_size this_sort this_place this_value this_at this_fault this_words this_towns this_towns_f this_op this_op_f this_arg this_arg_f this_codes this_names this_readNames this_namesMany this_readMany this_once this_lines this_lines_f this_facts this_facts_f this_pile this_pile_f this_state this_state_f this_undos this_isMarked this_weight this_rounding this_lacks this_lacks_f this_alikes this_g) (wd_X12_judged k this R0.2.1 this_tape this_taped this_size this_sort this_place this_value this_at this_fault this_words this_towns this_towns_f this_op this_op_f this_arg this_arg_f this_codes this_names this_readNames this_namesMany this_readMany this_once this_lines this_lines_f this_facts R0.2.2.1 this_pile R0.2.2.2.1 this_state R0.2.2.2.2.1 this_undos this_isMarked this_weight this_rounding this_lacks R0.2.2.2.2.2 this_alikes this_g) s.heap.size) args s 0 0 A) (F0 m 0 ls []) from hgo _ _ hP hD hS
  clear hP hD hS
  intro H locs hP hD hS
  refine lv_aload_n (pc := 0) hx hb dX12_judged_0 rfl (lv_at hl 0 rfl) ?_
  refine lv_iconst (v := 0) (pc := 1) hx hb dX12_judged_1 (by decide) ?_
  refine va_put (pc := 2) (D := D) (ci := 10) (v := .int 0) (ty := .int) (C := RX12) (T := TX12) (N := 30) hx hb hts hiX12 tyX12 tyX12_ok nmX12 hown hG.1 hP hD hS 0 rfl rfl 0 (Nat.le_of_ble_eq_true rfl) (hts _ kw_1257) (fun _ h9 => h9) rfl (by decide +kernel) rfl rfl (Nat.le_of_ble_eq_true rfl) dX12_judged_2 (fun H locs hP hD hS => ?_)
  have hP : va_P D vwCl (wd_X12_judged k this 0 this_tape this_taped this_size this_sort this_place this_value this_at this_fault this_words this_towns this_towns_f this_op this_op_f this_arg this_arg_f this_codes this_names this_readNames this_namesMany this_readMany this_once this_lines this_lines_f this_facts this_facts_f this_pile this_pile_f this_state this_state_f this_undos this_isMarked this_weight this_rounding this_lacks this_lacks_f this_alikes this_g) H := hP
  have hD : va_D A (wd_X12_judged k this 0 this_tape this_taped this_size this_sort this_place this_value this_at this_fault this_words this_towns this_towns_f this_op this_op_f this_arg this_arg_f this_codes this_names this_readNames this_namesMany this_readMany this_once this_lines this_lines_f this_facts this_facts_f this_pile this_pile_f this_state this_state_f this_undos this_isMarked this_weight this_rounding this_lacks this_lacks_f this_alikes this_g) := hD
  refine lv_iload_n (pc := 5) hx hb dX12_judged_5 rfl (lv_at hl 1 rfl) ?_
  refine lv_iconst (v := 0) (pc := 6) hx hb dX12_judged_6 (by decide) ?_
  refine lv_iconst (v := 2) (pc := 7) hx hb dX12_judged_7 (by decide) ?_
  obtain ⟨r19, hcl, hm⟩ := bd hm
  refine cr_back (run_S (pc := 8) (n := 3) (As := [.int q1, .int 0, .int 2]) (rest := []) ⟨hx, hb, hml, hown, hts⟩ (c_X12_within l D k q1 0 2 r19 hcl) ⟨kw_1501, kw_16, by decide +kernel⟩ kw_1499 kw_1500 ⟨Nat.le_of_ble_eq_true rfl, Nat.le_of_ble_eq_true rfl⟩ pr_blind (prR (hP.sub [] rfl) hG) rfl hl.1 rfl (Nat.le_of_ble_eq_true rfl) dX12_judged_8 ⟨Nat.zero_le _, Nat.zero_le _⟩) ?_
  refine lv_if_ne (tgt := 17) (pc := 11) hx hb dX12_judged_11 (by decide) (fun hc => ?_) (fun hc => ?_)
  · rw [if_neg hc] at hm
    refine lv_aload_n (pc := 17) hx hb dX12_judged_17 rfl (lv_at hl 0 rfl) ?_
    refine lv_sipush (v := 1008) (pc := 18) hx hb dX12_judged_18 (by decide) ?_
    obtain ⟨r20, hcl, hm⟩ := bd hm
    refine cw_mask (ws' := (wd_X12_judged k this 0 this_tape this_taped this_size this_sort this_place this_value this_at this_fault this_words this_towns this_towns_f this_op this_op_f this_arg this_arg_f this_codes this_names this_readNames this_namesMany this_readMany this_once this_lines this_lines_f this_facts this_facts_f this_pile this_pile_f this_state r20 this_undos this_isMarked this_weight this_rounding this_lacks this_lacks_f this_alikes this_g)) (run_V (pc := 21) (n := 1) (As := [.int 1008]) (rest := []) ⟨hx, hb, hml, hown, hts⟩ ((c_X12_starts l D k this 0 this_tape this_taped this_size this_sort this_place this_value this_at this_fault this_words this_towns this_towns_f this_op this_arg this_codes this_names this_readNames this_namesMany this_readMany this_once this_lines this_facts this_pile this_state this_state_f this_undos this_isMarked this_weight this_rounding this_lacks this_alikes this_g 1008 r20 hcl) H.size) ⟨kw_1248, kw_16, by decide +kernel⟩ kw_1245 kw_1247 ks_96 ⟨Nat.le_of_ble_eq_true rfl, Nat.le_of_ble_eq_true rfl⟩ pw_blind (prW (P_pick [true, true, false, false, false, false, false, true] rfl hP) hG (D_pick [true, true, false, false, false, false, false, true] rfl hD)) (va_recv hG.1 hP (ci := 10) (q0 := 0) rfl rfl) rfl hl.1 rfl (Nat.le_of_ble_eq_true rfl) dX12_judged_21 ⟨Nat.zero_le _, Nat.zero_le _⟩) hP hD hS hA [true, true, false, false, false, false, false, true] rfl rfl rfl (fun H locs hP hD hS => ?_)
    refine lv_iconst (v := (-1)) (pc := 24) hx hb dX12_judged_24 (by decide) ?_
    refine lv_istore_n (lv' := [(2, .int (-1)), (0, .ref this), (1, .int q1)]) (pc := 25) hx hb dX12_judged_25 rfl hl (Nat.le_of_ble_eq_true rfl) rfl (fun ls hl => ?_)
    refine lv_iconst (v := 0) (pc := 26) hx hb dX12_judged_26 (by decide) ?_
    refine lv_istore_n (lv' := [(3, .int 0), (2, .int (-1)), (0, .ref this), (1, .int q1)]) (pc := 27) hx hb dX12_judged_27 rfl hl (Nat.le_of_ble_eq_true rfl) rfl (fun ls hl => ?_)
    refine lv_iconst (v := 0) (pc := 28) hx hb dX12_judged_28 (by decide) ?_
    refine lv_istore (lv' := [(4, .int 0), (3, .int 0), (2, .int (-1)), (0, .ref this), (1, .int q1)]) (pc := 29) hx hb dX12_judged_29 hl (Nat.le_of_ble_eq_true rfl) rfl (fun ls hl => ?_)
    exact h_31 FU (-1) 0 0 0 this_facts_f this_pile_f r20 this_lacks_f H locs ls hP hD hS (lv_sub hl [3, 4, 2, 1, 0] rfl) hm
  · rw [if_pos hc] at hm
    refine lv_bipush (v := (-2)) (pc := 14) hx hb dX12_judged_14 (by decide) ?_
    rw [← Option.some.inj hm]
    exact W.iret hx hb hr (fun t ht _ => hq _ _ H t ht hP hD locs hS) hS.2.2 dX12_judged_16 hlocks
