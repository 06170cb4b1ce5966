theorem dX12_deaf_0 : decode cX12_deaf 0 = .ok (.aload_n 0, 1) := by decide +kernel
theorem dX12_deaf_1 : decode cX12_deaf 1 = .ok (.iconst 0, 1) := by decide +kernel
theorem dX12_deaf_2 : decode cX12_deaf 2 = .ok (.putfield 1, 3) := by decide +kernel
theorem dX12_deaf_5 : decode cX12_deaf 5 = .ok (.iconst 0, 1) := by decide +kernel
theorem dX12_deaf_6 : decode cX12_deaf 6 = .ok (.istore_n 1, 1) := by decide +kernel
theorem dX12_deaf_7 : decode cX12_deaf 7 = .ok (.iconst 0, 1) := by decide +kernel
theorem dX12_deaf_8 : decode cX12_deaf 8 = .ok (.istore_n 2, 1) := by decide +kernel
theorem dX12_deaf_9 : decode cX12_deaf 9 = .ok (.iload_n 2, 1) := by decide +kernel
theorem dX12_deaf_10 : decode cX12_deaf 10 = .ok (.aload_n 0, 1) := by decide +kernel
theorem dX12_deaf_11 : decode cX12_deaf 11 = .ok (.invokevirtual 255, 3) := by decide +kernel
theorem dX12_deaf_14 : decode cX12_deaf 14 = .ok (.if_icmp .ge 31, 3) := by decide +kernel
theorem dX12_deaf_17 : decode cX12_deaf 17 = .ok (.iload_n 1, 1) := by decide +kernel
theorem dX12_deaf_18 : decode cX12_deaf 18 = .ok (.aload_n 0, 1) := by decide +kernel
theorem dX12_deaf_19 : decode cX12_deaf 19 = .ok (.getfield 113, 3) := by decide +kernel
theorem dX12_deaf_22 : decode cX12_deaf 22 = .ok (.bipush 7, 2) := by decide +kernel
theorem dX12_deaf_24 : decode cX12_deaf 24 = .ok (.iload_n 2, 1) := by decide +kernel
theorem dX12_deaf_25 : decode cX12_deaf 25 = .ok (.iadd, 1) := by decide +kernel
theorem dX12_deaf_26 : decode cX12_deaf 26 = .ok (.iaload, 1) := by decide +kernel
theorem dX12_deaf_27 : decode cX12_deaf 27 = .ok (.ifCond .ne 9, 3) := by decide +kernel
theorem dX12_deaf_30 : decode cX12_deaf 30 = .ok (.iconst 1, 1) := by decide +kernel
theorem dX12_deaf_31 : decode cX12_deaf 31 = .ok (.iload_n 2, 1) := by decide +kernel
theorem dX12_deaf_32 : decode cX12_deaf 32 = .ok (.ishl, 1) := by decide +kernel
theorem dX12_deaf_33 : decode cX12_deaf 33 = .ok (.goto 4, 3) := by decide +kernel
theorem dX12_deaf_36 : decode cX12_deaf 36 = .ok (.iconst 0, 1) := by decide +kernel
theorem dX12_deaf_37 : decode cX12_deaf 37 = .ok (.ior, 1) := by decide +kernel
theorem dX12_deaf_38 : decode cX12_deaf 38 = .ok (.istore_n 1, 1) := by decide +kernel
theorem dX12_deaf_39 : decode cX12_deaf 39 = .ok (.iinc 2 1, 3) := by decide +kernel
theorem dX12_deaf_42 : decode cX12_deaf 42 = .ok (.goto (-33), 3) := by decide +kernel
theorem dX12_deaf_45 : decode cX12_deaf 45 = .ok (.iload_n 1, 1) := by decide +kernel
theorem dX12_deaf_46 : decode cX12_deaf 46 = .ok (.ireturn, 1) := by decide +kernel
abbrev wd_X12_deaf (k : Nat → ClassId) (this : Nat) (this_thrown : Int32) (this_tape : Nat) (this_taped : Int32) (this_size : Int32) (this_sort : Nat) (this_place : Nat) (this_value : Nat) (this_at : Int32) (this_fault : Int32) (this_words : Nat) (this_towns : Nat) (this_towns_f : Nat → Int32) (this_op : Nat) (this_arg : Nat) (this_codes : Int32) (this_names : Nat) (this_readNames : Nat) (this_namesMany : Int32) (this_readMany : Int32) (this_once : Int32) (this_lines : Nat) (this_facts : Nat) (this_pile : Nat) (this_state : Nat) (this_state_f : Nat → Int32) (this_undos : Int32) (this_isMarked : Nat) (this_weight : Int32) (this_rounding : Int32) (this_lacks : Nat) (this_alikes : Nat) (this_g : Int64) : va_W := [(this, .inr (10, [.int this_thrown, .ref this_tape, .int this_taped, .int this_size, .ref this_sort, .ref this_place, .ref this_value, .int this_at, .int this_fault, .ref this_words, .ref this_towns, .ref this_op, .ref this_arg, .int this_codes, .ref this_names, .ref this_readNames, .int this_namesMany, .int this_readMany, .int this_once, .ref this_lines, .ref this_facts, .ref this_pile, .ref this_state, .int this_undos, .ref this_isMarked, .int this_weight, .int this_rounding, .ref this_lacks, .ref this_alikes, .long this_g])), (this_towns, .inl (k 0, 60, .inl this_towns_f)), (this_state, .inl (k 0, 1104, .inl this_state_f))]
set_option maxHeartbeats 4000000 in
set_option maxRecDepth 100000 in
theorem c_X12_deaf (l : Launch) (D : va_G) (k : Nat → ClassId) (this : Nat) (this_thrown : Int32) (this_tape : Nat) (this_taped : Int32) (this_size : Int32) (this_sort : Nat) (this_place : Nat) (this_value : Nat) (this_at : Int32) (this_fault : Int32) (this_words : Nat) (this_towns : Nat) (this_towns_f : Nat → Int32) (this_op : Nat) (this_arg : Nat) (this_codes : Int32) (this_names : Nat) (this_readNames : Nat) (this_namesMany : Int32) (this_readMany : Int32) (this_once : Int32) (this_lines : Nat) (this_facts : Nat) (this_pile : Nat) (this_state : Nat) (this_state_f : Nat → Int32) (this_undos : Int32) (this_isMarked : Nat) (this_weight : Int32) (this_rounding : Int32) (this_lacks : Nat) (this_alikes : Nat) (this_g : Int64) (R0 : Int32 × Int32) (hm : m_X12_deaf this_towns_f this_state_f = some R0) : CW l D (TY k) yX12_deaf cX12_deaf 3 (some .int) 1 20 [.ref this] (wd_X12_deaf k this this_thrown this_tape this_taped this_size this_sort this_place this_value this_at this_fault this_words this_towns this_towns_f this_op this_arg this_codes this_names this_readNames this_namesMany this_readMany this_once this_lines this_facts this_pile this_state this_state_f this_undos this_isMarked this_weight this_rounding this_lacks this_alikes this_g) (some (.int R0.1)) (wd_X12_deaf k this R0.2 this_tape this_taped this_size this_sort this_place this_value this_at this_fault this_words this_towns this_towns_f this_op this_arg this_codes this_names this_readNames this_namesMany this_readMany this_once this_lines this_facts this_pile this_state this_state_f this_undos this_isMarked this_weight this_rounding this_lacks this_alikes this_g) := by
  refine CW.mk (by decide) (Nat.le_of_ble_eq_true rfl) ?_
  intro p e s m args below meth c ls A ⟨hx, hb, hr, hts, hown, hlocks, hml⟩ hP hG hD hA hl hS hq
  have hl : lv_has ls 3 [(0, .ref this)] := hl
  have h_9 : ∀ (n : Nat), ∀ (x1 : Int32) (x2 : Int32) (u_this_thrown : Int32) (H : Heap) (locs : List Loc) (ls : Array Slot), va_P D vwCl (wd_X12_deaf k this u_this_thrown this_tape this_taped this_size this_sort this_place this_value this_at this_fault this_words this_towns this_towns_f this_op this_arg this_codes this_names this_readNames this_namesMany this_readMany this_once this_lines this_facts this_pile this_state this_state_f this_undos this_isMarked this_weight this_rounding this_lacks this_alikes this_g) H → va_D A (wd_X12_deaf k this u_this_thrown this_tape this_taped this_size this_sort this_place this_value this_at this_fault this_words this_towns this_towns_f this_op this_arg this_codes this_names this_readNames this_namesMany this_readMany this_once this_lines this_facts this_pile this_state this_state_f this_undos this_isMarked this_weight this_rounding this_lacks this_alikes this_g) → va_S A s.heap H locs → lv_has ls 3 [(0, .ref this), (1, .int x1), (2, .int x2)] → m_X12_deaf_9 this_towns_f this_state_f n x1 x2 u_this_thrown = some R0 → W p l e (Rm 1 20) s m args below meth c H locs 0 0 (MQ below (QW D (some (.int R0.1)) (wd_X12_deaf k this this_thrown this_tape this_taped this_size this_sort this_place this_value this_at this_fault this_words this_towns this_towns_f this_op this_arg this_codes this_names this_readNames this_namesMany this_readMany this_once this_lines this_facts this_pile this_state this_state_f this_undos this_isMarked this_weight this_rounding this_lacks this_alikes this_g) (wd_X12_deaf k this R0.2 this_tape this_taped this_size this_sort this_place this_value this_at this_fault this_words this_towns this_towns_f this_op this_arg this_codes this_names this_readNames this_namesMany this_readMany this_once this_lines this_facts this_pile this_state this_state_f this_undos this_isMarked this_weight this_rounding this_lacks this_alikes this_g) s.heap.size) args s 0 0 A) (F0 m 9 ls []) := by
    intro n
    induction n with
    | zero => intro x1 x2 u_this_thrown H locs ls hP hD hS hl hm; cases hm
    | succ n ih =>
      intro x1 x2 u_this_thrown H locs ls hP hD hS hl hm
      unfold m_X12_deaf_9 at hm
      refine lv_iload_n (pc := 9) hx hb dX12_deaf_9 rfl (lv_at hl 2 rfl) ?_
      refine lv_aload_n (pc := 10) hx hb dX12_deaf_10 rfl (lv_at hl 0 rfl) ?_
      obtain ⟨r2, hcl, hm⟩ := bd hm
      refine cr_back (run_V (pc := 11) (n := 0) (As := []) (rest := [.int x2]) ⟨hx, hb, hml, hown, hts⟩ (c_X12_persons l D k this u_this_thrown this_tape this_taped this_size this_sort this_place this_value this_at this_fault this_words this_towns this_towns_f this_op this_arg this_codes this_names this_readNames this_namesMany this_readMany this_once this_lines this_facts this_pile this_state this_undos this_isMarked this_weight this_rounding this_lacks this_alikes this_g r2 hcl) ⟨kw_1252, kw_16, by decide +kernel⟩ kw_1249 kw_1251 ks_97 ⟨Nat.le_of_ble_eq_true rfl, Nat.le_of_ble_eq_true rfl⟩ pr_blind (prR (hP.sub [0, 1] rfl) hG) (va_recv hG.1 hP (ci := 10) (q0 := 0) rfl rfl) rfl hl.1 rfl (Nat.le_of_ble_eq_true rfl) dX12_deaf_11 ⟨Nat.zero_le _, Nat.zero_le _⟩) ?_
      refine lv_icmp_ge (tgt := 45) (pc := 14) hx hb dX12_deaf_14 (by decide) (fun hc => ?_) (fun hc => ?_)
      · rw [if_pos hc] at hm
        refine lv_iload_n (pc := 45) hx hb dX12_deaf_45 rfl (lv_at hl 1 rfl) ?_
        rw [← Option.some.inj hm]
        exact W.iret hx hb hr (fun t ht _ => hq _ _ H t ht hP hD locs hS) hS.2.2 dX12_deaf_46 hlocks
      · rw [if_neg hc] at hm
        refine lv_iload_n (pc := 17) hx hb dX12_deaf_17 rfl (lv_at hl 1 rfl) ?_
        refine lv_aload_n (pc := 18) hx hb dX12_deaf_18 rfl (lv_at hl 0 rfl) ?_
        refine va_get (pc := 19) (D := D) (ci := 10) (C := RX12) (T := TX12) (N := 30) hx hb hts hiX12 hown hG.1 hP 0 rfl rfl 22 (Nat.le_of_ble_eq_true rfl) (hts _ kw_1279) (fun _ h9 => h9) rfl dX12_deaf_19 ?_
        refine lv_bipush (v := 7) (pc := 22) hx hb dX12_deaf_22 (by decide) ?_
        refine lv_iload_n (pc := 24) hx hb dX12_deaf_24 rfl (lv_at hl 2 rfl) ?_
        refine lv_iadd (pc := 25) hx hb dX12_deaf_25 ?_
        obtain ⟨hin, hm⟩ := gd hm
        refine va_iald (pc := 26) (D := D) hx hb hG.1 hP 2 0 rfl rfl hin dX12_deaf_26 ?_
        refine lv_if_ne (tgt := 36) (pc := 27) hx hb dX12_deaf_27 (by decide) (fun hc => ?_) (fun hc => ?_)
        · rw [if_neg hc] at hm
          refine lv_iconst (v := 0) (pc := 36) hx hb dX12_deaf_36 (by decide) ?_
          refine lv_ior (pc := 37) hx hb dX12_deaf_37 ?_
          refine lv_istore_n (lv' := [(1, .int (x1 ||| 0)), (0, .ref this), (2, .int x2)]) (pc := 38) hx hb dX12_deaf_38 rfl hl (Nat.le_of_ble_eq_true rfl) rfl (fun ls hl => ?_)
          refine lv_iinc (k := 2) (v := x2 + 1) (lv' := [(2, .int (x2 + 1)), (1, .int (x1 ||| 0)), (0, .ref this)]) (pc := 39) hx hb dX12_deaf_39 hl rfl rfl (Nat.le_of_ble_eq_true rfl) rfl (fun ls hl => ?_)
          refine lv_goto (tgt := 9) (pc := 42) hx hb dX12_deaf_42 (by decide) ?_
          exact ih (x1 ||| 0) (x2 + 1) u_this_thrown H locs ls hP hD hS (lv_sub hl [2, 1, 0] rfl) hm
        · rw [if_pos hc] at hm
          refine lv_iconst (v := 1) (pc := 30) hx hb dX12_deaf_30 (by decide) ?_
          refine lv_iload_n (pc := 31) hx hb dX12_deaf_31 rfl (lv_at hl 2 rfl) ?_
          refine lv_ishl (pc := 32) hx hb dX12_deaf_32 ?_
          refine lv_goto (tgt := 37) (pc := 33) hx hb dX12_deaf_33 (by decide) ?_
          refine lv_ior (pc := 37) hx hb dX12_deaf_37 ?_
          refine lv_istore_n (lv' := [(1, .int (x1 ||| (1 <<< (x2 &&& 31)))), (0, .ref this), (2, .int x2)]) (pc := 38) hx hb dX12_deaf_38 rfl hl (Nat.le_of_ble_eq_true rfl) rfl (fun ls hl => ?_)
          refine lv_iinc (k := 2) (v := x2 + 1) (lv' := [(2, .int (x2 + 1)), (1, .int (x1 ||| (1 <<< (x2 &&& 31)))), (0, .ref this)]) (pc := 39) hx hb dX12_deaf_39 hl rfl rfl (Nat.le_of_ble_eq_true rfl) rfl (fun ls hl => ?_)
          refine lv_goto (tgt := 9) (pc := 42) hx hb dX12_deaf_42 (by decide) ?_
          exact ih (x1 ||| (1 <<< (x2 &&& 31))) (x2 + 1) u_this_thrown H locs ls hP hD hS (lv_sub hl [2, 1, 0] rfl) hm
  unfold m_X12_deaf at hm
  suffices hgo : ∀ (H : Heap) (locs : List Loc), va_P D vwCl (wd_X12_deaf k this this_thrown this_tape this_taped this_size this_sort this_place this_value this_at this_fault this_words this_towns this_towns_f this_op this_arg this_codes this_names this_readNames this_namesMany this_readMany this_once this_lines this_facts this_pile this_state this_state_f this_undos this_isMarked this_weight this_rounding this_lacks this_alikes this_g) H → va_D A (wd_X12_deaf k this this_thrown this_tape this_taped this_size this_sort this_place this_value this_at this_fault this_words this_towns this_towns_f this_op this_arg this_codes this_names this_readNames this_namesMany this_readMany this_once this_lines this_facts this_pile this_state this_state_f this_undos this_isMarked this_weight this_rounding this_lacks this_alikes this_g) → va_S A s.heap H locs → W p l e (Rm 1 20) s m args below meth c H locs 0 0 (MQ below (QW D (some (.int R0.1)) (wd_X12_deaf k this this_thrown this_tape this_taped this_size this_sort this_place this_value this_at this_fault this_words this_towns this_towns_f this_op this_arg this_codes this_names this_readNames this_namesMany this_readMany this_once this_lines this_facts this_pile this_state this_state_f this_undos this_isMarked this_weight this_rounding this_lacks this_alikes this_g) (wd_X12_deaf k this R0.2 this_tape this_taped this_size this_sort this_place this_value this_at this_fault this_words this_towns this_towns_f this_op this_arg this_codes this_names this_readNames this_namesMany this_readMany this_once this_lines this_facts this_pile this_state this_state_f this_undos this_isMarked this_weight this_rounding this_lacks this_alikes this_g) s.heap.size) args s 0 0 A) (F0 m 0 ls []) from hgo _ _ hP hD hS
  clear hP hD hS
  intro H locs hP hD hS
  refine lv_aload_n (pc := 0) hx hb dX12_deaf_0 rfl (lv_at hl 0 rfl) ?_
  refine lv_iconst (v := 0) (pc := 1) hx hb dX12_deaf_1 (by decide) ?_
  refine va_put (pc := 2) (D := D) (ci := 10) (v := .int 0) (ty := .int) (C := RX12) (T := TX12) (N := 30) hx hb hts hiX12 tyX12 tyX12_ok nmX12 hown hG.1 hP hD hS 0 rfl rfl 0 (Nat.le_of_ble_eq_true rfl) (hts _ kw_1257) (fun _ h9 => h9) rfl (by decide +kernel) rfl rfl (Nat.le_of_ble_eq_true rfl) dX12_deaf_2 (fun H locs hP hD hS => ?_)
  have hP : va_P D vwCl (wd_X12_deaf k this 0 this_tape this_taped this_size this_sort this_place this_value this_at this_fault this_words this_towns this_towns_f this_op this_arg this_codes this_names this_readNames this_namesMany this_readMany this_once this_lines this_facts this_pile this_state this_state_f this_undos this_isMarked this_weight this_rounding this_lacks this_alikes this_g) H := hP
  have hD : va_D A (wd_X12_deaf k this 0 this_tape this_taped this_size this_sort this_place this_value this_at this_fault this_words this_towns this_towns_f this_op this_arg this_codes this_names this_readNames this_namesMany this_readMany this_once this_lines this_facts this_pile this_state this_state_f this_undos this_isMarked this_weight this_rounding this_lacks this_alikes this_g) := hD
  refine lv_iconst (v := 0) (pc := 5) hx hb dX12_deaf_5 (by decide) ?_
  refine lv_istore_n (lv' := [(1, .int 0), (0, .ref this)]) (pc := 6) hx hb dX12_deaf_6 rfl hl (Nat.le_of_ble_eq_true rfl) rfl (fun ls hl => ?_)
  refine lv_iconst (v := 0) (pc := 7) hx hb dX12_deaf_7 (by decide) ?_
  refine lv_istore_n (lv' := [(2, .int 0), (1, .int 0), (0, .ref this)]) (pc := 8) hx hb dX12_deaf_8 rfl hl (Nat.le_of_ble_eq_true rfl) rfl (fun ls hl => ?_)
  exact h_9 FU 0 0 0 H locs ls hP hD hS (lv_sub hl [2, 1, 0] rfl) hm
theorem dX12_hearts_0 : decode cX12_hearts 0 = .ok (.aload_n 0, 1) := by decide +kernel
theorem dX12_hearts_1 : decode cX12_hearts 1 = .ok (.iconst 0, 1) := by decide +kernel
theorem dX12_hearts_2 : decode cX12_hearts 2 = .ok (.putfield 1, 3) := by decide +kernel
theorem dX12_hearts_5 : decode cX12_hearts 5 = .ok (.iconst 0, 1) := by decide +kernel
theorem dX12_hearts_6 : decode cX12_hearts 6 = .ok (.istore_n 2, 1) := by decide +kernel
theorem dX12_hearts_7 : decode cX12_hearts 7 = .ok (.iconst 0, 1) := by decide +kernel
theorem dX12_hearts_8 : decode cX12_hearts 8 = .ok (.istore_n 3, 1) := by decide +kernel
theorem dX12_hearts_9 : decode cX12_hearts 9 = .ok (.iload_n 3, 1) := by decide +kernel
theorem dX12_hearts_10 : decode cX12_hearts 10 = .ok (.aload_n 0, 1) := by decide +kernel
theorem dX12_hearts_11 : decode cX12_hearts 11 = .ok (.invokevirtual 255, 3) := by decide +kernel
theorem dX12_hearts_14 : decode cX12_hearts 14 = .ok (.if_icmp .ge 37, 3) := by decide +kernel
theorem dX12_hearts_17 : decode cX12_hearts 17 = .ok (.aload_n 0, 1) := by decide +kernel
theorem dX12_hearts_18 : decode cX12_hearts 18 = .ok (.iload_n 1, 1) := by decide +kernel
theorem dX12_hearts_19 : decode cX12_hearts 19 = .ok (.invokevirtual 303, 3) := by decide +kernel
theorem dX12_hearts_22 : decode cX12_hearts 22 = .ok (.ifCond .eq 29, 3) := by decide +kernel
theorem dX12_hearts_25 : decode cX12_hearts 25 = .ok (.iload_n 2, 1) := by decide +kernel
theorem dX12_hearts_26 : decode cX12_hearts 26 = .ok (.aload_n 0, 1) := by decide +kernel
theorem dX12_hearts_27 : decode cX12_hearts 27 = .ok (.iconst 0, 1) := by decide +kernel
theorem dX12_hearts_28 : decode cX12_hearts 28 = .ok (.iload_n 3, 1) := by decide +kernel
theorem dX12_hearts_29 : decode cX12_hearts 29 = .ok (.iload_n 1, 1) := by decide +kernel
theorem dX12_hearts_30 : decode cX12_hearts 30 = .ok (.invokevirtual 296, 3) := by decide +kernel
theorem dX12_hearts_33 : decode cX12_hearts 33 = .ok (.ifCond .eq 9, 3) := by decide +kernel
theorem dX12_hearts_36 : decode cX12_hearts 36 = .ok (.iconst 1, 1) := by decide +kernel
theorem dX12_hearts_37 : decode cX12_hearts 37 = .ok (.iload_n 3, 1) := by decide +kernel
theorem dX12_hearts_38 : decode cX12_hearts 38 = .ok (.ishl, 1) := by decide +kernel
theorem dX12_hearts_39 : decode cX12_hearts 39 = .ok (.goto 4, 3) := by decide +kernel
theorem dX12_hearts_42 : decode cX12_hearts 42 = .ok (.iconst 0, 1) := by decide +kernel
theorem dX12_hearts_43 : decode cX12_hearts 43 = .ok (.ior, 1) := by decide +kernel
theorem dX12_hearts_44 : decode cX12_hearts 44 = .ok (.istore_n 2, 1) := by decide +kernel
theorem dX12_hearts_45 : decode cX12_hearts 45 = .ok (.iinc 3 1, 3) := by decide +kernel
theorem dX12_hearts_48 : decode cX12_hearts 48 = .ok (.goto (-39), 3) := by decide +kernel
theorem dX12_hearts_51 : decode cX12_hearts 51 = .ok (.aload_n 0, 1) := by decide +kernel
theorem dX12_hearts_52 : decode cX12_hearts 52 = .ok (.iload_n 1, 1) := by decide +kernel
theorem dX12_hearts_53 : decode cX12_hearts 53 = .ok (.invokevirtual 303, 3) := by decide +kernel
theorem dX12_hearts_56 : decode cX12_hearts 56 = .ok (.ifCond .eq 7, 3) := by decide +kernel
theorem dX12_hearts_59 : decode cX12_hearts 59 = .ok (.iload_n 2, 1) := by decide +kernel
theorem dX12_hearts_60 : decode cX12_hearts 60 = .ok (.goto 4, 3) := by decide +kernel
theorem dX12_hearts_63 : decode cX12_hearts 63 = .ok (.iconst (-1), 1) := by decide +kernel
theorem dX12_hearts_64 : decode cX12_hearts 64 = .ok (.ireturn, 1) := by decide +kernel
abbrev wd_X12_hearts (k : Nat → ClassId) (this : Nat) (this_thrown : Int32) (this_tape : Nat) (this_taped : Int32) (this_size : Int32) (this_sort : Nat) (this_place : Nat) (this_value : Nat) (this_at : Int32) (this_fault : Int32) (this_words : Nat) (this_towns : Nat) (this_towns_f : Nat → Int32) (this_op : Nat) (this_arg : Nat) (this_codes : Int32) (this_names : Nat) (this_readNames : Nat) (this_namesMany : Int32) (this_readMany : Int32) (this_once : Int32) (this_lines : Nat) (this_facts : Nat) (this_pile : Nat) (this_state : Nat) (this_state_f : Nat → Int32) (this_undos : Int32) (this_isMarked : Nat) (this_weight : Int32) (this_rounding : Int32) (this_lacks : Nat) (this_alikes : Nat) (this_g : Int64) : va_W := [(this, .inr (10, [.int this_thrown, .ref this_tape, .int this_taped, .int this_size, .ref this_sort, .ref this_place, .ref this_value, .int this_at, .int this_fault, .ref this_words, .ref this_towns, .ref this_op, .ref this_arg, .int this_codes, .ref this_names, .ref this_readNames, .int this_namesMany, .int this_readMany, .int this_once, .ref this_lines, .ref this_facts, .ref this_pile, .ref this_state, .int this_undos, .ref this_isMarked, .int this_weight, .int this_rounding, .ref this_lacks, .ref this_alikes, .long this_g])), (this_towns, .inl (k 0, 60, .inl this_towns_f)), (this_state, .inl (k 0, 1104, .inl this_state_f))]
set_option maxHeartbeats 4000000 in
set_option maxRecDepth 100000 in
theorem c_X12_hearts (l : Launch) (D : va_G) (k : Nat → ClassId) (this : Nat) (this_thrown : Int32) (this_tape : Nat) (this_taped : Int32) (this_size : Int32) (this_sort : Nat) (this_place : Nat) (this_value : Nat) (this_at : Int32) (this_fault : Int32) (this_words : Nat) (this_towns : Nat) (this_towns_f : Nat → Int32) (this_op : Nat) (this_arg : Nat) (this_codes : Int32) (this_names : Nat) (this_readNames : Nat) (this_namesMany : Int32) (this_readMany : Int32) (this_once : Int32) (this_lines : Nat) (this_facts : Nat) (this_pile : Nat) (this_state : Nat) (this_state_f : Nat → Int32) (this_undos : Int32) (this_isMarked : Nat) (this_weight : Int32) (this_rounding : Int32) (this_lacks : Nat) (this_alikes : Nat) (this_g : Int64) (q1 : Int32) (R0 : Int32 × Int32) (hm : m_X12_hearts this_towns_f this_state_f q1 = some R0) : CW l D (TY k) yX12_hearts cX12_hearts 4 (some .int) 2 41 [.ref this, .int q1] (wd_X12_hearts k this this_thrown this_tape this_taped this_size this_sort this_place this_value this_at this_fault this_words this_towns this_towns_f this_op this_arg this_codes this_names this_readNames this_namesMany this_readMany this_once this_lines this_facts this_pile this_state this_state_f this_undos this_isMarked this_weight this_rounding this_lacks this_alikes this_g) (some (.int R0.1)) (wd_X12_hearts k this R0.2 this_tape this_taped this_size this_sort this_place this_value this_at this_fault this_words this_towns this_towns_f this_op this_arg this_codes this_names this_readNames this_namesMany this_readMany this_once this_lines this_facts this_pile this_state this_state_f this_undos this_isMarked this_weight this_rounding this_lacks this_alikes this_g) := by
  refine CW.mk (by decide) (Nat.le_of_ble_eq_true rfl) ?_
  intro p e s m args below meth c ls A ⟨hx, hb, hr, hts, hown, hlocks, hml⟩ hP hG hD hA hl hS hq
  have hl : lv_has ls 4 [(0, .ref this), (1, .int q1)] := hl
  have h_51 : ∀ (x2 : Int32) (u_this_thrown : Int32) (H : Heap) (locs : List Loc) (ls : Array Slot), va_P D vwCl (wd_X12_hearts k this u_this_thrown this_tape this_taped this_size this_sort this_place this_value this_at this_fault this_words this_towns this_towns_f this_op this_arg this_codes this_names this_readNames this_namesMany this_readMany this_once this_lines this_facts this_pile this_state this_state_f this_undos this_isMarked this_weight this_rounding this_lacks this_alikes this_g) H → va_D A (wd_X12_hearts k this u_this_thrown this_tape this_taped this_size this_sort this_place this_value this_at this_fault this_words this_towns this_towns_f this_op this_arg this_codes this_names this_readNames this_namesMany this_readMany this_once this_lines this_facts this_pile this_state this_state_f this_undos this_isMarked this_weight this_rounding this_lacks this_alikes this_g) → va_S A s.heap H locs → lv_has ls 4 [(0, .ref this), (1, .int q1), (2, .int x2)] → m_X12_hearts_51 this_towns_f this_state_f q1 x2 u_this_thrown = some R0 → W p l e (Rm 2 41) s m args below meth c H locs 0 0 (MQ below (QW D (some (.int R0.1)) (wd_X12_hearts k this this_thrown this_tape this_taped this_size this_sort this_place this_value this_at this_fault this_words this_towns this_towns_f this_op this_arg this_codes this_names this_readNames this_namesMany this_readMany this_once this_lines this_facts this_pile this_state this_state_f this_undos this_isMarked this_weight this_rounding this_lacks this_alikes this_g) (wd_X12_hearts k this R0.2 this_tape this_taped this_size this_sort this_place this_value this_at this_fault this_words this_towns this_towns_f this_op this_arg this_codes this_names this_readNames this_namesMany this_readMany this_once this_lines this_facts this_pile this_state this_state_f this_undos this_isMarked this_weight this_rounding this_lacks this_alikes this_g) s.heap.size) args s 0 0 A) (F0 m 51 ls []) := by
    intro  x2 u_this_thrown H locs ls hP hD hS hl hm
    unfold m_X12_hearts_51 at hm
    refine lv_aload_n (pc := 51) hx hb dX12_hearts_51 rfl (lv_at hl 0 rfl) ?_
    refine lv_iload_n (pc := 52) hx hb dX12_hearts_52 rfl (lv_at hl 1 rfl) ?_
    obtain ⟨r5, hcl, hm⟩ := bd hm
    refine cr_back (run_V (pc := 53) (n := 1) (As := [.int q1]) (rest := []) ⟨hx, hb, hml, hown, hts⟩ (c_X12_isPerson l D k this u_this_thrown this_tape this_taped this_size this_sort this_place this_value this_at this_fault this_words this_towns this_towns_f this_op this_arg this_codes this_names this_readNames this_namesMany this_readMany this_once this_lines this_facts this_pile this_state this_undos this_isMarked this_weight this_rounding this_lacks this_alikes this_g q1 r5 hcl) ⟨kw_1498, kw_16, by decide +kernel⟩ kw_1495 kw_1497 ks_127 ⟨Nat.le_of_ble_eq_true rfl, Nat.le_of_ble_eq_true rfl⟩ pr_blind (prR (hP.sub [0, 1] rfl) hG) (va_recv hG.1 hP (ci := 10) (q0 := 0) rfl rfl) rfl hl.1 rfl (Nat.le_of_ble_eq_true rfl) dX12_hearts_53 ⟨Nat.zero_le _, Nat.zero_le _⟩) ?_
    refine lv_if_eq (tgt := 63) (pc := 56) hx hb dX12_hearts_56 (by decide) (fun hc => ?_) (fun hc => ?_)
    · rw [if_pos hc] at hm
      refine lv_iconst (v := (-1)) (pc := 63) hx hb dX12_hearts_63 (by decide) ?_
      rw [← Option.some.inj hm]
      exact W.iret hx hb hr (fun t ht _ => hq _ _ H t ht hP hD locs hS) hS.2.2 dX12_hearts_64 hlocks
    · rw [if_neg hc] at hm
      refine lv_iload_n (pc := 59) hx hb dX12_hearts_59 rfl (lv_at hl 2 rfl) ?_
      refine lv_goto (tgt := 64) (pc := 60) hx hb dX12_hearts_60 (by decide) ?_
      rw [← Option.some.inj hm]
      exact W.iret hx hb hr (fun t ht _ => hq _ _ H t ht hP hD locs hS) hS.2.2 dX12_hearts_64 hlocks
  have h_9 : ∀ (n : Nat), ∀ (x2 : Int32) (x3 : Int32) (u_this_thrown : Int32) (H : Heap) (locs : List Loc) (ls : Array Slot), va_P D vwCl (wd_X12_hearts k this u_this_thrown this_tape this_taped this_size this_sort this_place this_value this_at this_fault this_words this_towns this_towns_f this_op this_arg this_codes this_names this_readNames this_namesMany this_readMany this_once this_lines this_facts this_pile this_state this_state_f this_undos this_isMarked this_weight this_rounding this_lacks this_alikes this_g) H → va_D A (wd_X12_hearts k this u_this_thrown this_tape this_taped this_size this_sort this_place this_value this_at this_fault this_words this_towns this_towns_f this_op this_arg this_codes this_names this_readNames this_namesMany this_readMany this_once this_lines this_facts this_pile this_state this_state_f this_undos this_isMarked this_weight this_rounding this_lacks this_alikes this_g) → va_S A s.heap H locs → lv_has ls 4 [(0, .ref this), (1, .int q1), (2, .int x2), (3, .int x3)] → m_X12_hearts_9 this_towns_f this_state_f q1 n x2 x3 u_this_thrown = some R0 → W p l e (Rm 2 41) s m args below meth c H locs 0 0 (MQ below (QW D (some (.int R0.1)) (wd_X12_hearts k this this_thrown this_tape this_taped this_size this_sort this_place this_value this_at this_fault this_words this_towns this_towns_f this_op this_arg this_codes this_names this_readNames this_namesMany this_readMany this_once this_lines this_facts this_pile this_state this_state_f this_undos this_isMarked this_weight this_rounding this_lacks this_alikes this_g) (wd_X12_hearts k this R0.2 this_tape this_taped this_size this_sort this_place this_value this_at this_fault this_words this_towns this_towns_f this_op this_arg this_codes this_names this_readNames this_namesMany this_readMany this_once this_lines this_facts this_pile this_state this_state_f this_undos this_isMarked this_weight this_rounding this_lacks this_alikes this_g) s.heap.size) args s 0 0 A) (F0 m 9 ls []) := by
    intro n
    induction n with
    | zero => intro x2 x3 u_this_thrown H locs ls hP hD hS hl hm; cases hm
    | succ n ih =>
      intro x2 x3 u_this_thrown H locs ls hP hD hS hl hm
      unfold m_X12_hearts_9 at hm
      refine lv_iload_n (pc := 9) hx hb dX12_hearts_9 rfl (lv_at hl 3 rfl) ?_
      refine lv_aload_n (pc := 10) hx hb dX12_hearts_10 rfl (lv_at hl 0 rfl) ?_
      obtain ⟨r6, hcl, hm⟩ := bd hm
      refine cr_back (run_V (pc := 11) (n := 0) (As := []) (rest := [.int x3]) ⟨hx, hb, hml, hown, hts⟩ (c_X12_persons l D k this u_this_thrown this_tape this_taped this_size this_sort this_place this_value this_at this_fault this_words this_towns this_towns_f this_op this_arg this_codes this_names this_readNames this_namesMany this_readMany this_once this_lines this_facts this_pile this_state this_undos this_isMarked this_weight this_rounding this_lacks this_alikes this_g r6 hcl) ⟨kw_1252, kw_16, by decide +kernel⟩ kw_1249 kw_1251 ks_97 ⟨Nat.le_of_ble_eq_true rfl, Nat.le_of_ble_eq_true rfl⟩ pr_blind (prR (hP.sub [0, 1] rfl) hG) (va_recv hG.1 hP (ci := 10) (q0 := 0) rfl rfl) rfl hl.1 rfl (Nat.le_of_ble_eq_true rfl) dX12_hearts_11 ⟨Nat.zero_le _, Nat.zero_le _⟩) ?_
      refine lv_icmp_ge (tgt := 51) (pc := 14) hx hb dX12_hearts_14 (by decide) (fun hc => ?_) (fun hc => ?_)
      · rw [if_pos hc] at hm
        exact h_51 x2 u_this_thrown H locs ls hP hD hS (lv_sub hl [0, 1, 2] rfl) hm
      · rw [if_neg hc] at hm
        refine lv_aload_n (pc := 17) hx hb dX12_hearts_17 rfl (lv_at hl 0 rfl) ?_
        refine lv_iload_n (pc := 18) hx hb dX12_hearts_18 rfl (lv_at hl 1 rfl) ?_
        obtain ⟨r7, hcl, hm⟩ := bd hm
        refine cr_back (run_V (pc := 19) (n := 1) (As := [.int q1]) (rest := []) ⟨hx, hb, hml, hown, hts⟩ (c_X12_isPerson l D k this u_this_thrown this_tape this_taped this_size this_sort this_place this_value this_at this_fault this_words this_towns this_towns_f this_op this_arg this_codes this_names this_readNames this_namesMany this_readMany this_once this_lines this_facts this_pile this_state this_undos this_isMarked this_weight this_rounding this_lacks this_alikes this_g q1 r7 hcl) ⟨kw_1498, kw_16, by decide +kernel⟩ kw_1495 kw_1497 ks_127 ⟨Nat.le_of_ble_eq_true rfl, Nat.le_of_ble_eq_true rfl⟩ pr_blind (prR (hP.sub [0, 1] rfl) hG) (va_recv hG.1 hP (ci := 10) (q0 := 0) rfl rfl) rfl hl.1 rfl (Nat.le_of_ble_eq_true rfl) dX12_hearts_19 ⟨Nat.zero_le _, Nat.zero_le _⟩) ?_
        refine lv_if_eq (tgt := 51) (pc := 22) hx hb dX12_hearts_22 (by decide) (fun hc => ?_) (fun hc => ?_)
        · rw [if_pos hc] at hm
          exact h_51 x2 u_this_thrown H locs ls hP hD hS (lv_sub hl [0, 1, 2] rfl) hm
        · rw [if_neg hc] at hm
          refine lv_iload_n (pc := 25) hx hb dX12_hearts_25 rfl (lv_at hl 2 rfl) ?_
          refine lv_aload_n (pc := 26) hx hb dX12_hearts_26 rfl (lv_at hl 0 rfl) ?_
          refine lv_iconst (v := 0) (pc := 27) hx hb dX12_hearts_27 (by decide) ?_
          refine lv_iload_n (pc := 28) hx hb dX12_hearts_28 rfl (lv_at hl 3 rfl) ?_
          refine lv_iload_n (pc := 29) hx hb dX12_hearts_29 rfl (lv_at hl 1 rfl) ?_
          obtain ⟨r8, hcl, hm⟩ := bd hm
          refine cr_back (run_V (pc := 30) (n := 3) (As := [.int 0, .int x3, .int q1]) (rest := [.int x2]) ⟨hx, hb, hml, hown, hts⟩ (c_X12_doesFeel l D k this u_this_thrown this_tape this_taped this_size this_sort this_place this_value this_at this_fault this_words this_towns this_op this_arg this_codes this_names this_readNames this_namesMany this_readMany this_once this_lines this_facts this_pile this_state this_state_f this_undos this_isMarked this_weight this_rounding this_lacks this_alikes this_g 0 x3 q1 r8 hcl) ⟨kw_1541, kw_16, by decide +kernel⟩ kw_1538 kw_1540 ks_132 ⟨Nat.le_of_ble_eq_true rfl, Nat.le_of_ble_eq_true rfl⟩ pr_blind (prR (hP.sub [0, 2] rfl) hG) (va_recv hG.1 hP (ci := 10) (q0 := 0) rfl rfl) rfl hl.1 rfl (Nat.le_of_ble_eq_true rfl) dX12_hearts_30 ⟨Nat.zero_le _, Nat.zero_le _⟩) ?_
          refine lv_if_eq (tgt := 42) (pc := 33) hx hb dX12_hearts_33 (by decide) (fun hc => ?_) (fun hc => ?_)
          · rw [if_pos hc] at hm
            refine lv_iconst (v := 0) (pc := 42) hx hb dX12_hearts_42 (by decide) ?_
            refine lv_ior (pc := 43) hx hb dX12_hearts_43 ?_
            refine lv_istore_n (lv' := [(2, .int (x2 ||| 0)), (0, .ref this), (1, .int q1), (3, .int x3)]) (pc := 44) hx hb dX12_hearts_44 rfl hl (Nat.le_of_ble_eq_true rfl) rfl (fun ls hl => ?_)
            refine lv_iinc (k := 3) (v := x3 + 1) (lv' := [(3, .int (x3 + 1)), (2, .int (x2 ||| 0)), (0, .ref this), (1, .int q1)]) (pc := 45) hx hb dX12_hearts_45 hl rfl rfl (Nat.le_of_ble_eq_true rfl) rfl (fun ls hl => ?_)
            refine lv_goto (tgt := 9) (pc := 48) hx hb dX12_hearts_48 (by decide) ?_
            exact ih (x2 ||| 0) (x3 + 1) u_this_thrown H locs ls hP hD hS (lv_sub hl [2, 3, 1, 0] rfl) hm
          · rw [if_neg hc] at hm
            refine lv_iconst (v := 1) (pc := 36) hx hb dX12_hearts_36 (by decide) ?_
            refine lv_iload_n (pc := 37) hx hb dX12_hearts_37 rfl (lv_at hl 3 rfl) ?_
            refine lv_ishl (pc := 38) hx hb dX12_hearts_38 ?_
            refine lv_goto (tgt := 43) (pc := 39) hx hb dX12_hearts_39 (by decide) ?_
            refine lv_ior (pc := 43) hx hb dX12_hearts_43 ?_
            refine lv_istore_n (lv' := [(2, .int (x2 ||| (1 <<< (x3 &&& 31)))), (0, .ref this), (1, .int q1), (3, .int x3)]) (pc := 44) hx hb dX12_hearts_44 rfl hl (Nat.le_of_ble_eq_true rfl) rfl (fun ls hl => ?_)
            refine lv_iinc (k := 3) (v := x3 + 1) (lv' := [(3, .int (x3 + 1)), (2, .int (x2 ||| (1 <<< (x3 &&& 31)))), (0, .ref this), (1, .int q1)]) (pc := 45) hx hb dX12_hearts_45 hl rfl rfl (Nat.le_of_ble_eq_true rfl) rfl (fun ls hl => ?_)
            refine lv_goto (tgt := 9) (pc := 48) hx hb dX12_hearts_48 (by decide) ?_
            exact ih (x2 ||| (1 <<< (x3 &&& 31))) (x3 + 1) u_this_thrown H locs ls hP hD hS (lv_sub hl [2, 3, 1, 0] rfl) hm
  unfold m_X12_hearts at hm
  suffices hgo : ∀ (H : Heap) (locs : List Loc), va_P D vwCl (wd_X12_hearts k this this_thrown this_tape this_taped this_size this_sort this_place this_value this_at this_fault this_words this_towns this_towns_f this_op this_arg this_codes this_names this_readNames this_namesMany this_readMany this_once this_lines this_facts this_pile this_state this_state_f this_undos this_isMarked this_weight this_rounding this_lacks this_alikes this_g) H → va_D A (wd_X12_hearts k this this_thrown this_tape this_taped this_size this_sort this_place this_value this_at this_fault this_words this_towns this_towns_f this_op this_arg this_codes this_names this_readNames this_namesMany this_readMany this_once this_lines this_facts this_pile this_state this_state_f this_undos this_isMarked this_weight this_rounding this_lacks this_alikes this_g) → va_S A s.heap H locs → W p l e (Rm 2 41) s m args below meth c H locs 0 0 (MQ below (QW D (some (.int R0.1)) (wd_X12_hearts k this this_thrown this_tape this_taped this_size this_sort this_place this_value this_at this_fault this_words this_towns this_towns_f this_op this_arg this_codes this_names this_readNames this_namesMany this_readMany this_once this_lines this_facts this_pile this_state this_state_f this_undos this_isMarked this_weight this_rounding this_lacks this_alikes this_g) (wd_X12_hearts k this R0.2 this_tape this_taped this_size this_sort this_place this_value this_at this_fault this_words this_towns this_towns_f this_op this_arg this_codes this_names this_readNames this_namesMany this_readMany this_once this_lines this_facts this_pile this_state this_state_f this_undos this_isMarked this_weight this_rounding this_lacks this_alikes this_g) s.heap.size) args s 0 0 A) (F0 m 0 ls []) from hgo _ _ hP hD hS
  clear hP hD hS
  intro H locs hP hD hS
  refine lv_aload_n (pc := 0) hx hb dX12_hearts_0 rfl (lv_at hl 0 rfl) ?_
  refine lv_iconst (v := 0) (pc := 1) hx hb dX12_hearts_1 (by decide) ?_
  refine va_put (pc := 2) (D := D) (ci := 10) (v := .int 0) (ty := .int) (C := RX12) (T := TX12) (N := 30) hx hb hts hiX12 tyX12 tyX12_ok nmX12 hown hG.1 hP hD hS 0 rfl rfl 0 (Nat.le_of_ble_eq_true rfl) (hts _ kw_1257) (fun _ h9 => h9) rfl (by decide +kernel) rfl rfl (Nat.le_of_ble_eq_true rfl) dX12_hearts_2 (fun H locs hP hD hS => ?_)
  have hP : va_P D vwCl (wd_X12_hearts k this 0 this_tape this_taped this_size this_sort this_place this_value this_at this_fault this_words this_towns this_towns_f this_op this_arg this_codes this_names this_readNames this_namesMany this_readMany this_once this_lines this_facts this_pile this_state this_state_f this_undos this_isMarked this_weight this_rounding this_lacks this_alikes this_g) H := hP
  have hD : va_D A (wd_X12_hearts k this 0 this_tape this_taped this_size this_sort this_place this_value this_at this_fault this_words this_towns this_towns_f this_op this_arg this_codes this_names this_readNames this_namesMany this_readMany this_once this_lines this_facts this_pile this_state this_state_f this_undos this_isMarked this_weight this_rounding this_lacks this_alikes this_g) := hD
  refine lv_iconst (v := 0) (pc := 5) hx hb dX12_hearts_5 (by decide) ?_
  refine lv_istore_n (lv' := [(2, .int 0), (0, .ref this), (1, .int q1)]) (pc := 6) hx hb dX12_hearts_6 rfl hl (Nat.le_of_ble_eq_true rfl) rfl (fun ls hl => ?_)
  refine lv_iconst (v := 0) (pc := 7) hx hb dX12_hearts_7 (by decide) ?_
  refine lv_istore_n (lv' := [(3, .int 0), (2, .int 0), (0, .ref this), (1, .int q1)]) (pc := 8) hx hb dX12_hearts_8 rfl hl (Nat.le_of_ble_eq_true rfl) rfl (fun ls hl => ?_)
  exact h_9 FU 0 0 0 H locs ls hP hD hS (lv_sub hl [2, 3, 1, 0] rfl) hm
theorem dX12_alike_0 : decode cX12_alike 0 = .ok (.aload_n 0, 1) := by decide +kernel
theorem dX12_alike_1 : decode cX12_alike 1 = .ok (.iconst 0, 1) := by decide +kernel
theorem dX12_alike_2 : decode cX12_alike 2 = .ok (.putfield 1, 3) := by decide +kernel
theorem dX12_alike_5 : decode cX12_alike 5 = .ok (.iconst 0, 1) := by decide +kernel
theorem dX12_alike_6 : decode cX12_alike 6 = .ok (.istore_n 1, 1) := by decide +kernel
theorem dX12_alike_7 : decode cX12_alike 7 = .ok (.iconst 0, 1) := by decide +kernel
theorem dX12_alike_8 : decode cX12_alike 8 = .ok (.istore_n 2, 1) := by decide +kernel
theorem dX12_alike_9 : decode cX12_alike 9 = .ok (.iload_n 2, 1) := by decide +kernel
theorem dX12_alike_10 : decode cX12_alike 10 = .ok (.aload_n 0, 1) := by decide +kernel
theorem dX12_alike_11 : decode cX12_alike 11 = .ok (.invokevirtual 255, 3) := by decide +kernel
theorem dX12_alike_14 : decode cX12_alike 14 = .ok (.if_icmp .ge 54, 3) := by decide +kernel
theorem dX12_alike_17 : decode cX12_alike 17 = .ok (.iload_n 2, 1) := by decide +kernel
theorem dX12_alike_18 : decode cX12_alike 18 = .ok (.iconst 1, 1) := by decide +kernel
theorem dX12_alike_19 : decode cX12_alike 19 = .ok (.iadd, 1) := by decide +kernel
theorem dX12_alike_20 : decode cX12_alike 20 = .ok (.istore_n 3, 1) := by decide +kernel
theorem dX12_alike_21 : decode cX12_alike 21 = .ok (.iload_n 3, 1) := by decide +kernel
theorem dX12_alike_22 : decode cX12_alike 22 = .ok (.aload_n 0, 1) := by decide +kernel
theorem dX12_alike_23 : decode cX12_alike 23 = .ok (.invokevirtual 255, 3) := by decide +kernel
theorem dX12_alike_26 : decode cX12_alike 26 = .ok (.if_icmp .ge 36, 3) := by decide +kernel
theorem dX12_alike_29 : decode cX12_alike 29 = .ok (.iload_n 1, 1) := by decide +kernel
theorem dX12_alike_30 : decode cX12_alike 30 = .ok (.aload_n 0, 1) := by decide +kernel
theorem dX12_alike_31 : decode cX12_alike 31 = .ok (.getfield 113, 3) := by decide +kernel
theorem dX12_alike_34 : decode cX12_alike 34 = .ok (.iconst 1, 1) := by decide +kernel
theorem dX12_alike_35 : decode cX12_alike 35 = .ok (.iload_n 2, 1) := by decide +kernel
theorem dX12_alike_36 : decode cX12_alike 36 = .ok (.iadd, 1) := by decide +kernel
theorem dX12_alike_37 : decode cX12_alike 37 = .ok (.iaload, 1) := by decide +kernel
theorem dX12_alike_38 : decode cX12_alike 38 = .ok (.aload_n 0, 1) := by decide +kernel
theorem dX12_alike_39 : decode cX12_alike 39 = .ok (.getfield 113, 3) := by decide +kernel
theorem dX12_alike_42 : decode cX12_alike 42 = .ok (.iconst 1, 1) := by decide +kernel
theorem dX12_alike_43 : decode cX12_alike 43 = .ok (.iload_n 3, 1) := by decide +kernel
theorem dX12_alike_44 : decode cX12_alike 44 = .ok (.iadd, 1) := by decide +kernel
theorem dX12_alike_45 : decode cX12_alike 45 = .ok (.iaload, 1) := by decide +kernel
theorem dX12_alike_46 : decode cX12_alike 46 = .ok (.if_icmp .ne 7, 3) := by decide +kernel
theorem dX12_alike_49 : decode cX12_alike 49 = .ok (.iconst 1, 1) := by decide +kernel
theorem dX12_alike_50 : decode cX12_alike 50 = .ok (.goto 4, 3) := by decide +kernel
theorem dX12_alike_53 : decode cX12_alike 53 = .ok (.iconst 0, 1) := by decide +kernel
theorem dX12_alike_54 : decode cX12_alike 54 = .ok (.iadd, 1) := by decide +kernel
theorem dX12_alike_55 : decode cX12_alike 55 = .ok (.istore_n 1, 1) := by decide +kernel
theorem dX12_alike_56 : decode cX12_alike 56 = .ok (.iinc 3 1, 3) := by decide +kernel
theorem dX12_alike_59 : decode cX12_alike 59 = .ok (.goto (-38), 3) := by decide +kernel
theorem dX12_alike_62 : decode cX12_alike 62 = .ok (.iinc 2 1, 3) := by decide +kernel
theorem dX12_alike_65 : decode cX12_alike 65 = .ok (.goto (-56), 3) := by decide +kernel
theorem dX12_alike_68 : decode cX12_alike 68 = .ok (.iload_n 1, 1) := by decide +kernel
theorem dX12_alike_69 : decode cX12_alike 69 = .ok (.ireturn, 1) := by decide +kernel
abbrev wd_X12_alike (k : Nat → ClassId) (this : Nat) (this_thrown : Int32) (this_tape : Nat) (this_taped : Int32) (this_size : Int32) (this_sort : Nat) (this_place : Nat) (this_value : Nat) (this_at : Int32) (this_fault : Int32) (this_words : Nat) (this_towns : Nat) (this_towns_f : Nat → Int32) (this_op : Nat) (this_arg : Nat) (this_codes : Int32) (this_names : Nat) (this_readNames : Nat) (this_namesMany : Int32) (this_readMany : Int32) (this_once : Int32) (this_lines : Nat) (this_facts : Nat) (this_pile : Nat) (this_state : Nat) (this_state_f : Nat → Int32) (this_undos : Int32) (this_isMarked : Nat) (this_weight : Int32) (this_rounding : Int32) (this_lacks : Nat) (this_alikes : Nat) (this_g : Int64) : va_W := [(this, .inr (10, [.int this_thrown, .ref this_tape, .int this_taped, .int this_size, .ref this_sort, .ref this_place, .ref this_value, .int this_at, .int this_fault, .ref this_words, .ref this_towns, .ref this_op, .ref this_arg, .int this_codes, .ref this_names, .ref this_readNames, .int this_namesMany, .int this_readMany, .int this_once, .ref this_lines, .ref this_facts, .ref this_pile, .ref this_state, .int this_undos, .ref this_isMarked, .int this_weight, .int this_rounding, .ref this_lacks, .ref this_alikes, .long this_g])), (this_towns, .inl (k 0, 60, .inl this_towns_f)), (this_state, .inl (k 0, 1104, .inl this_state_f))]
set_option maxHeartbeats 4000000 in
set_option maxRecDepth 100000 in
theorem c_X12_alike (l : Launch) (D : va_G) (k : Nat → ClassId) (this : Nat) (this_thrown : Int32) (this_tape : Nat) (this_taped : Int32) (this_size : Int32) (this_sort : Nat) (this_place : Nat) (this_value : Nat) (this_at : Int32) (this_fault : Int32) (this_words : Nat) (this_towns : Nat) (this_towns_f : Nat → Int32) (this_op : Nat) (this_arg : Nat) (this_codes : Int32) (this_names : Nat) (this_readNames : Nat) (this_namesMany : Int32) (this_readMany : Int32) (this_once : Int32) (this_lines : Nat) (this_facts : Nat) (this_pile : Nat) (this_state : Nat) (this_state_f : Nat → Int32) (this_undos : Int32) (this_isMarked : Nat) (this_weight : Int32) (this_rounding : Int32) (this_lacks : Nat) (this_alikes : Nat) (this_g : Int64) (R0 : Int32 × Int32) (hm : m_X12_alike this_towns_f this_state_f = some R0) : CW l D (TY k) yX12_alike cX12_alike 4 (some .int) 1 20 [.ref this] (wd_X12_alike k this this_thrown this_tape this_taped this_size this_sort this_place this_value this_at this_fault this_words this_towns this_towns_f this_op this_arg this_codes this_names this_readNames this_namesMany this_readMany this_once this_lines this_facts this_pile this_state this_state_f this_undos this_isMarked this_weight this_rounding this_lacks this_alikes this_g) (some (.int R0.1)) (wd_X12_alike k this R0.2 this_tape this_taped this_size this_sort this_place this_value this_at this_fault this_words this_towns this_towns_f this_op this_arg this_codes this_names this_readNames this_namesMany this_readMany this_once this_lines this_facts this_pile this_state this_state_f this_undos this_isMarked this_weight this_rounding this_lacks this_alikes this_g) := by
  refine CW.mk (by decide) (Nat.le_of_ble_eq_true rfl) ?_
  intro p e s m args below meth c ls A ⟨hx, hb, hr, hts, hown, hlocks, hml⟩ hP hG hD hA hl hS hq
  have hl : lv_has ls 4 [(0, .ref this)] := hl
  have h_21 : ∀ (K9 : Int32 → Int32 → Int32 → Option (Int32 × Int32)) (hK9 : ∀ (x1 : Int32) (x2 : Int32) (u_this_thrown : Int32) (H : Heap) (locs : List Loc) (ls : Array Slot), va_P D vwCl (wd_X12_alike k this u_this_thrown this_tape this_taped this_size this_sort this_place this_value this_at this_fault this_words this_towns this_towns_f this_op this_arg this_codes this_names this_readNames this_namesMany this_readMany this_once this_lines this_facts this_pile this_state this_state_f this_undos this_isMarked this_weight this_rounding this_lacks this_alikes this_g) H → va_D A (wd_X12_alike k this u_this_thrown this_tape this_taped this_size this_sort this_place this_value this_at this_fault this_words this_towns this_towns_f this_op this_arg this_codes this_names this_readNames this_namesMany this_readMany this_once this_lines this_facts this_pile this_state this_state_f this_undos this_isMarked this_weight this_rounding this_lacks this_alikes this_g) → va_S A s.heap H locs → lv_has ls 4 [(0, .ref this), (1, .int x1), (2, .int x2)] → K9 x1 x2 u_this_thrown = some R0 → W p l e (Rm 1 20) s m args below meth c H locs 0 0 (MQ below (QW D (some (.int R0.1)) (wd_X12_alike k this this_thrown this_tape this_taped this_size this_sort this_place this_value this_at this_fault this_words this_towns this_towns_f this_op this_arg this_codes this_names this_readNames this_namesMany this_readMany this_once this_lines this_facts this_pile this_state this_state_f this_undos this_isMarked this_weight this_rounding this_lacks this_alikes this_g) (wd_X12_alike k this R0.2 this_tape this_taped this_size this_sort this_place this_value this_at this_fault this_words this_towns this_towns_f this_op this_arg this_codes this_names this_readNames this_namesMany this_readMany this_once this_lines this_facts this_pile this_state this_state_f this_undos this_isMarked this_weight this_rounding this_lacks this_alikes this_g) s.heap.size) args s 0 0 A) (F0 m 9 ls [])), ∀ (n : Nat), ∀ (x1 : Int32) (x2 : Int32) (x3 : Int32) (u_this_thrown : Int32) (H : Heap) (locs : List Loc) (ls : Array Slot), va_P D vwCl (wd_X12_alike k this u_this_thrown this_tape this_taped this_size this_sort this_place this_value this_at this_fault this_words this_towns this_towns_f this_op this_arg this_codes this_names this_readNames this_namesMany this_readMany this_once this_lines this_facts this_pile this_state this_state_f this_undos this_isMarked this_weight this_rounding this_lacks this_alikes this_g) H → va_D A (wd_X12_alike k this u_this_thrown this_tape this_taped this_size this_sort this_place this_value this_at this_fault this_words this_towns this_towns_f this_op this_arg this_codes this_names this_readNames this_namesMany this_readMany this_once this_lines this_facts this_pile this_state this_state_f this_undos this_isMarked this_weight this_rounding this_lacks this_alikes this_g) → va_S A s.heap H locs → lv_has ls 4 [(0, .ref this), (1, .int x1), (2, .int x2), (3, .int x3)] → m_X12_alike_21 this_towns_f this_state_f K9 n x1 x2 x3 u_this_thrown = some R0 → W p l e (Rm 1 20) s m args below meth c H locs 0 0 (MQ below (QW D (some (.int R0.1)) (wd_X12_alike k this this_thrown this_tape this_taped this_size this_sort this_place this_value this_at this_fault this_words this_towns this_towns_f this_op this_arg this_codes this_names this_readNames this_namesMany this_readMany this_once this_lines this_facts this_pile this_state this_state_f this_undos this_isMarked this_weight this_rounding this_lacks this_alikes this_g) (wd_X12_alike k this R0.2 this_tape this_taped this_size this_sort this_place this_value this_at this_fault this_words this_towns this_towns_f this_op this_arg this_codes this_names this_readNames this_namesMany this_readMany this_once this_lines this_facts this_pile this_state this_state_f this_undos this_isMarked this_weight this_rounding this_lacks this_alikes this_g) s.heap.size) args s 0 0 A) (F0 m 21 ls []) := by
    intro K9 hK9
    intro n
    induction n with
    | zero => intro x1 x2 x3 u_this_thrown H locs ls hP hD hS hl hm; cases hm
    | succ n ih =>
      intro x1 x2 x3 u_this_thrown H locs ls hP hD hS hl hm
      unfold m_X12_alike_21 at hm
      refine lv_iload_n (pc := 21) hx hb dX12_alike_21 rfl (lv_at hl 3 rfl) ?_
      refine lv_aload_n (pc := 22) hx hb dX12_alike_22 rfl (lv_at hl 0 rfl) ?_
      obtain ⟨r3, hcl, hm⟩ := bd hm
      refine cr_back (run_V (pc := 23) (n := 0) (As := []) (rest := [.int x3]) ⟨hx, hb, hml, hown, hts⟩ (c_X12_persons l D k this u_this_thrown this_tape this_taped this_size this_sort this_place this_value this_at this_fault this_words this_towns this_towns_f this_op this_arg this_codes this_names this_readNames this_namesMany this_readMany this_once this_lines this_facts this_pile this_state this_undos this_isMarked this_weight this_rounding this_lacks this_alikes this_g r3 hcl) ⟨kw_1252, kw_16, by decide +kernel⟩ kw_1249 kw_1251 ks_97 ⟨Nat.le_of_ble_eq_true rfl, Nat.le_of_ble_eq_true rfl⟩ pr_blind (prR (hP.sub [0, 1] rfl) hG) (va_recv hG.1 hP (ci := 10) (q0 := 0) rfl rfl) rfl hl.1 rfl (Nat.le_of_ble_eq_true rfl) dX12_alike_23 ⟨Nat.zero_le _, Nat.zero_le _⟩) ?_
      refine lv_icmp_ge (tgt := 62) (pc := 26) hx hb dX12_alike_26 (by decide) (fun hc => ?_) (fun hc => ?_)
      · rw [if_pos hc] at hm
        refine lv_iinc (k := 2) (v := x2 + 1) (lv' := [(2, .int (x2 + 1)), (0, .ref this), (1, .int x1), (3, .int x3)]) (pc := 62) hx hb dX12_alike_62 hl rfl rfl (Nat.le_of_ble_eq_true rfl) rfl (fun ls hl => ?_)
        refine lv_goto (tgt := 9) (pc := 65) hx hb dX12_alike_65 (by decide) ?_
        exact hK9 x1 (x2 + 1) u_this_thrown H locs ls hP hD hS (lv_sub hl [1, 2, 0] rfl) hm
      · rw [if_neg hc] at hm
        refine lv_iload_n (pc := 29) hx hb dX12_alike_29 rfl (lv_at hl 1 rfl) ?_
        refine lv_aload_n (pc := 30) hx hb dX12_alike_30 rfl (lv_at hl 0 rfl) ?_
        refine va_get (pc := 31) (D := D) (ci := 10) (C := RX12) (T := TX12) (N := 30) hx hb hts hiX12 hown hG.1 hP 0 rfl rfl 22 (Nat.le_of_ble_eq_true rfl) (hts _ kw_1279) (fun _ h9 => h9) rfl dX12_alike_31 ?_
        refine lv_iconst (v := 1) (pc := 34) hx hb dX12_alike_34 (by decide) ?_
        refine lv_iload_n (pc := 35) hx hb dX12_alike_35 rfl (lv_at hl 2 rfl) ?_
        refine lv_iadd (pc := 36) hx hb dX12_alike_36 ?_
        obtain ⟨hin, hm⟩ := gd hm
        refine va_iald (pc := 37) (D := D) hx hb hG.1 hP 2 0 rfl rfl hin dX12_alike_37 ?_
        refine lv_aload_n (pc := 38) hx hb dX12_alike_38 rfl (lv_at hl 0 rfl) ?_
        refine va_get (pc := 39) (D := D) (ci := 10) (C := RX12) (T := TX12) (N := 30) hx hb hts hiX12 hown hG.1 hP 0 rfl rfl 22 (Nat.le_of_ble_eq_true rfl) (hts _ kw_1279) (fun _ h9 => h9) rfl dX12_alike_39 ?_
        refine lv_iconst (v := 1) (pc := 42) hx hb dX12_alike_42 (by decide) ?_
        refine lv_iload_n (pc := 43) hx hb dX12_alike_43 rfl (lv_at hl 3 rfl) ?_
        refine lv_iadd (pc := 44) hx hb dX12_alike_44 ?_
        obtain ⟨hin, hm⟩ := gd hm
        refine va_iald (pc := 45) (D := D) hx hb hG.1 hP 2 0 rfl rfl hin dX12_alike_45 ?_
        refine lv_icmp_ne (tgt := 53) (pc := 46) hx hb dX12_alike_46 (by decide) (fun hc => ?_) (fun hc => ?_)
        · rw [if_neg hc] at hm
          refine lv_iconst (v := 0) (pc := 53) hx hb dX12_alike_53 (by decide) ?_
          refine lv_iadd (pc := 54) hx hb dX12_alike_54 ?_
          refine lv_istore_n (lv' := [(1, .int (x1 + 0)), (0, .ref this), (2, .int x2), (3, .int x3)]) (pc := 55) hx hb dX12_alike_55 rfl hl (Nat.le_of_ble_eq_true rfl) rfl (fun ls hl => ?_)
          refine lv_iinc (k := 3) (v := x3 + 1) (lv' := [(3, .int (x3 + 1)), (1, .int (x1 + 0)), (0, .ref this), (2, .int x2)]) (pc := 56) hx hb dX12_alike_56 hl rfl rfl (Nat.le_of_ble_eq_true rfl) rfl (fun ls hl => ?_)
          refine lv_goto (tgt := 21) (pc := 59) hx hb dX12_alike_59 (by decide) ?_
          exact ih (x1 + 0) x2 (x3 + 1) u_this_thrown H locs ls hP hD hS (lv_sub hl [2, 1, 3, 0] rfl) hm
        · rw [if_pos hc] at hm
          refine lv_iconst (v := 1) (pc := 49) hx hb dX12_alike_49 (by decide) ?_
          refine lv_goto (tgt := 54) (pc := 50) hx hb dX12_alike_50 (by decide) ?_
          refine lv_iadd (pc := 54) hx hb dX12_alike_54 ?_
          refine lv_istore_n (lv' := [(1, .int (x1 + 1)), (0, .ref this), (2, .int x2), (3, .int x3)]) (pc := 55) hx hb dX12_alike_55 rfl hl (Nat.le_of_ble_eq_true rfl) rfl (fun ls hl => ?_)
          refine lv_iinc (k := 3) (v := x3 + 1) (lv' := [(3, .int (x3 + 1)), (1, .int (x1 + 1)), (0, .ref this), (2, .int x2)]) (pc := 56) hx hb dX12_alike_56 hl rfl rfl (Nat.le_of_ble_eq_true rfl) rfl (fun ls hl => ?_)
          refine lv_goto (tgt := 21) (pc := 59) hx hb dX12_alike_59 (by decide) ?_
          exact ih (x1 + 1) x2 (x3 + 1) u_this_thrown H locs ls hP hD hS (lv_sub hl [2, 1, 3, 0] rfl) hm
  have h_9 : ∀ (n : Nat), ∀ (x1 : Int32) (x2 : Int32) (u_this_thrown : Int32) (H : Heap) (locs : List Loc) (ls : Array Slot), va_P D vwCl (wd_X12_alike k this u_this_thrown this_tape this_taped this_size this_sort this_place this_value this_at this_fault this_words this_towns this_towns_f this_op this_arg this_codes this_names this_readNames this_namesMany this_readMany this_once this_lines this_facts this_pile this_state this_state_f this_undos this_isMarked this_weight this_rounding this_lacks this_alikes this_g) H → va_D A (wd_X12_alike k this u_this_thrown this_tape this_taped this_size this_sort this_place this_value this_at this_fault this_words this_towns this_towns_f this_op this_arg this_codes this_names this_readNames this_namesMany this_readMany this_once this_lines this_facts this_pile this_state this_state_f this_undos this_isMarked this_weight this_rounding this_lacks this_alikes this_g) → va_S A s.heap H locs → lv_has ls 4 [(0, .ref this), (1, .int x1), (2, .int x2)] → m_X12_alike_9 this_towns_f this_state_f n x1 x2 u_this_thrown = some R0 → W p l e (Rm 1 20) s m args below meth c H locs 0 0 (MQ below (QW D (some (.int R0.1)) (wd_X12_alike k this this_thrown this_tape this_taped this_size this_sort this_place this_value this_at this_fault this_words this_towns this_towns_f this_op this_arg this_codes this_names this_readNames this_namesMany this_readMany this_once this_lines this_facts this_pile this_state this_state_f this_undos this_isMarked this_weight this_rounding this_lacks this_alikes this_g) (wd_X12_alike k this R0.2 this_tape this_taped this_size this_sort this_place this_value this_at this_fault this_words this_towns this_towns_f this_op this_arg this_codes this_names this_readNames this_namesMany this_readMany this_once this_lines this_facts this_pile this_state this_state_f this_undos this_isMarked this_weight this_rounding this_lacks this_alikes this_g) s.heap.size) args s 0 0 A) (F0 m 9 ls []) := by
    intro n
    induction n with
    | zero => intro x1 x2 u_this_thrown H locs ls hP hD hS hl hm; cases hm
    | succ n ih =>
      intro x1 x2 u_this_thrown H locs ls hP hD hS hl hm
      unfold m_X12_alike_9 at hm
      refine lv_iload_n (pc := 9) hx hb dX12_alike_9 rfl (lv_at hl 2 rfl) ?_
      refine lv_aload_n (pc := 10) hx hb dX12_alike_10 rfl (lv_at hl 0 rfl) ?_
      obtain ⟨r4, hcl, hm⟩ := bd hm
      refine cr_back (run_V (pc := 11) (n := 0) (As := []) (rest := [.int x2]) ⟨hx, hb, hml, hown, hts⟩ (c_X12_persons l D k this u_this_thrown this_tape this_taped this_size this_sort this_place this_value this_at this_fault this_words this_towns this_towns_f this_op this_arg this_codes this_names this_readNames this_namesMany this_readMany this_once this_lines this_facts this_pile this_state this_undos this_isMarked this_weight this_rounding this_lacks this_alikes this_g r4 hcl) ⟨kw_1252, kw_16, by decide +kernel⟩ kw_1249 kw_1251 ks_97 ⟨Nat.le_of_ble_eq_true rfl, Nat.le_of_ble_eq_true rfl⟩ pr_blind (prR (hP.sub [0, 1] rfl) hG) (va_recv hG.1 hP (ci := 10) (q0 := 0) rfl rfl) rfl hl.1 rfl (Nat.le_of_ble_eq_true rfl) dX12_alike_11 ⟨Nat.zero_le _, Nat.zero_le _⟩) ?_
      refine lv_icmp_ge (tgt := 68) (pc := 14) hx hb dX12_alike_14 (by decide) (fun hc => ?_) (fun hc => ?_)
      · rw [if_pos hc] at hm
        refine lv_iload_n (pc := 68) hx hb dX12_alike_68 rfl (lv_at hl 1 rfl) ?_
        rw [← Option.some.inj hm]
        exact W.iret hx hb hr (fun t ht _ => hq _ _ H t ht hP hD locs hS) hS.2.2 dX12_alike_69 hlocks
      · rw [if_neg hc] at hm
        refine lv_iload_n (pc := 17) hx hb dX12_alike_17 rfl (lv_at hl 2 rfl) ?_
        refine lv_iconst (v := 1) (pc := 18) hx hb dX12_alike_18 (by decide) ?_
        refine lv_iadd (pc := 19) hx hb dX12_alike_19 ?_
        refine lv_istore_n (lv' := [(3, .int (x2 + 1)), (0, .ref this), (1, .int x1), (2, .int x2)]) (pc := 20) hx hb dX12_alike_20 rfl hl (Nat.le_of_ble_eq_true rfl) rfl (fun ls hl => ?_)
        exact h_21 (m_X12_alike_9 this_towns_f this_state_f n) ih FU x1 x2 (x2 + 1) u_this_thrown H locs ls hP hD hS (lv_sub hl [1, 2, 3, 0] rfl) hm
  unfold m_X12_alike at hm
  suffices hgo : ∀ (H : Heap) (locs : List Loc), va_P D vwCl (wd_X12_alike k this this_thrown this_tape this_taped this_size this_sort this_place this_value this_at this_fault this_words this_towns this_towns_f this_op this_arg this_codes this_names this_readNames this_namesMany this_readMany this_once this_lines this_facts this_pile this_state this_state_f this_undos this_isMarked this_weight this_rounding this_lacks this_alikes this_g) H → va_D A (wd_X12_alike k this this_thrown this_tape this_taped this_size this_sort this_place this_value this_at this_fault this_words this_towns this_towns_f this_op this_arg this_codes this_names this_readNames this_namesMany this_readMany this_once this_lines this_facts this_pile this_state this_state_f this_undos this_isMarked this_weight this_rounding this_lacks this_alikes this_g) → va_S A s.heap H locs → W p l e (Rm 1 20) s m args below meth c H locs 0 0 (MQ below (QW D (some (.int R0.1)) (wd_X12_alike k this this_thrown this_tape this_taped this_size this_sort this_place this_value this_at this_fault this_words this_towns this_towns_f this_op this_arg this_codes this_names this_readNames this_namesMany this_readMany this_once this_lines this_facts this_pile this_state this_state_f this_undos this_isMarked this_weight this_rounding this_lacks this_alikes this_g) (wd_X12_alike k this R0.2 this_tape this_taped this_size this_sort this_place this_value this_at this_fault this_words this_towns this_towns_f this_op this_arg this_codes this_names this_readNames this_namesMany this_readMany this_once this_lines this_facts this_pile this_state this_state_f this_undos this_isMarked this_weight this_rounding this_lacks this_alikes this_g) s.heap.size) args s 0 0 A) (F0 m 0 ls []) from hgo _ _ hP hD hS
  clear hP hD hS
  intro H locs hP hD hS
  refine lv_aload_n (pc := 0) hx hb dX12_alike_0 rfl (lv_at hl 0 rfl) ?_
  refine lv_iconst (v := 0) (pc := 1) hx hb dX12_alike_1 (by decide) ?_
  refine va_put (pc := 2) (D := D) (ci := 10) (v := .int 0) (ty := .int) (C := RX12) (T := TX12) (N := 30) hx hb hts hiX12 tyX12 tyX12_ok nmX12 hown hG.1 hP hD hS 0 rfl rfl 0 (Nat.le_of_ble_eq_true rfl) (hts _ kw_1257) (fun _ h9 => h9) rfl (by decide +kernel) rfl rfl (Nat.le_of_ble_eq_true rfl) dX12_alike_2 (fun H locs hP hD hS => ?_)
  have hP : va_P D vwCl (wd_X12_alike k this 0 this_tape this_taped this_size this_sort this_place this_value this_at this_fault this_words this_towns this_towns_f this_op this_arg this_codes this_names this_readNames this_namesMany this_readMany this_once this_lines this_facts this_pile this_state this_state_f this_undos this_isMarked this_weight this_rounding this_lacks this_alikes this_g) H := hP
  have hD : va_D A (wd_X12_alike k this 0 this_tape this_taped this_size this_sort this_place this_value this_at this_fault this_words this_towns this_towns_f this_op this_arg this_codes this_names this_readNames this_namesMany this_readMany this_once this_lines this_facts this_pile this_state this_state_f this_undos this_isMarked this_weight this_rounding this_lacks this_alikes this_g) := hD
  refine lv_iconst (v := 0) (pc := 5) hx hb dX12_alike_5 (by decide) ?_
  refine lv_istore_n (lv' := [(1, .int 0), (0, .ref this)]) (pc := 6) hx hb dX12_alike_6 rfl hl (Nat.le_of_ble_eq_true rfl) rfl (fun ls hl => ?_)
  refine lv_iconst (v := 0) (pc := 7) hx hb dX12_alike_7 (by decide) ?_
  refine lv_istore_n (lv' := [(2, .int 0), (1, .int 0), (0, .ref this)]) (pc := 8) hx hb dX12_alike_8 rfl hl (Nat.le_of_ble_eq_true rfl) rfl (fun ls hl => ?_)
  exact h_9 FU 0 0 0 H locs ls hP hD hS (lv_sub hl [2, 1, 0] rfl) hm
theorem dX12_worse_0 : decode cX12_worse 0 = .ok (.aload_n 0, 1) := by decide +kernel
theorem dX12_worse_1 : decode cX12_worse 1 = .ok (.iconst 0, 1) := by decide +kernel
theorem dX12_worse_2 : decode cX12_worse 2 = .ok (.putfield 1, 3) := by decide +kernel
theorem dX12_worse_5 : decode cX12_worse 5 = .ok (.iconst 0, 1) := by decide +kernel
theorem dX12_worse_6 : decode cX12_worse 6 = .ok (.istore_n 1, 1) := by decide +kernel
theorem dX12_worse_7 : decode cX12_worse 7 = .ok (.iconst 0, 1) := by decide +kernel
theorem dX12_worse_8 : decode cX12_worse 8 = .ok (.istore_n 2, 1) := by decide +kernel
theorem dX12_worse_9 : decode cX12_worse 9 = .ok (.iload_n 2, 1) := by decide +kernel
theorem dX12_worse_10 : decode cX12_worse 10 = .ok (.aload_n 0, 1) := by decide +kernel
theorem dX12_worse_11 : decode cX12_worse 11 = .ok (.invokevirtual 255, 3) := by decide +kernel
theorem dX12_worse_14 : decode cX12_worse 14 = .ok (.if_icmp .ge 100, 3) := by decide +kernel
theorem dX12_worse_17 : decode cX12_worse 17 = .ok (.aload_n 0, 1) := by decide +kernel
theorem dX12_worse_18 : decode cX12_worse 18 = .ok (.getfield 113, 3) := by decide +kernel
theorem dX12_worse_21 : decode cX12_worse 21 = .ok (.bipush 7, 2) := by decide +kernel
theorem dX12_worse_23 : decode cX12_worse 23 = .ok (.iload_n 2, 1) := by decide +kernel
theorem dX12_worse_24 : decode cX12_worse 24 = .ok (.iadd, 1) := by decide +kernel
theorem dX12_worse_25 : decode cX12_worse 25 = .ok (.iaload, 1) := by decide +kernel
theorem dX12_worse_26 : decode cX12_worse 26 = .ok (.ifCond .eq 7, 3) := by decide +kernel
theorem dX12_worse_29 : decode cX12_worse 29 = .ok (.iconst 1, 1) := by decide +kernel
theorem dX12_worse_30 : decode cX12_worse 30 = .ok (.goto 4, 3) := by decide +kernel
theorem dX12_worse_33 : decode cX12_worse 33 = .ok (.iconst 0, 1) := by decide +kernel
theorem dX12_worse_34 : decode cX12_worse 34 = .ok (.istore_n 3, 1) := by decide +kernel
theorem dX12_worse_35 : decode cX12_worse 35 = .ok (.iconst 0, 1) := by decide +kernel
theorem dX12_worse_36 : decode cX12_worse 36 = .ok (.istore 4, 2) := by decide +kernel
theorem dX12_worse_38 : decode cX12_worse 38 = .ok (.iload 4, 2) := by decide +kernel
theorem dX12_worse_40 : decode cX12_worse 40 = .ok (.aload_n 0, 1) := by decide +kernel
theorem dX12_worse_41 : decode cX12_worse 41 = .ok (.invokevirtual 255, 3) := by decide +kernel
theorem dX12_worse_44 : decode cX12_worse 44 = .ok (.if_icmp .ge 50, 3) := by decide +kernel
theorem dX12_worse_47 : decode cX12_worse 47 = .ok (.iload_n 3, 1) := by decide +kernel
theorem dX12_worse_48 : decode cX12_worse 48 = .ok (.ifCond .eq 38, 3) := by decide +kernel
theorem dX12_worse_51 : decode cX12_worse 51 = .ok (.aload_n 0, 1) := by decide +kernel
theorem dX12_worse_52 : decode cX12_worse 52 = .ok (.iconst 0, 1) := by decide +kernel
theorem dX12_worse_53 : decode cX12_worse 53 = .ok (.iload_n 2, 1) := by decide +kernel
theorem dX12_worse_54 : decode cX12_worse 54 = .ok (.iload 4, 2) := by decide +kernel
theorem dX12_worse_56 : decode cX12_worse 56 = .ok (.invokevirtual 296, 3) := by decide +kernel
theorem dX12_worse_59 : decode cX12_worse 59 = .ok (.ifCond .eq 23, 3) := by decide +kernel
theorem dX12_worse_62 : decode cX12_worse 62 = .ok (.aload_n 0, 1) := by decide +kernel
theorem dX12_worse_63 : decode cX12_worse 63 = .ok (.getfield 113, 3) := by decide +kernel
theorem dX12_worse_66 : decode cX12_worse 66 = .ok (.iconst 1, 1) := by decide +kernel
theorem dX12_worse_67 : decode cX12_worse 67 = .ok (.iload_n 2, 1) := by decide +kernel
theorem dX12_worse_68 : decode cX12_worse 68 = .ok (.iadd, 1) := by decide +kernel
theorem dX12_worse_69 : decode cX12_worse 69 = .ok (.iaload, 1) := by decide +kernel
theorem dX12_worse_70 : decode cX12_worse 70 = .ok (.aload_n 0, 1) := by decide +kernel
theorem dX12_worse_71 : decode cX12_worse 71 = .ok (.getfield 113, 3) := by decide +kernel
theorem dX12_worse_74 : decode cX12_worse 74 = .ok (.iconst 1, 1) := by decide +kernel
theorem dX12_worse_75 : decode cX12_worse 75 = .ok (.iload 4, 2) := by decide +kernel
theorem dX12_worse_77 : decode cX12_worse 77 = .ok (.iadd, 1) := by decide +kernel
theorem dX12_worse_78 : decode cX12_worse 78 = .ok (.iaload, 1) := by decide +kernel
theorem dX12_worse_79 : decode cX12_worse 79 = .ok (.if_icmp .le 7, 3) := by decide +kernel
theorem dX12_worse_82 : decode cX12_worse 82 = .ok (.iconst 1, 1) := by decide +kernel
theorem dX12_worse_83 : decode cX12_worse 83 = .ok (.goto 4, 3) := by decide +kernel
theorem dX12_worse_86 : decode cX12_worse 86 = .ok (.iconst 0, 1) := by decide +kernel
theorem dX12_worse_87 : decode cX12_worse 87 = .ok (.istore_n 3, 1) := by decide +kernel
theorem dX12_worse_88 : decode cX12_worse 88 = .ok (.iinc 4 1, 3) := by decide +kernel
theorem dX12_worse_91 : decode cX12_worse 91 = .ok (.goto (-53), 3) := by decide +kernel
theorem dX12_worse_94 : decode cX12_worse 94 = .ok (.iload_n 1, 1) := by decide +kernel
theorem dX12_worse_95 : decode cX12_worse 95 = .ok (.iload_n 3, 1) := by decide +kernel
theorem dX12_worse_96 : decode cX12_worse 96 = .ok (.ifCond .eq 9, 3) := by decide +kernel
theorem dX12_worse_99 : decode cX12_worse 99 = .ok (.iconst 1, 1) := by decide +kernel
theorem dX12_worse_100 : decode cX12_worse 100 = .ok (.iload_n 2, 1) := by decide +kernel
theorem dX12_worse_101 : decode cX12_worse 101 = .ok (.ishl, 1) := by decide +kernel
theorem dX12_worse_102 : decode cX12_worse 102 = .ok (.goto 4, 3) := by decide +kernel
theorem dX12_worse_105 : decode cX12_worse 105 = .ok (.iconst 0, 1) := by decide +kernel
theorem dX12_worse_106 : decode cX12_worse 106 = .ok (.ior, 1) := by decide +kernel
theorem dX12_worse_107 : decode cX12_worse 107 = .ok (.istore_n 1, 1) := by decide +kernel
theorem dX12_worse_108 : decode cX12_worse 108 = .ok (.iinc 2 1, 3) := by decide +kernel
theorem dX12_worse_111 : decode cX12_worse 111 = .ok (.goto (-102), 3) := by decide +kernel
theorem dX12_worse_114 : decode cX12_worse 114 = .ok (.iload_n 1, 1) := by decide +kernel
theorem dX12_worse_115 : decode cX12_worse 115 = .ok (.ireturn, 1) := by decide +kernel
abbrev wd_X12_worse (k : Nat → ClassId) (this : Nat) (this_thrown : Int32) (this_tape : Nat) (this_taped : Int32) (this_size : Int32) (this_sort : Nat) (this_place : Nat) (this_value : Nat) (this_at : Int32) (this_fault : Int32) (this_words : Nat) (this_towns : Nat) (this_towns_f : Nat → Int32) (this_op : Nat) (this_arg : Nat) (this_codes : Int32) (this_names : Nat) (this_readNames : Nat) (this_namesMany : Int32) (this_readMany : Int32) (this_once : Int32) (this_lines : Nat) (this_facts : Nat) (this_pile : Nat) (this_state : Nat) (this_state_f : Nat → Int32) (this_undos : Int32) (this_isMarked : Nat) (this_weight : Int32) (this_rounding : Int32) (this_lacks : Nat) (this_alikes : Nat) (this_g : Int64) : va_W := [(this, .inr (10, [.int this_thrown, .ref this_tape, .int this_taped, .int this_size, .ref this_sort, .ref this_place, .ref this_value, .int this_at, .int this_fault, .ref this_words, .ref this_towns, .ref this_op, .ref this_arg, .int this_codes, .ref this_names, .ref this_readNames, .int this_namesMany, .int this_readMany, .int this_once, .ref this_lines, .ref this_facts, .ref this_pile, .ref this_state, .int this_undos, .ref this_isMarked, .int this_weight, .int this_rounding, .ref this_lacks, .ref this_alikes, .long this_g])), (this_towns, .inl (k 0, 60, .inl this_towns_f)), (this_state, .inl (k 0, 1104, .inl this_state_f))]
set_option maxHeartbeats 4000000 in
set_option maxRecDepth 100000 in
theorem c_X12_worse (l : Launch) (D : va_G) (k : Nat → ClassId) (this : Nat) (this_thrown : Int32) (this_tape : Nat) (this_taped : Int32) (this_size : Int32) (this_sort : Nat) (this_place : Nat) (this_value : Nat) (this_at : Int32) (this_fault : Int32) (this_words : Nat) (this_towns : Nat) (this_towns_f : Nat → Int32) (this_op : Nat) (this_arg : Nat) (this_codes : Int32) (this_names : Nat) (this_readNames : Nat) (this_namesMany : Int32) (this_readMany : Int32) (this_once : Int32) (this_lines : Nat) (this_facts : Nat) (this_pile : Nat) (this_state : Nat) (this_state_f : Nat → Int32) (this_undos : Int32) (this_isMarked : Nat) (this_weight : Int32) (this_rounding : Int32) (this_lacks : Nat) (this_alikes : Nat) (this_g : Int64) (R0 : Int32 × Int32) (hm : m_X12_worse this_towns_f this_state_f = some R0) : CW l D (TY k) yX12_worse cX12_worse 5 (some .int) 1 23 [.ref this] (wd_X12_worse k this this_thrown this_tape this_taped this_size this_sort this_place this_value this_at this_fault this_words this_towns this_towns_f this_op this_arg this_codes this_names this_readNames this_namesMany this_readMany this_once this_lines this_facts this_pile this_state this_state_f this_undos this_isMarked this_weight this_rounding this_lacks this_alikes this_g) (some (.int R0.1)) (wd_X12_worse k this R0.2 this_tape this_taped this_size this_sort this_place this_value this_at this_fault this_words this_towns this_towns_f this_op this_arg this_codes this_names this_readNames this_namesMany this_readMany this_once this_lines this_facts this_pile this_state this_state_f this_undos this_isMarked this_weight this_rounding this_lacks this_alikes this_g) := by
  refine CW.mk (by decide) (Nat.le_of_ble_eq_true rfl) ?_
  intro p e s m args below meth c ls A ⟨hx, hb, hr, hts, hown, hlocks, hml⟩ hP hG hD hA hl hS hq
  have hl : lv_has ls 5 [(0, .ref this)] := hl
  have h_38 : ∀ (K9 : Int32 → Int32 → Int32 → Option (Int32 × Int32)) (hK9 : ∀ (x1 : Int32) (x2 : Int32) (u_this_thrown : Int32) (H : Heap) (locs : List Loc) (ls : Array Slot), va_P D vwCl (wd_X12_worse k this u_this_thrown this_tape this_taped this_size this_sort this_place this_value this_at this_fault this_words this_towns this_towns_f this_op this_arg this_codes this_names this_readNames this_namesMany this_readMany this_once this_lines this_facts this_pile this_state this_state_f this_undos this_isMarked this_weight this_rounding this_lacks this_alikes this_g) H → va_D A (wd_X12_worse k this u_this_thrown this_tape this_taped this_size this_sort this_place this_value this_at this_fault this_words this_towns this_towns_f this_op this_arg this_codes this_names this_readNames this_namesMany this_readMany this_once this_lines this_facts this_pile this_state this_state_f this_undos this_isMarked this_weight this_rounding this_lacks this_alikes this_g) → va_S A s.heap H locs → lv_has ls 5 [(0, .ref this), (1, .int x1), (2, .int x2)] → K9 x1 x2 u_this_thrown = some R0 → W p l e (Rm 1 23) s m args below meth c H locs 0 0 (MQ below (QW D (some (.int R0.1)) (wd_X12_worse k this this_thrown this_tape this_taped this_size this_sort this_place this_value this_at this_fault this_words this_towns this_towns_f this_op this_arg this_codes this_names this_readNames this_namesMany this_readMany this_once this_lines this_facts this_pile this_state this_state_f this_undos this_isMarked this_weight this_rounding this_lacks this_alikes this_g) (wd_X12_worse k this R0.2 this_tape this_taped this_size this_sort this_place this_value this_at this_fault this_words this_towns this_towns_f this_op this_arg this_codes this_names this_readNames this_namesMany this_readMany this_once this_lines this_facts this_pile this_state this_state_f this_undos this_isMarked this_weight this_rounding this_lacks this_alikes this_g) s.heap.size) args s 0 0 A) (F0 m 9 ls [])), ∀ (n : Nat), ∀ (x1 : Int32) (x2 : Int32) (x3 : Int32) (x4 : Int32) (u_this_thrown : Int32) (H : Heap) (locs : List Loc) (ls : Array Slot), va_P D vwCl (wd_X12_worse k this u_this_thrown this_tape this_taped this_size this_sort this_place this_value this_at this_fault this_words this_towns this_towns_f this_op this_arg this_codes this_names this_readNames this_namesMany this_readMany this_once this_lines this_facts this_pile this_state this_state_f this_undos this_isMarked this_weight this_rounding this_lacks this_alikes this_g) H → va_D A (wd_X12_worse k this u_this_thrown this_tape this_taped this_size this_sort this_place this_value this_at this_fault this_words this_towns this_towns_f this_op this_arg this_codes this_names this_readNames this_namesMany this_readMany this_once this_lines this_facts this_pile this_state this_state_f this_undos this_isMarked this_weight this_rounding this_lacks this_alikes this_g) → va_S A s.heap H locs → lv_has ls 5 [(0, .ref this), (1, .int x1), (2, .int x2), (3, .int x3), (4, .int x4)] → m_X12_worse_38 this_towns_f this_state_f K9 n x1 x2 x3 x4 u_this_thrown = some R0 → W p l e (Rm 1 23) s m args below meth c H locs 0 0 (MQ below (QW D (some (.int R0.1)) (wd_X12_worse k this this_thrown this_tape this_taped this_size this_sort this_place this_value this_at this_fault this_words this_towns this_towns_f this_op this_arg this_codes this_names this_readNames this_namesMany this_readMany this_once this_lines this_facts this_pile this_state this_state_f this_undos this_isMarked this_weight this_rounding this_lacks this_alikes this_g) (wd_X12_worse k this R0.2 this_tape this_taped this_size this_sort this_place this_value this_at this_fault this_words this_towns this_towns_f this_op this_arg this_codes this_names this_readNames this_namesMany this_readMany this_once this_lines this_facts this_pile this_state this_state_f this_undos this_isMarked this_weight this_rounding this_lacks this_alikes this_g) s.heap.size) args s 0 0 A) (F0 m 38 ls []) := by
    intro K9 hK9
    intro n
    induction n with
    | zero => intro x1 x2 x3 x4 u_this_thrown H locs ls hP hD hS hl hm; cases hm
    | succ n ih =>
      intro x1 x2 x3 x4 u_this_thrown H locs ls hP hD hS hl hm
      unfold m_X12_worse_38 at hm
      refine lv_iload (pc := 38) hx hb dX12_worse_38 (lv_at hl 4 rfl) ?_
      refine lv_aload_n (pc := 40) hx hb dX12_worse_40 rfl (lv_at hl 0 rfl) ?_
      obtain ⟨r4, hcl, hm⟩ := bd hm
      refine cr_back (run_V (pc := 41) (n := 0) (As := []) (rest := [.int x4]) ⟨hx, hb, hml, hown, hts⟩ (c_X12_persons l D k this u_this_thrown this_tape this_taped this_size this_sort this_place this_value this_at this_fault this_words this_towns this_towns_f this_op this_arg this_codes this_names this_readNames this_namesMany this_readMany this_once this_lines this_facts this_pile this_state this_undos this_isMarked this_weight this_rounding this_lacks this_alikes this_g r4 hcl) ⟨kw_1252, kw_16, by decide +kernel⟩ kw_1249 kw_1251 ks_97 ⟨Nat.le_of_ble_eq_true rfl, Nat.le_of_ble_eq_true rfl⟩ pr_blind (prR (hP.sub [0, 1] rfl) hG) (va_recv hG.1 hP (ci := 10) (q0 := 0) rfl rfl) rfl hl.1 rfl (Nat.le_of_ble_eq_true rfl) dX12_worse_41 ⟨Nat.zero_le _, Nat.zero_le _⟩) ?_
      refine lv_icmp_ge (tgt := 94) (pc := 44) hx hb dX12_worse_44 (by decide) (fun hc => ?_) (fun hc => ?_)
      · rw [if_pos hc] at hm
        refine lv_iload_n (pc := 94) hx hb dX12_worse_94 rfl (lv_at hl 1 rfl) ?_
        refine lv_iload_n (pc := 95) hx hb dX12_worse_95 rfl (lv_at hl 3 rfl) ?_
        refine lv_if_eq (tgt := 105) (pc := 96) hx hb dX12_worse_96 (by decide) (fun hc => ?_) (fun hc => ?_)
        · rw [if_pos hc] at hm
          refine lv_iconst (v := 0) (pc := 105) hx hb dX12_worse_105 (by decide) ?_
          refine lv_ior (pc := 106) hx hb dX12_worse_106 ?_
          refine lv_istore_n (lv' := [(1, .int (x1 ||| 0)), (0, .ref this), (2, .int x2), (3, .int x3), (4, .int x4)]) (pc := 107) hx hb dX12_worse_107 rfl hl (Nat.le_of_ble_eq_true rfl) rfl (fun ls hl => ?_)
          refine lv_iinc (k := 2) (v := x2 + 1) (lv' := [(2, .int (x2 + 1)), (1, .int (x1 ||| 0)), (0, .ref this), (3, .int x3), (4, .int x4)]) (pc := 108) hx hb dX12_worse_108 hl rfl rfl (Nat.le_of_ble_eq_true rfl) rfl (fun ls hl => ?_)
          refine lv_goto (tgt := 9) (pc := 111) hx hb dX12_worse_111 (by decide) ?_
          exact hK9 (x1 ||| 0) (x2 + 1) u_this_thrown H locs ls hP hD hS (lv_sub hl [2, 1, 0] rfl) hm
        · rw [if_neg hc] at hm
          refine lv_iconst (v := 1) (pc := 99) hx hb dX12_worse_99 (by decide) ?_
          refine lv_iload_n (pc := 100) hx hb dX12_worse_100 rfl (lv_at hl 2 rfl) ?_
          refine lv_ishl (pc := 101) hx hb dX12_worse_101 ?_
          refine lv_goto (tgt := 106) (pc := 102) hx hb dX12_worse_102 (by decide) ?_
          refine lv_ior (pc := 106) hx hb dX12_worse_106 ?_
          refine lv_istore_n (lv' := [(1, .int (x1 ||| (1 <<< (x2 &&& 31)))), (0, .ref this), (2, .int x2), (3, .int x3), (4, .int x4)]) (pc := 107) hx hb dX12_worse_107 rfl hl (Nat.le_of_ble_eq_true rfl) rfl (fun ls hl => ?_)
          refine lv_iinc (k := 2) (v := x2 + 1) (lv' := [(2, .int (x2 + 1)), (1, .int (x1 ||| (1 <<< (x2 &&& 31)))), (0, .ref this), (3, .int x3), (4, .int x4)]) (pc := 108) hx hb dX12_worse_108 hl rfl rfl (Nat.le_of_ble_eq_true rfl) rfl (fun ls hl => ?_)
          refine lv_goto (tgt := 9) (pc := 111) hx hb dX12_worse_111 (by decide) ?_
          exact hK9 (x1 ||| (1 <<< (x2 &&& 31))) (x2 + 1) u_this_thrown H locs ls hP hD hS (lv_sub hl [2, 1, 0] rfl) hm
      · rw [if_neg hc] at hm
        refine lv_iload_n (pc := 47) hx hb dX12_worse_47 rfl (lv_at hl 3 rfl) ?_
        refine lv_if_eq (tgt := 86) (pc := 48) hx hb dX12_worse_48 (by decide) (fun hc => ?_) (fun hc => ?_)
        · rw [if_pos hc] at hm
          refine lv_iconst (v := 0) (pc := 86) hx hb dX12_worse_86 (by decide) ?_
          refine lv_istore_n (lv' := [(3, .int 0), (0, .ref this), (1, .int x1), (2, .int x2), (4, .int x4)]) (pc := 87) hx hb dX12_worse_87 rfl hl (Nat.le_of_ble_eq_true rfl) rfl (fun ls hl => ?_)
          refine lv_iinc (k := 4) (v := x4 + 1) (lv' := [(4, .int (x4 + 1)), (3, .int 0), (0, .ref this), (1, .int x1), (2, .int x2)]) (pc := 88) hx hb dX12_worse_88 hl rfl rfl (Nat.le_of_ble_eq_true rfl) rfl (fun ls hl => ?_)
          refine lv_goto (tgt := 38) (pc := 91) hx hb dX12_worse_91 (by decide) ?_
          exact ih x1 x2 0 (x4 + 1) u_this_thrown H locs ls hP hD hS (lv_sub hl [2, 3, 4, 1, 0] rfl) hm
        · rw [if_neg hc] at hm
          refine lv_aload_n (pc := 51) hx hb dX12_worse_51 rfl (lv_at hl 0 rfl) ?_
          refine lv_iconst (v := 0) (pc := 52) hx hb dX12_worse_52 (by decide) ?_
          refine lv_iload_n (pc := 53) hx hb dX12_worse_53 rfl (lv_at hl 2 rfl) ?_
          refine lv_iload (pc := 54) hx hb dX12_worse_54 (lv_at hl 4 rfl) ?_
          obtain ⟨r5, hcl, hm⟩ := bd hm
          refine cr_back (run_V (pc := 56) (n := 3) (As := [.int 0, .int x2, .int x4]) (rest := []) ⟨hx, hb, hml, hown, hts⟩ (c_X12_doesFeel l D k this u_this_thrown this_tape this_taped this_size this_sort this_place this_value this_at this_fault this_words this_towns this_op this_arg this_codes this_names this_readNames this_namesMany this_readMany this_once this_lines this_facts this_pile this_state this_state_f this_undos this_isMarked this_weight this_rounding this_lacks this_alikes this_g 0 x2 x4 r5 hcl) ⟨kw_1541, kw_16, by decide +kernel⟩ kw_1538 kw_1540 ks_132 ⟨Nat.le_of_ble_eq_true rfl, Nat.le_of_ble_eq_true rfl⟩ pr_blind (prR (hP.sub [0, 2] rfl) hG) (va_recv hG.1 hP (ci := 10) (q0 := 0) rfl rfl) rfl hl.1 rfl (Nat.le_of_ble_eq_true rfl) dX12_worse_56 ⟨Nat.zero_le _, Nat.zero_le _⟩) ?_
          refine lv_if_eq (tgt := 82) (pc := 59) hx hb dX12_worse_59 (by decide) (fun hc => ?_) (fun hc => ?_)
          · rw [if_pos hc] at hm
            refine lv_iconst (v := 1) (pc := 82) hx hb dX12_worse_82 (by decide) ?_
            refine lv_goto (tgt := 87) (pc := 83) hx hb dX12_worse_83 (by decide) ?_
            refine lv_istore_n (lv' := [(3, .int 1), (0, .ref this), (1, .int x1), (2, .int x2), (4, .int x4)]) (pc := 87) hx hb dX12_worse_87 rfl hl (Nat.le_of_ble_eq_true rfl) rfl (fun ls hl => ?_)
            refine lv_iinc (k := 4) (v := x4 + 1) (lv' := [(4, .int (x4 + 1)), (3, .int 1), (0, .ref this), (1, .int x1), (2, .int x2)]) (pc := 88) hx hb dX12_worse_88 hl rfl rfl (Nat.le_of_ble_eq_true rfl) rfl (fun ls hl => ?_)
            refine lv_goto (tgt := 38) (pc := 91) hx hb dX12_worse_91 (by decide) ?_
            exact ih x1 x2 1 (x4 + 1) u_this_thrown H locs ls hP hD hS (lv_sub hl [2, 3, 4, 1, 0] rfl) hm
          · rw [if_neg hc] at hm
            refine lv_aload_n (pc := 62) hx hb dX12_worse_62 rfl (lv_at hl 0 rfl) ?_
            refine va_get (pc := 63) (D := D) (ci := 10) (C := RX12) (T := TX12) (N := 30) hx hb hts hiX12 hown hG.1 hP 0 rfl rfl 22 (Nat.le_of_ble_eq_true rfl) (hts _ kw_1279) (fun _ h9 => h9) rfl dX12_worse_63 ?_
            refine lv_iconst (v := 1) (pc := 66) hx hb dX12_worse_66 (by decide) ?_
            refine lv_iload_n (pc := 67) hx hb dX12_worse_67 rfl (lv_at hl 2 rfl) ?_
            refine lv_iadd (pc := 68) hx hb dX12_worse_68 ?_
            obtain ⟨hin, hm⟩ := gd hm
            refine va_iald (pc := 69) (D := D) hx hb hG.1 hP 2 0 rfl rfl hin dX12_worse_69 ?_
            refine lv_aload_n (pc := 70) hx hb dX12_worse_70 rfl (lv_at hl 0 rfl) ?_
            refine va_get (pc := 71) (D := D) (ci := 10) (C := RX12) (T := TX12) (N := 30) hx hb hts hiX12 hown hG.1 hP 0 rfl rfl 22 (Nat.le_of_ble_eq_true rfl) (hts _ kw_1279) (fun _ h9 => h9) rfl dX12_worse_71 ?_
            refine lv_iconst (v := 1) (pc := 74) hx hb dX12_worse_74 (by decide) ?_
            refine lv_iload (pc := 75) hx hb dX12_worse_75 (lv_at hl 4 rfl) ?_
            refine lv_iadd (pc := 77) hx hb dX12_worse_77 ?_
            obtain ⟨hin, hm⟩ := gd hm
            refine va_iald (pc := 78) (D := D) hx hb hG.1 hP 2 0 rfl rfl hin dX12_worse_78 ?_
            refine lv_icmp_le (tgt := 86) (pc := 79) hx hb dX12_worse_79 (by decide) (fun hc => ?_) (fun hc => ?_)
            · rw [if_pos hc] at hm
              refine lv_iconst (v := 0) (pc := 86) hx hb dX12_worse_86 (by decide) ?_
              refine lv_istore_n (lv' := [(3, .int 0), (0, .ref this), (1, .int x1), (2, .int x2), (4, .int x4)]) (pc := 87) hx hb dX12_worse_87 rfl hl (Nat.le_of_ble_eq_true rfl) rfl (fun ls hl => ?_)
              refine lv_iinc (k := 4) (v := x4 + 1) (lv' := [(4, .int (x4 + 1)), (3, .int 0), (0, .ref this), (1, .int x1), (2, .int x2)]) (pc := 88) hx hb dX12_worse_88 hl rfl rfl (Nat.le_of_ble_eq_true rfl) rfl (fun ls hl => ?_)
              refine lv_goto (tgt := 38) (pc := 91) hx hb dX12_worse_91 (by decide) ?_
              exact ih x1 x2 0 (x4 + 1) u_this_thrown H locs ls hP hD hS (lv_sub hl [2, 3, 4, 1, 0] rfl) hm
            · rw [if_neg hc] at hm
              refine lv_iconst (v := 1) (pc := 82) hx hb dX12_worse_82 (by decide) ?_
              refine lv_goto (tgt := 87) (pc := 83) hx hb dX12_worse_83 (by decide) ?_
              refine lv_istore_n (lv' := [(3, .int 1), (0, .ref this), (1, .int x1), (2, .int x2), (4, .int x4)]) (pc := 87) hx hb dX12_worse_87 rfl hl (Nat.le_of_ble_eq_true rfl) rfl (fun ls hl => ?_)
              refine lv_iinc (k := 4) (v := x4 + 1) (lv' := [(4, .int (x4 + 1)), (3, .int 1), (0, .ref this), (1, .int x1), (2, .int x2)]) (pc := 88) hx hb dX12_worse_88 hl rfl rfl (Nat.le_of_ble_eq_true rfl) rfl (fun ls hl => ?_)
              refine lv_goto (tgt := 38) (pc := 91) hx hb dX12_worse_91 (by decide) ?_
              exact ih x1 x2 1 (x4 + 1) u_this_thrown H locs ls hP hD hS (lv_sub hl [2, 3, 4, 1, 0] rfl) hm
  have h_9 : ∀ (n : Nat), ∀ (x1 : Int32) (x2 : Int32) (u_this_thrown : Int32) (H : Heap) (locs : List Loc) (ls : Array Slot), va_P D vwCl (wd_X12_worse k this u_this_thrown this_tape this_taped this_size this_sort this_place this_value this_at this_fault this_words this_towns this_towns_f this_op this_arg this_codes this_names this_readNames this_namesMany this_readMany this_once this_lines this_facts this_pile this_state this_state_f this_undos this_isMarked this_weight this_rounding this_lacks this_alikes this_g) H → va_D A (wd_X12_worse k this u_this_thrown this_tape this_taped this_size this_sort this_place this_value this_at this_fault this_words this_towns this_towns_f this_op this_arg this_codes this_names this_readNames this_namesMany this_readMany this_once this_lines this_facts this_pile this_state this_state_f this_undos this_isMarked this_weight this_rounding this_lacks this_alikes this_g) → va_S A s.heap H locs → lv_has ls 5 [(0, .ref this), (1, .int x1), (2, .int x2)] → m_X12_worse_9 this_towns_f this_state_f n x1 x2 u_this_thrown = some R0 → W p l e (Rm 1 23) s m args below meth c H locs 0 0 (MQ below (QW D (some (.int R0.1)) (wd_X12_worse k this this_thrown this_tape this_taped this_size this_sort this_place this_value this_at this_fault this_words this_towns this_towns_f this_op this_arg this_codes this_names this_readNames this_namesMany this_readMany this_once this_lines this_facts this_pile this_state this_state_f this_undos this_isMarked this_weight this_rounding this_lacks this_alikes this_g) (wd_X12_worse k this R0.2 this_tape this_taped this_size this_sort this_place this_value this_at this_fault this_words this_towns this_towns_f this_op this_arg this_codes this_names this_readNames this_namesMany this_readMany this_once this_lines this_facts this_pile this_state this_state_f this_undos this_isMarked this_weight this_rounding this_lacks this_alikes this_g) s.heap.size) args s 0 0 A) (F0 m 9 ls []) := by
    intro n
    induction n with
    | zero => intro x1 x2 u_this_thrown H locs ls hP hD hS hl hm; cases hm
    | succ n ih =>
      intro x1 x2 u_this_thrown H locs ls hP hD hS hl hm
      unfold m_X12_worse_9 at hm
      refine lv_iload_n (pc := 9) hx hb dX12_worse_9 rfl (lv_at hl 2 rfl) ?_
      refine lv_aload_n (pc := 10) hx hb dX12_worse_10 rfl (lv_at hl 0 rfl) ?_
      obtain ⟨r6, hcl, hm⟩ := bd hm
      refine cr_back (run_V (pc := 11) (n := 0) (As := []) (rest := [.int x2]) ⟨hx, hb, hml, hown, hts⟩ (c_X12_persons l D k this u_this_thrown this_tape this_taped this_size this_sort this_place this_value this_at this_fault this_words this_towns this_towns_f this_op this_arg this_codes this_names this_readNames this_namesMany this_readMany this_once this_lines this_facts this_pile this_state this_undos this_isMarked this_weight this_rounding this_lacks this_alikes this_g r6 hcl) ⟨kw_1252, kw_16, by decide +kernel⟩ kw_1249 kw_1251 ks_97 ⟨Nat.le_of_ble_eq_true rfl, Nat.le_of_ble_eq_true rfl⟩ pr_blind (prR (hP.sub [0, 1] rfl) hG) (va_recv hG.1 hP (ci := 10) (q0 := 0) rfl rfl) rfl hl.1 rfl (Nat.le_of_ble_eq_true rfl) dX12_worse_11 ⟨Nat.zero_le _, Nat.zero_le _⟩) ?_
      refine lv_icmp_ge (tgt := 114) (pc := 14) hx hb dX12_worse_14 (by decide) (fun hc => ?_) (fun hc => ?_)
      · rw [if_pos hc] at hm
        refine lv_iload_n (pc := 114) hx hb dX12_worse_114 rfl (lv_at hl 1 rfl) ?_
        rw [← Option.some.inj hm]
        exact W.iret hx hb hr (fun t ht _ => hq _ _ H t ht hP hD locs hS) hS.2.2 dX12_worse_115 hlocks
      · rw [if_neg hc] at hm
        refine lv_aload_n (pc := 17) hx hb dX12_worse_17 rfl (lv_at hl 0 rfl) ?_
        refine va_get (pc := 18) (D := D) (ci := 10) (C := RX12) (T := TX12) (N := 30) hx hb hts hiX12 hown hG.1 hP 0 rfl rfl 22 (Nat.le_of_ble_eq_true rfl) (hts _ kw_1279) (fun _ h9 => h9) rfl dX12_worse_18 ?_
        refine lv_bipush (v := 7) (pc := 21) hx hb dX12_worse_21 (by decide) ?_
        refine lv_iload_n (pc := 23) hx hb dX12_worse_23 rfl (lv_at hl 2 rfl) ?_
        refine lv_iadd (pc := 24) hx hb dX12_worse_24 ?_
        obtain ⟨hin, hm⟩ := gd hm
        refine va_iald (pc := 25) (D := D) hx hb hG.1 hP 2 0 rfl rfl hin dX12_worse_25 ?_
        refine lv_if_eq (tgt := 33) (pc := 26) hx hb dX12_worse_26 (by decide) (fun hc => ?_) (fun hc => ?_)
        · rw [if_pos hc] at hm
          refine lv_iconst (v := 0) (pc := 33) hx hb dX12_worse_33 (by decide) ?_
          refine lv_istore_n (lv' := [(3, .int 0), (0, .ref this), (1, .int x1), (2, .int x2)]) (pc := 34) hx hb dX12_worse_34 rfl hl (Nat.le_of_ble_eq_true rfl) rfl (fun ls hl => ?_)
          refine lv_iconst (v := 0) (pc := 35) hx hb dX12_worse_35 (by decide) ?_
          refine lv_istore (lv' := [(4, .int 0), (3, .int 0), (0, .ref this), (1, .int x1), (2, .int x2)]) (pc := 36) hx hb dX12_worse_36 hl (Nat.le_of_ble_eq_true rfl) rfl (fun ls hl => ?_)
          exact h_38 (m_X12_worse_9 this_towns_f this_state_f n) ih FU x1 x2 0 0 u_this_thrown H locs ls hP hD hS (lv_sub hl [2, 3, 4, 1, 0] rfl) hm
        · rw [if_neg hc] at hm
          refine lv_iconst (v := 1) (pc := 29) hx hb dX12_worse_29 (by decide) ?_
          refine lv_goto (tgt := 34) (pc := 30) hx hb dX12_worse_30 (by decide) ?_
          refine lv_istore_n (lv' := [(3, .int 1), (0, .ref this), (1, .int x1), (2, .int x2)]) (pc := 34) hx hb dX12_worse_34 rfl hl (Nat.le_of_ble_eq_true rfl) rfl (fun ls hl => ?_)
          refine lv_iconst (v := 0) (pc := 35) hx hb dX12_worse_35 (by decide) ?_
          refine lv_istore (lv' := [(4, .int 0), (3, .int 1), (0, .ref this), (1, .int x1), (2, .int x2)]) (pc := 36) hx hb dX12_worse_36 hl (Nat.le_of_ble_eq_true rfl) rfl (fun ls hl => ?_)
          exact h_38 (m_X12_worse_9 this_towns_f this_state_f n) ih FU x1 x2 1 0 u_this_thrown H locs ls hP hD hS (lv_sub hl [2, 3, 4, 1, 0] rfl) hm
  unfold m_X12_worse at hm
  suffices hgo : ∀ (H : Heap) (locs : List Loc), va_P D vwCl (wd_X12_worse k this this_thrown this_tape this_taped this_size this_sort this_place this_value this_at this_fault this_words this_towns this_towns_f this_op this_arg this_codes this_names this_readNames this_namesMany this_readMany this_once this_lines this_facts this_pile this_state this_state_f this_undos this_isMarked this_weight this_rounding this_lacks this_alikes this_g) H → va_D A (wd_X12_worse k this this_thrown this_tape this_taped this_size this_sort this_place this_value this_at this_fault this_words this_towns this_towns_f this_op this_arg this_codes this_names this_readNames this_namesMany this_readMany this_once this_lines this_facts this_pile this_state this_state_f this_undos this_isMarked this_weight this_rounding this_lacks this_alikes this_g) → va_S A s.heap H locs → W p l e (Rm 1 23) s m args below meth c H locs 0 0 (MQ below (QW D (some (.int R0.1)) (wd_X12_worse k this this_thrown this_tape this_taped this_size this_sort this_place this_value this_at this_fault this_words this_towns this_towns_f this_op this_arg this_codes this_names this_readNames this_namesMany this_readMany this_once this_lines this_facts this_pile this_state this_state_f this_undos this_isMarked this_weight this_rounding this_lacks this_alikes this_g) (wd_X12_worse k this R0.2 this_tape this_taped this_size this_sort this_place this_value this_at this_fault this_words this_towns this_towns_f this_op this_arg this_codes this_names this_readNames this_namesMany this_readMany this_once this_lines this_facts this_pile this_state this_state_f this_undos this_isMarked this_weight this_rounding this_lacks this_alikes this_g) s.heap.size) args s 0 0 A) (F0 m 0 ls []) from hgo _ _ hP hD hS
  clear hP hD hS
  intro H locs hP hD hS
  refine lv_aload_n (pc := 0) hx hb dX12_worse_0 rfl (lv_at hl 0 rfl) ?_
  refine lv_iconst (v := 0) (pc := 1) hx hb dX12_worse_1 (by decide) ?_
  refine va_put (pc := 2) (D := D) (ci := 10) (v := .int 0) (ty := .int) (C := RX12) (T := TX12) (N := 30) hx hb hts hiX12 tyX12 tyX12_ok nmX12 hown hG.1 hP hD hS 0 rfl rfl 0 (Nat.le_of_ble_eq_true rfl) (hts _ kw_1257) (fun _ h9 => h9) rfl (by decide +kernel) rfl rfl (Nat.le_of_ble_eq_true rfl) dX12_worse_2 (fun H locs hP hD hS => ?_)
  have hP : va_P D vwCl (wd_X12_worse k this 0 this_tape this_taped this_size this_sort this_place this_value this_at this_fault this_words this_towns this_towns_f this_op this_arg this_codes this_names this_readNames this_namesMany this_readMany this_once this_lines this_facts this_pile this_state this_state_f this_undos this_isMarked this_weight this_rounding this_lacks this_alikes this_g) H := hP
  have hD : va_D A (wd_X12_worse k this 0 this_tape this_taped this_size this_sort this_place this_value this_at this_fault this_words this_towns this_towns_f this_op this_arg this_codes this_names this_readNames this_namesMany this_readMany this_once this_lines this_facts this_pile this_state this_state_f this_undos this_isMarked this_weight this_rounding this_lacks this_alikes this_g) := hD
  refine lv_iconst (v := 0) (pc := 5) hx hb dX12_worse_5 (by decide) ?_
  refine lv_istore_n (lv' := [(1, .int 0), (0, .ref this)]) (pc := 6) hx hb dX12_worse_6 rfl hl (Nat.le_of_ble_eq_true rfl) rfl (fun ls hl => ?_)
  refine lv_iconst (v := 0) (pc := 7) hx hb dX12_worse_7 (by decide) ?_
  refine lv_istore_n (lv' := [(2, .int 0), (1, .int 0), (0, .ref this)]) (pc := 8) hx hb dX12_worse_8 rfl hl (Nat.le_of_ble_eq_true rfl) rfl (fun ls hl => ?_)
  exact h_9 FU 0 0 0 H locs ls hP hD hS (lv_sub hl [2, 1, 0] rfl) hm
theorem dX12_mean_0 : decode cX12_mean 0 = .ok (.aload_n 0, 1) := by decide +kernel
theorem dX12_mean_1 : decode cX12_mean 1 = .ok (.iconst 0, 1) := by decide +kernel
theorem dX12_mean_2 : decode cX12_mean 2 = .ok (.putfield 1, 3) := by decide +kernel
theorem dX12_mean_5 : decode cX12_mean 5 = .ok (.aload_n 0, 1) := by decide +kernel
theorem dX12_mean_6 : decode cX12_mean 6 = .ok (.invokevirtual 255, 3) := by decide +kernel
theorem dX12_mean_9 : decode cX12_mean 9 = .ok (.ifCond .ne 7, 3) := by decide +kernel
theorem dX12_mean_12 : decode cX12_mean 12 = .ok (.iconst 0, 1) := by decide +kernel
theorem dX12_mean_13 : decode cX12_mean 13 = .ok (.goto 13, 3) := by decide +kernel
theorem dX12_mean_16 : decode cX12_mean 16 = .ok (.aload_n 0, 1) := by decide +kernel
theorem dX12_mean_17 : decode cX12_mean 17 = .ok (.iconst 0, 1) := by decide +kernel
theorem dX12_mean_18 : decode cX12_mean 18 = .ok (.invokevirtual 347, 3) := by decide +kernel
theorem dX12_mean_21 : decode cX12_mean 21 = .ok (.aload_n 0, 1) := by decide +kernel
theorem dX12_mean_22 : decode cX12_mean 22 = .ok (.invokevirtual 255, 3) := by decide +kernel
theorem dX12_mean_25 : decode cX12_mean 25 = .ok (.idiv, 1) := by decide +kernel
theorem dX12_mean_26 : decode cX12_mean 26 = .ok (.ireturn, 1) := by decide +kernel
abbrev wd_X12_mean (k : Nat → ClassId) (this : Nat) (this_thrown : Int32) (this_tape : Nat) (this_taped : Int32) (this_size : Int32) (this_sort : Nat) (this_place : Nat) (this_value : Nat) (this_at : Int32) (this_fault : Int32) (this_words : Nat) (this_towns : Nat) (this_towns_f : Nat → Int32) (this_op : Nat) (this_arg : Nat) (this_codes : Int32) (this_names : Nat) (this_readNames : Nat) (this_namesMany : Int32) (this_readMany : Int32) (this_once : Int32) (this_lines : Nat) (this_facts : Nat) (this_pile : Nat) (this_state : Nat) (this_state_f : Nat → Int32) (this_undos : Int32) (this_isMarked : Nat) (this_weight : Int32) (this_rounding : Int32) (this_lacks : Nat) (this_alikes : Nat) (this_g : Int64) : va_W := [(this, .inr (10, [.int this_thrown, .ref this_tape, .int this_taped, .int this_size, .ref this_sort, .ref this_place, .ref this_value, .int this_at, .int this_fault, .ref this_words, .ref this_towns, .ref this_op, .ref this_arg, .int this_codes, .ref this_names, .ref this_readNames, .int this_namesMany, .int this_readMany, .int this_once, .ref this_lines, .ref this_facts, .ref this_pile, .ref this_state, .int this_undos, .ref this_isMarked, .int this_weight, .int this_rounding, .ref this_lacks, .ref this_alikes, .long this_g])), (this_towns, .inl (k 0, 60, .inl this_towns_f)), (this_state, .inl (k 0, 1104, .inl this_state_f))]
set_option maxHeartbeats 4000000 in
set_option maxRecDepth 100000 in
theorem c_X12_mean (l : Launch) (D : va_G) (k : Nat → ClassId) (this : Nat) (this_thrown : Int32) (this_tape : Nat) (this_taped : Int32) (this_size : Int32) (this_sort : Nat) (this_place : Nat) (this_value : Nat) (this_at : Int32) (this_fault : Int32) (this_words : Nat) (this_towns : Nat) (this_towns_f : Nat → Int32) (this_op : Nat) (this_arg : Nat) (this_codes : Int32) (this_names : Nat) (this_readNames : Nat) (this_namesMany : Int32) (this_readMany : Int32) (this_once : Int32) (this_lines : Nat) (this_facts : Nat) (this_pile : Nat) (this_state : Nat) (this_state_f : Nat → Int32) (this_undos : Int32) (this_isMarked : Nat) (this_weight : Int32) (this_rounding : Int32) (this_lacks : Nat) (this_alikes : Nat) (this_g : Int64) (R0 : Int32 × Int32) (hm : m_X12_mean this_towns_f this_state_f = some R0) : CW l D (TY k) yX12_mean cX12_mean 1 (some .int) 2 43 [.ref this] (wd_X12_mean k this this_thrown this_tape this_taped this_size this_sort this_place this_value this_at this_fault this_words this_towns this_towns_f this_op this_arg this_codes this_names this_readNames this_namesMany this_readMany this_once this_lines this_facts this_pile this_state this_state_f this_undos this_isMarked this_weight this_rounding this_lacks this_alikes this_g) (some (.int R0.1)) (wd_X12_mean k this R0.2 this_tape this_taped this_size this_sort this_place this_value this_at this_fault this_words this_towns this_towns_f this_op this_arg this_codes this_names this_readNames this_namesMany this_readMany this_once this_lines this_facts this_pile this_state this_state_f this_undos this_isMarked this_weight this_rounding this_lacks this_alikes this_g) := by
  refine CW.mk (by decide) (Nat.le_of_ble_eq_true rfl) ?_
  intro p e s m args below meth c ls A ⟨hx, hb, hr, hts, hown, hlocks, hml⟩ hP hG hD hA hl hS hq
  have hl : lv_has ls 1 [(0, .ref this)] := hl
  unfold m_X12_mean at hm
  suffices hgo : ∀ (H : Heap) (locs : List Loc), va_P D vwCl (wd_X12_mean k this this_thrown this_tape this_taped this_size this_sort this_place this_value this_at this_fault this_words this_towns this_towns_f this_op this_arg this_codes this_names this_readNames this_namesMany this_readMany this_once this_lines this_facts this_pile this_state this_state_f this_undos this_isMarked this_weight this_rounding this_lacks this_alikes this_g) H → va_D A (wd_X12_mean k this this_thrown this_tape this_taped this_size this_sort this_place this_value this_at this_fault this_words this_towns this_towns_f this_op this_arg this_codes this_names this_readNames this_namesMany this_readMany this_once this_lines this_facts this_pile this_state this_state_f this_undos this_isMarked this_weight this_rounding this_lacks this_alikes this_g) → va_S A s.heap H locs → W p l e (Rm 2 43) s m args below meth c H locs 0 0 (MQ below (QW D (some (.int R0.1)) (wd_X12_mean k this this_thrown this_tape this_taped this_size this_sort this_place this_value this_at this_fault this_words this_towns this_towns_f this_op this_arg this_codes this_names this_readNames this_namesMany this_readMany this_once this_lines this_facts this_pile this_state this_state_f this_undos this_isMarked this_weight this_rounding this_lacks this_alikes this_g) (wd_X12_mean k this R0.2 this_tape this_taped this_size this_sort this_place this_value this_at this_fault this_words this_towns this_towns_f this_op this_arg this_codes this_names this_readNames this_namesMany this_readMany this_once this_lines this_facts this_pile this_state this_state_f this_undos this_isMarked this_weight this_rounding this_lacks this_alikes this_g) s.heap.size) args s 0 0 A) (F0 m 0 ls []) from hgo _ _ hP hD hS
  clear hP hD hS
  intro H locs hP hD hS
  refine lv_aload_n (pc := 0) hx hb dX12_mean_0 rfl (lv_at hl 0 rfl) ?_
  refine lv_iconst (v := 0) (pc := 1) hx hb dX12_mean_1 (by decide) ?_
  refine va_put (pc := 2) (D := D) (ci := 10) (v := .int 0) (ty := .int) (C := RX12) (T := TX12) (N := 30) hx hb hts hiX12 tyX12 tyX12_ok nmX12 hown hG.1 hP hD hS 0 rfl rfl 0 (Nat.le_of_ble_eq_true rfl) (hts _ kw_1257) (fun _ h9 => h9) rfl (by decide +kernel) rfl rfl (Nat.le_of_ble_eq_true rfl) dX12_mean_2 (fun H locs hP hD hS => ?_)
  have hP : va_P D vwCl (wd_X12_mean k this 0 this_tape this_taped this_size this_sort this_place this_value this_at this_fault this_words this_towns this_towns_f this_op this_arg this_codes this_names this_readNames this_namesMany this_readMany this_once this_lines this_facts this_pile this_state this_state_f this_undos this_isMarked this_weight this_rounding this_lacks this_alikes this_g) H := hP
  have hD : va_D A (wd_X12_mean k this 0 this_tape this_taped this_size this_sort this_place this_value this_at this_fault this_words this_towns this_towns_f this_op this_arg this_codes this_names this_readNames this_namesMany this_readMany this_once this_lines this_facts this_pile this_state this_state_f this_undos this_isMarked this_weight this_rounding this_lacks this_alikes this_g) := hD
  refine lv_aload_n (pc := 5) hx hb dX12_mean_5 rfl (lv_at hl 0 rfl) ?_
  obtain ⟨r4, hcl, hm⟩ := bd hm
  refine cr_back (run_V (pc := 6) (n := 0) (As := []) (rest := []) ⟨hx, hb, hml, hown, hts⟩ (c_X12_persons l D k this 0 this_tape this_taped this_size this_sort this_place this_value this_at this_fault this_words this_towns this_towns_f this_op this_arg this_codes this_names this_readNames this_namesMany this_readMany this_once this_lines this_facts this_pile this_state this_undos this_isMarked this_weight this_rounding this_lacks this_alikes this_g r4 hcl) ⟨kw_1252, kw_16, by decide +kernel⟩ kw_1249 kw_1251 ks_97 ⟨Nat.le_of_ble_eq_true rfl, Nat.le_of_ble_eq_true rfl⟩ pr_blind (prR (hP.sub [0, 1] rfl) hG) (va_recv hG.1 hP (ci := 10) (q0 := 0) rfl rfl) rfl hl.1 rfl (Nat.le_of_ble_eq_true rfl) dX12_mean_6 ⟨Nat.zero_le _, Nat.zero_le _⟩) ?_
  refine lv_if_ne (tgt := 16) (pc := 9) hx hb dX12_mean_9 (by decide) (fun hc => ?_) (fun hc => ?_)
  · rw [if_neg hc] at hm
    refine lv_aload_n (pc := 16) hx hb dX12_mean_16 rfl (lv_at hl 0 rfl) ?_
    refine lv_iconst (v := 0) (pc := 17) hx hb dX12_mean_17 (by decide) ?_
    obtain ⟨r5, hcl, hm⟩ := bd hm
    refine cr_back (run_V (pc := 18) (n := 1) (As := [.int 0]) (rest := []) ⟨hx, hb, hml, hown, hts⟩ (c_X12_lacksAll l D k this 0 this_tape this_taped this_size this_sort this_place this_value this_at this_fault this_words this_towns this_towns_f this_op this_arg this_codes this_names this_readNames this_namesMany this_readMany this_once this_lines this_facts this_pile this_state this_state_f this_undos this_isMarked this_weight this_rounding this_lacks this_alikes this_g 0 r5 hcl) ⟨kw_1711, kw_16, by decide +kernel⟩ kw_1708 kw_1710 ks_142 ⟨Nat.le_of_ble_eq_true rfl, Nat.le_of_ble_eq_true rfl⟩ pr_blind (prR (hP.sub [0, 1, 2] rfl) hG) (va_recv hG.1 hP (ci := 10) (q0 := 0) rfl rfl) rfl hl.1 rfl (Nat.le_of_ble_eq_true rfl) dX12_mean_18 ⟨Nat.zero_le _, Nat.zero_le _⟩) ?_
    refine lv_aload_n (pc := 21) hx hb dX12_mean_21 rfl (lv_at hl 0 rfl) ?_
    obtain ⟨r6, hcl, hm⟩ := bd hm
    refine cr_back (run_V (pc := 22) (n := 0) (As := []) (rest := [.int r5]) ⟨hx, hb, hml, hown, hts⟩ (c_X12_persons l D k this 0 this_tape this_taped this_size this_sort this_place this_value this_at this_fault this_words this_towns this_towns_f this_op this_arg this_codes this_names this_readNames this_namesMany this_readMany this_once this_lines this_facts this_pile this_state this_undos this_isMarked this_weight this_rounding this_lacks this_alikes this_g r6 hcl) ⟨kw_1252, kw_16, by decide +kernel⟩ kw_1249 kw_1251 ks_97 ⟨Nat.le_of_ble_eq_true rfl, Nat.le_of_ble_eq_true rfl⟩ pr_blind (prR (hP.sub [0, 1] rfl) hG) (va_recv hG.1 hP (ci := 10) (q0 := 0) rfl rfl) rfl hl.1 rfl (Nat.le_of_ble_eq_true rfl) dX12_mean_22 ⟨Nat.zero_le _, Nat.zero_le _⟩) ?_
    obtain ⟨hnz, hm⟩ := gd hm
    refine lv_idiv (pc := 25) hx hb dX12_mean_25 hnz ?_
    rw [← Option.some.inj hm]
    exact W.iret hx hb hr (fun t ht _ => hq _ _ H t ht hP hD locs hS) hS.2.2 dX12_mean_26 hlocks
  · rw [if_pos hc] at hm
    refine lv_iconst (v := 0) (pc := 12) hx hb dX12_mean_12 (by decide) ?_
    refine lv_goto (tgt := 26) (pc := 13) hx hb dX12_mean_13 (by decide) ?_
    rw [← Option.some.inj hm]
    exact W.iret hx hb hr (fun t ht _ => hq _ _ H t ht hP hD locs hS) hS.2.2 dX12_mean_26 hlocks
theorem dX12_chance_0 : decode cX12_chance 0 = .ok (.aload_n 0, 1) := by decide +kernel
theorem dX12_chance_1 : decode cX12_chance 1 = .ok (.iconst 0, 1) := by decide +kernel
theorem dX12_chance_2 : decode cX12_chance 2 = .ok (.putfield 1, 3) := by decide +kernel
theorem dX12_chance_5 : decode cX12_chance 5 = .ok (.aload_n 0, 1) := by decide +kernel
theorem dX12_chance_6 : decode cX12_chance 6 = .ok (.iload_n 1, 1) := by decide +kernel
theorem dX12_chance_7 : decode cX12_chance 7 = .ok (.invokevirtual 303, 3) := by decide +kernel
theorem dX12_chance_10 : decode cX12_chance 10 = .ok (.ifCond .eq 34, 3) := by decide +kernel
theorem dX12_chance_13 : decode cX12_chance 13 = .ok (.iload_n 2, 1) := by decide +kernel
theorem dX12_chance_14 : decode cX12_chance 14 = .ok (.iconst 1, 1) := by decide +kernel
theorem dX12_chance_15 : decode cX12_chance 15 = .ok (.bipush 99, 2) := by decide +kernel
theorem dX12_chance_17 : decode cX12_chance 17 = .ok (.invokestatic 306, 3) := by decide +kernel
theorem dX12_chance_20 : decode cX12_chance 20 = .ok (.ifCond .eq 24, 3) := by decide +kernel
theorem dX12_chance_23 : decode cX12_chance 23 = .ok (.iload_n 3, 1) := by decide +kernel
theorem dX12_chance_24 : decode cX12_chance 24 = .ok (.iconst 1, 1) := by decide +kernel
theorem dX12_chance_25 : decode cX12_chance 25 = .ok (.bipush 6, 2) := by decide +kernel
theorem dX12_chance_27 : decode cX12_chance 27 = .ok (.invokestatic 306, 3) := by decide +kernel
theorem dX12_chance_30 : decode cX12_chance 30 = .ok (.ifCond .eq 14, 3) := by decide +kernel
theorem dX12_chance_33 : decode cX12_chance 33 = .ok (.iload 4, 2) := by decide +kernel
theorem dX12_chance_35 : decode cX12_chance 35 = .ok (.iconst 0, 1) := by decide +kernel
theorem dX12_chance_36 : decode cX12_chance 36 = .ok (.bipush 10, 2) := by decide +kernel
theorem dX12_chance_38 : decode cX12_chance 38 = .ok (.invokestatic 306, 3) := by decide +kernel
theorem dX12_chance_41 : decode cX12_chance 41 = .ok (.ifCond .ne 5, 3) := by decide +kernel
theorem dX12_chance_44 : decode cX12_chance 44 = .ok (.iconst (-1), 1) := by decide +kernel
theorem dX12_chance_45 : decode cX12_chance 45 = .ok (.ireturn, 1) := by decide +kernel
theorem dX12_chance_46 : decode cX12_chance 46 = .ok (.lconst 1, 1) := by decide +kernel
theorem dX12_chance_47 : decode cX12_chance 47 = .ok (.lstore 5, 2) := by decide +kernel
theorem dX12_chance_49 : decode cX12_chance 49 = .ok (.lconst 0, 1) := by decide +kernel
theorem dX12_chance_50 : decode cX12_chance 50 = .ok (.lstore 7, 2) := by decide +kernel
theorem dX12_chance_52 : decode cX12_chance 52 = .ok (.iconst 0, 1) := by decide +kernel
theorem dX12_chance_53 : decode cX12_chance 53 = .ok (.istore 9, 2) := by decide +kernel
theorem dX12_chance_55 : decode cX12_chance 55 = .ok (.iload 9, 2) := by decide +kernel
theorem dX12_chance_57 : decode cX12_chance 57 = .ok (.iload_n 3, 1) := by decide +kernel
theorem dX12_chance_58 : decode cX12_chance 58 = .ok (.if_icmp .ge 17, 3) := by decide +kernel
theorem dX12_chance_61 : decode cX12_chance 61 = .ok (.lload 5, 2) := by decide +kernel
theorem dX12_chance_63 : decode cX12_chance 63 = .ok (.ldc2_w 149, 3) := by decide +kernel
theorem dX12_chance_66 : decode cX12_chance 66 = .ok (.lmul, 1) := by decide +kernel
theorem dX12_chance_67 : decode cX12_chance 67 = .ok (.lstore 5, 2) := by decide +kernel
theorem dX12_chance_69 : decode cX12_chance 69 = .ok (.iinc 9 1, 3) := by decide +kernel
theorem dX12_chance_72 : decode cX12_chance 72 = .ok (.goto (-17), 3) := by decide +kernel
theorem dX12_chance_75 : decode cX12_chance 75 = .ok (.iconst 0, 1) := by decide +kernel
theorem dX12_chance_76 : decode cX12_chance 76 = .ok (.istore 9, 2) := by decide +kernel
theorem dX12_chance_78 : decode cX12_chance 78 = .ok (.iload 9, 2) := by decide +kernel
theorem dX12_chance_80 : decode cX12_chance 80 = .ok (.iconst 1, 1) := by decide +kernel
theorem dX12_chance_81 : decode cX12_chance 81 = .ok (.iload_n 3, 1) := by decide +kernel
theorem dX12_chance_82 : decode cX12_chance 82 = .ok (.ishl, 1) := by decide +kernel
theorem dX12_chance_83 : decode cX12_chance 83 = .ok (.if_icmp .ge 115, 3) := by decide +kernel
theorem dX12_chance_86 : decode cX12_chance 86 = .ok (.aload_n 0, 1) := by decide +kernel
theorem dX12_chance_87 : decode cX12_chance 87 = .ok (.invokevirtual 318, 3) := by decide +kernel
theorem dX12_chance_90 : decode cX12_chance 90 = .ok (.lconst 1, 1) := by decide +kernel
theorem dX12_chance_91 : decode cX12_chance 91 = .ok (.lstore 10, 2) := by decide +kernel
theorem dX12_chance_93 : decode cX12_chance 93 = .ok (.iconst 0, 1) := by decide +kernel
theorem dX12_chance_94 : decode cX12_chance 94 = .ok (.istore 12, 2) := by decide +kernel
theorem dX12_chance_96 : decode cX12_chance 96 = .ok (.iload 12, 2) := by decide +kernel
theorem dX12_chance_98 : decode cX12_chance 98 = .ok (.iload_n 3, 1) := by decide +kernel
theorem dX12_chance_99 : decode cX12_chance 99 = .ok (.if_icmp .ge 71, 3) := by decide +kernel
theorem dX12_chance_102 : decode cX12_chance 102 = .ok (.iload 9, 2) := by decide +kernel
theorem dX12_chance_104 : decode cX12_chance 104 = .ok (.iload 12, 2) := by decide +kernel
theorem dX12_chance_106 : decode cX12_chance 106 = .ok (.ishr, 1) := by decide +kernel
theorem dX12_chance_107 : decode cX12_chance 107 = .ok (.iconst 1, 1) := by decide +kernel
theorem dX12_chance_108 : decode cX12_chance 108 = .ok (.iand, 1) := by decide +kernel
theorem dX12_chance_109 : decode cX12_chance 109 = .ok (.iconst 1, 1) := by decide +kernel
theorem dX12_chance_110 : decode cX12_chance 110 = .ok (.if_icmp .ne 7, 3) := by decide +kernel
theorem dX12_chance_113 : decode cX12_chance 113 = .ok (.iconst 1, 1) := by decide +kernel
theorem dX12_chance_114 : decode cX12_chance 114 = .ok (.goto 4, 3) := by decide +kernel
theorem dX12_chance_117 : decode cX12_chance 117 = .ok (.iconst 0, 1) := by decide +kernel
theorem dX12_chance_118 : decode cX12_chance 118 = .ok (.istore 13, 2) := by decide +kernel
theorem dX12_chance_120 : decode cX12_chance 120 = .ok (.lload 10, 2) := by decide +kernel
theorem dX12_chance_122 : decode cX12_chance 122 = .ok (.iload 13, 2) := by decide +kernel
theorem dX12_chance_124 : decode cX12_chance 124 = .ok (.ifCond .eq 9, 3) := by decide +kernel
theorem dX12_chance_127 : decode cX12_chance 127 = .ok (.iload 4, 2) := by decide +kernel
theorem dX12_chance_129 : decode cX12_chance 129 = .ok (.i2l, 1) := by decide +kernel
theorem dX12_chance_130 : decode cX12_chance 130 = .ok (.goto 9, 3) := by decide +kernel
theorem dX12_chance_133 : decode cX12_chance 133 = .ok (.bipush 10, 2) := by decide +kernel
theorem dX12_chance_135 : decode cX12_chance 135 = .ok (.iload 4, 2) := by decide +kernel
theorem dX12_chance_137 : decode cX12_chance 137 = .ok (.isub, 1) := by decide +kernel
theorem dX12_chance_138 : decode cX12_chance 138 = .ok (.i2l, 1) := by decide +kernel
theorem dX12_chance_139 : decode cX12_chance 139 = .ok (.lmul, 1) := by decide +kernel
theorem dX12_chance_140 : decode cX12_chance 140 = .ok (.lstore 10, 2) := by decide +kernel
theorem dX12_chance_142 : decode cX12_chance 142 = .ok (.iload 13, 2) := by decide +kernel
theorem dX12_chance_144 : decode cX12_chance 144 = .ok (.ifCond .eq 12, 3) := by decide +kernel
theorem dX12_chance_147 : decode cX12_chance 147 = .ok (.aload_n 0, 1) := by decide +kernel
theorem dX12_chance_148 : decode cX12_chance 148 = .ok (.sipush 1008, 3) := by decide +kernel
theorem dX12_chance_151 : decode cX12_chance 151 = .ok (.iload_n 1, 1) := by decide +kernel
theorem dX12_chance_152 : decode cX12_chance 152 = .ok (.iconst 3, 1) := by decide +kernel
theorem dX12_chance_153 : decode cX12_chance 153 = .ok (.invokevirtual 312, 3) := by decide +kernel
theorem dX12_chance_156 : decode cX12_chance 156 = .ok (.aload_n 0, 1) := by decide +kernel
theorem dX12_chance_157 : decode cX12_chance 157 = .ok (.sipush 1008, 3) := by decide +kernel
theorem dX12_chance_160 : decode cX12_chance 160 = .ok (.invokevirtual 315, 3) := by decide +kernel
theorem dX12_chance_163 : decode cX12_chance 163 = .ok (.pop, 1) := by decide +kernel
theorem dX12_chance_164 : decode cX12_chance 164 = .ok (.iinc 12 1, 3) := by decide +kernel
theorem dX12_chance_167 : decode cX12_chance 167 = .ok (.goto (-71), 3) := by decide +kernel
theorem dX12_chance_170 : decode cX12_chance 170 = .ok (.lload 7, 2) := by decide +kernel
theorem dX12_chance_172 : decode cX12_chance 172 = .ok (.aload_n 0, 1) := by decide +kernel
theorem dX12_chance_173 : decode cX12_chance 173 = .ok (.sipush 1008, 3) := by decide +kernel
theorem dX12_chance_176 : decode cX12_chance 176 = .ok (.invokevirtual 293, 3) := by decide +kernel
theorem dX12_chance_179 : decode cX12_chance 179 = .ok (.iload_n 2, 1) := by decide +kernel
theorem dX12_chance_180 : decode cX12_chance 180 = .ok (.if_icmp .ge 8, 3) := by decide +kernel
theorem dX12_chance_183 : decode cX12_chance 183 = .ok (.lload 10, 2) := by decide +kernel
theorem dX12_chance_185 : decode cX12_chance 185 = .ok (.goto 4, 3) := by decide +kernel
theorem dX12_chance_188 : decode cX12_chance 188 = .ok (.lconst 0, 1) := by decide +kernel
theorem dX12_chance_189 : decode cX12_chance 189 = .ok (.ladd, 1) := by decide +kernel
theorem dX12_chance_190 : decode cX12_chance 190 = .ok (.lstore 7, 2) := by decide +kernel
theorem dX12_chance_192 : decode cX12_chance 192 = .ok (.iinc 9 1, 3) := by decide +kernel
theorem dX12_chance_195 : decode cX12_chance 195 = .ok (.goto (-117), 3) := by decide +kernel
theorem dX12_chance_198 : decode cX12_chance 198 = .ok (.lload 7, 2) := by decide +kernel
theorem dX12_chance_200 : decode cX12_chance 200 = .ok (.ldc2_w 350, 3) := by decide +kernel
theorem dX12_chance_203 : decode cX12_chance 203 = .ok (.lmul, 1) := by decide +kernel
theorem dX12_chance_204 : decode cX12_chance 204 = .ok (.lload 5, 2) := by decide +kernel
theorem dX12_chance_206 : decode cX12_chance 206 = .ok (.ldiv, 1) := by decide +kernel
theorem dX12_chance_207 : decode cX12_chance 207 = .ok (.l2i, 1) := by decide +kernel
theorem dX12_chance_208 : decode cX12_chance 208 = .ok (.ireturn, 1) := by decide +kernel
abbrev wd_X12_chance (k : Nat → ClassId) (this : Nat) (this_thrown : Int32) (this_tape : Nat) (this_taped : Int32) (this_size : Int32) (this_sort : Nat) (this_place : Nat) (this_value : Nat) (this_at : Int32) (this_fault : Int32) (this_words : Nat) (this_towns : Nat) (this_towns_f : Nat → Int32) (this_op : Nat) (this_op_f : Nat → Int32) (this_arg : Nat) (this_arg_f : Nat → Int32) (this_codes : Int32) (this_names : Nat) (this_readNames : Nat) (this_namesMany : Int32) (this_readMany : Int32) (this_once : Int32) (this_lines : Nat) (this_facts : Nat) (this_facts_f : Nat → Int32) (this_pile : Nat) (this_pile_f : Nat → Int32) (this_state : Nat) (this_state_f : Nat → Int32) (this_undos : Int32) (this_isMarked : Nat) (this_weight : Int32) (this_rounding : Int32) (this_lacks : Nat) (this_lacks_f : Nat → Int32) (this_alikes : Nat) (this_g : Int64) : va_W := [(this, .inr (10, [.int this_thrown, .ref this_tape, .int this_taped, .int this_size, .ref this_sort, .ref this_place, .ref this_value, .int this_at, .int this_fault, .ref this_words, .ref this_towns, .ref this_op, .ref this_arg, .int this_codes, .ref this_names, .ref this_readNames, .int this_namesMany, .int this_readMany, .int this_once, .ref this_lines, .ref this_facts, .ref this_pile, .ref this_state, .int this_undos, .ref this_isMarked, .int this_weight, .int this_rounding, .ref this_lacks, .ref this_alikes, .long this_g])), (this_towns, .inl (k 0, 60, .inl this_towns_f)), (this_op, .inl (k 0, 2200, .inl this_op_f)), (this_arg, .inl (k 0, 2200, .inl this_arg_f)), (this_facts, .inl (k 0, 4, .inl this_facts_f)), (this_pile, .inl (k 0, 1100, .inl this_pile_f)), (this_state, .inl (k 0, 1104, .inl this_state_f)), (this_lacks, .inl (k 0, 6, .inl this_lacks_f))]
set_option maxHeartbeats 4000000 in
set_option maxRecDepth 100000 in
theorem c_X12_chance (l : Launch) (D : va_G) (k : Nat → ClassId) (this : Nat) (this_thrown : Int32) (this_tape : Nat) (this_taped : Int32) (this_size : Int32) (this_sort : Nat) (this_place : Nat) (this_value : Nat) (this_at : Int32) (this_fault : Int32) (this_words : Nat) (this_towns : Nat) (this_towns_f : Nat → Int32) (this_op : Nat) (this_op_f : Nat → Int32) (this_arg : Nat) (this_arg_f : Nat → Int32) (this_codes : Int32) (this_names : Nat) (this_readNames : Nat) (this_namesMany : Int32) (this_readMany : Int32) (this_once : Int32) (this_lines : Nat) (this_facts : Nat) (this_facts_f : Nat → Int32) (this_pile : Nat) (this_pile_f : Nat → Int32) (this_state : Nat) (this_state_f : Nat → Int32) (this_undos : Int32) (this_isMarked : Nat) (this_weight : Int32) (this_rounding : Int32) (this_lacks : Nat) (this_lacks_f : Nat → Int32) (this_alikes : Nat) (this_g : Int64) (q1 : Int32) (q2 : Int32) (q3 : Int32) (q4 : Int32) (R0 : Int32 × Int32 × (Nat → Int32) × (Nat → Int32) × (Nat → Int32) × (Nat → Int32)) (hm : m_X12_chance this_towns_f this_op_f this_arg_f this_facts_f this_pile_f this_state_f this_weight this_rounding this_lacks_f q1 q2 q3 q4 = some R0) : CW l D (TY k) yX12_chance cX12_chance 14 (some .int) 5 117 [.ref this, .int q1, .int q2, .int q3, .int q4] (wd_X12_chance k this this_thrown this_tape this_taped this_size this_sort this_place this_value this_at this_fault this_words this_towns this_towns_f this_op this_op_f this_arg this_arg_f this_codes this_names this_readNames this_namesMany this_readMany this_once this_lines this_facts this_facts_f this_pile this_pile_f this_state this_state_f this_undos this_isMarked this_weight this_rounding this_lacks this_lacks_f this_alikes this_g) (some (.int R0.1)) (wd_X12_chance k this R0.2.1 this_tape this_taped this_size this_sort this_place this_value this_at this_fault this_words this_towns this_towns_f this_op this_op_f this_arg this_arg_f this_codes this_names this_readNames this_namesMany this_readMany this_once this_lines this_facts R0.2.2.1 this_pile R0.2.2.2.1 this_state R0.2.2.2.2.1 this_undos this_isMarked this_weight this_rounding this_lacks R0.2.2.2.2.2 this_alikes this_g) := by
  refine CW.mk (by decide) (Nat.le_of_ble_eq_true rfl) ?_
  intro p e s m args below meth c ls A ⟨hx, hb, hr, hts, hown, hlocks, hml⟩ hP hG hD hA hl hS hq
  have hl : lv_has ls 14 [(0, .ref this), (1, .int q1), (2, .int q2), (3, .int q3), (4, .int q4)] := hl
  have h_156 : ∀ (K78 : Int64 → Int64 → Int32 → Int32 → (Nat → Int32) → (Nat → Int32) → (Nat → Int32) → (Nat → Int32) → Option (Int32 × Int32 × (Nat → Int32) × (Nat → Int32) × (Nat → Int32) × (Nat → Int32))) (hK78 : ∀ (x5 : Int64) (x7 : Int64) (x9 : Int32) (u_this_thrown : Int32) (u_this_facts_f : Nat → Int32) (u_this_pile_f : Nat → Int32) (u_this_state_f : Nat → Int32) (u_this_lacks_f : Nat → Int32) (H : Heap) (locs : List Loc) (ls : Array Slot), va_P D vwCl (wd_X12_chance k this u_this_thrown this_tape this_taped this_size this_sort this_place this_value this_at this_fault this_words this_towns this_towns_f this_op this_op_f this_arg this_arg_f this_codes this_names this_readNames this_namesMany this_readMany this_once this_lines this_facts u_this_facts_f this_pile u_this_pile_f this_state u_this_state_f this_undos this_isMarked this_weight this_rounding this_lacks u_this_lacks_f this_alikes this_g) H → va_D A (wd_X12_chance k this u_this_thrown this_tape this_taped this_size this_sort this_place this_value this_at this_fault this_words this_towns this_towns_f this_op this_op_f this_arg this_arg_f this_codes this_names this_readNames this_namesMany this_readMany this_once this_lines this_facts u_this_facts_f this_pile u_this_pile_f this_state u_this_state_f this_undos this_isMarked this_weight this_rounding this_lacks u_this_lacks_f this_alikes this_g) → va_S A s.heap H locs → lv_has ls 14 [(0, .ref this), (1, .int q1), (2, .int q2), (3, .int q3), (4, .int q4), (5, .long x5), (7, .long x7), (9, .int x9)] → K78 x5 x7 x9 u_this_thrown u_this_facts_f u_this_pile_f u_this_state_f u_this_lacks_f = some R0 → W p l e (Rm 5 117) s m args below meth c H locs 0 0 (MQ below (QW D (some (.int R0.1)) (wd_X12_chance k this this_thrown this_tape this_taped this_size this_sort this_place this_value this_at this_fault this_words this_towns this_towns_f this_op this_op_f this_arg this_arg_f this_codes this_names this_readNames this_namesMany this_readMany this_once this_lines this_facts this_facts_f this_pile this_pile_f this_state this_state_f this_undos this_isMarked this_weight this_rounding this_lacks this_lacks_f this_alikes this_g) (wd_X12_chance k this R0.2.1 this_tape this_taped this_size this_sort this_place this_value this_at this_fault this_words this_towns this_towns_f this_op this_op_f this_arg this_arg_f this_codes this_names this_readNames this_namesMany this_readMany this_once this_lines this_facts R0.2.2.1 this_pile R0.2.2.2.1 this_state R0.2.2.2.2.1 this_undos this_isMarked this_weight this_rounding this_lacks R0.2.2.2.2.2 this_alikes this_g) s.heap.size) args s 0 0 A) (F0 m 78 ls [])) (K96 : Int64 → Int64 → Int32 → Int64 → Int32 → Int32 → (Nat → Int32) → (Nat → Int32) → (Nat → Int32) → (Nat → Int32) → Option (Int32 × Int32 × (Nat → Int32) × (Nat → Int32) × (Nat → Int32) × (Nat → Int32))) (hK96 : ∀ (x5 : Int64) (x7 : Int64) (x9 : Int32) (x10 : Int64) (x12 : Int32) (u_this_thrown : Int32) (u_this_facts_f : Nat → Int32) (u_this_pile_f : Nat → Int32) (u_this_state_f : Nat → Int32) (u_this_lacks_f : Nat → Int32) (H : Heap) (locs : List Loc) (ls : Array Slot), va_P D vwCl (wd_X12_chance k this u_this_thrown this_tape this_taped this_size this_sort this_place this_value this_at this_fault this_words this_towns this_towns_f this_op this_op_f this_arg this_arg_f this_codes this_names this_readNames this_namesMany this_readMany this_once this_lines this_facts u_this_facts_f this_pile u_this_pile_f this_state u_this_state_f this_undos this_isMarked this_weight this_rounding this_lacks u_this_lacks_f this_alikes this_g) H → va_D A (wd_X12_chance k this u_this_thrown this_tape this_taped this_size this_sort this_place this_value this_at this_fault this_words this_towns this_towns_f this_op this_op_f this_arg this_arg_f this_codes this_names this_readNames this_namesMany this_readMany this_once this_lines this_facts u_this_facts_f this_pile u_this_pile_f this_state u_this_state_f this_undos this_isMarked this_weight this_rounding this_lacks u_this_lacks_f this_alikes this_g) → va_S A s.heap H locs → lv_has ls 14 [(0, .ref this), (1, .int q1), (2, .int q2), (3, .int q3), (4, .int q4), (5, .long x5), (7, .long x7), (9, .int x9), (10, .long x10), (12, .int x12)] → K96 x5 x7 x9 x10 x12 u_this_thrown u_this_facts_f u_this_pile_f u_this_state_f u_this_lacks_f = some R0 → W p l e (Rm 5 117) s m args below meth c H locs 0 0 (MQ below (QW D (some (.int R0.1)) (wd_X12_chance k this this_thrown this_tape this_taped this_size this_sort this_place this_value this_at this_fault this_words this_towns this_towns_f this_op this_op_f this_arg this_arg_f this_codes this_names this_readNames this_namesMany this_readMany this_once this_lines this_facts this_facts_f this_pile this_pile_f this_state this_state_f this_undos this_isMarked this_weight this_rounding this_lacks this_lacks_f this_alikes this_g) (wd_X12_chance k this R0.2.1 this_tape this_taped this_size this_sort this_place this_value this_at this_fault this_words this_towns this_towns_f this_op this_op_f this_arg this_arg_f this_codes this_names this_readNames this_namesMany this_readMany this_once this_lines this_facts R0.2.2.1 this_pile R0.2.2.2.1 this_state R0.2.2.2.2.1 this_undos this_isMarked this_weight this_rounding this_lacks R0.2.2.2.2.2 this_alikes this_g) s.heap.size) args s 0 0 A) (F0 m 96 ls [])), ∀ (x5 : Int64) (x7 : Int64) (x9 : Int32) (x10 : Int64) (x12 : Int32) (u_this_thrown : Int32) (u_this_facts_f : Nat → Int32) (u_this_pile_f : Nat → Int32) (u_this_state_f : Nat → Int32) (u_this_lacks_f : Nat → Int32) (H : Heap) (locs : List Loc) (ls : Array Slot), va_P D vwCl (wd_X12_chance k this u_this_thrown this_tape this_taped this_size this_sort this_place this_value this_at this_fault this_words this_towns this_towns_f this_op this_op_f this_arg this_arg_f this_codes this_names this_readNames this_namesMany this_readMany this_once this_lines this_facts u_this_facts_f this_pile u_this_pile_f this_state u_this_state_f this_undos this_isMarked this_weight this_rounding this_lacks u_this_lacks_f this_alikes this_g) H → va_D A (wd_X12_chance k this u_this_thrown this_tape this_taped this_size this_sort this_place this_value this_at this_fault this_words this_towns this_towns_f this_op this_op_f this_arg this_arg_f this_codes this_names this_readNames this_namesMany this_readMany this_once this_lines this_facts u_this_facts_f this_pile u_this_pile_f this_state u_this_state_f this_undos this_isMarked this_weight this_rounding this_lacks u_this_lacks_f this_alikes this_g) → va_S A s.heap H locs → lv_has ls 14 [(0, .ref this), (1, .int q1), (2, .int q2), (3, .int q3), (4, .int q4), (5, .long x5), (7, .long x7), (9, .int x9), (10, .long x10), (12, .int x12)] → m_X12_chance_156 this_towns_f this_op_f this_arg_f this_weight this_rounding q1 q2 q3 q4 K78 K96 x5 x7 x9 x10 x12 u_this_thrown u_this_facts_f u_this_pile_f u_this_state_f u_this_lacks_f = some R0 → W p l e (Rm 5 117) s m args below meth c H locs 0 0 (MQ below (QW D (some (.int R0.1)) (wd_X12_chance k this this_thrown this_tape this_taped this_size this_sort this_place this_value this_at this_fault this_words this_towns this_towns_f this_op this_op_f this_arg this_arg_f this_codes this_names this_readNames this_namesMany this_readMany this_once this_lines this_facts this_facts_f this_pile this_pile_f this_state this_state_f this_undos this_isMarked this_weight this_rounding this_lacks this_lacks_f this_alikes this_g) (wd_X12_chance k this R0.2.1 this_tape this_taped this_size this_sort this_place this_value this_at this_fault this_words this_towns this_towns_f this_op this_op_f this_arg this_arg_f this_codes this_names this_readNames this_namesMany this_readMany this_once this_lines this_facts R0.2.2.1 this_pile R0.2.2.2.1 this_state R0.2.2.2.2.1 this_undos this_isMarked this_weight this_rounding this_lacks R0.2.2.2.2.2 this_alikes this_g) s.heap.size) args s 0 0 A) (F0 m 156 ls []) := by
    intro K78 hK78 K96 hK96 x5 x7 x9 x10 x12 u_this_thrown u_this_facts_f u_this_pile_f u_this_state_f u_this_lacks_f H locs ls hP hD hS hl hm
    unfold m_X12_chance_156 at hm
    refine lv_aload_n (pc := 156) hx hb dX12_chance_156 rfl (lv_at hl 0 rfl) ?_
    refine lv_sipush (v := 1008) (pc := 157) hx hb dX12_chance_157 (by decide) ?_
    obtain ⟨r9, hcl, hm⟩ := bd hm
    refine cw_mask (ws' := (wd_X12_chance k this u_this_thrown this_tape this_taped this_size this_sort this_place this_value this_at this_fault this_words this_towns this_towns_f this_op this_op_f this_arg this_arg_f this_codes this_names this_readNames this_namesMany this_readMany this_once this_lines this_facts r9.2.1 this_pile r9.2.2.1 this_state r9.2.2.2.1 this_undos this_isMarked this_weight this_rounding this_lacks r9.2.2.2.2 this_alikes this_g)) (run_V (pc := 160) (n := 1) (As := [.int 1008]) (rest := []) ⟨hx, hb, hml, hown, hts⟩ ((c_X12_passes l D k this u_this_thrown this_tape this_taped this_size this_sort this_place this_value this_at this_fault this_words this_towns this_towns_f this_op this_op_f this_arg this_arg_f this_codes this_names this_readNames this_namesMany this_readMany this_once this_lines this_facts u_this_facts_f this_pile u_this_pile_f this_state u_this_state_f this_undos this_isMarked this_weight this_rounding this_lacks u_this_lacks_f this_alikes this_g 1008 r9 hcl) H.size) ⟨kw_1537, kw_16, by decide +kernel⟩ kw_1534 kw_1536 ks_131 ⟨Nat.le_of_ble_eq_true rfl, Nat.le_of_ble_eq_true rfl⟩ pw_blind (prW (P_pick [true, true, true, true, true, true, true, true] rfl hP) hG (D_pick [true, true, true, true, true, true, true, true] rfl hD)) (va_recv hG.1 hP (ci := 10) (q0 := 0) rfl rfl) rfl hl.1 rfl (Nat.le_of_ble_eq_true rfl) dX12_chance_160 ⟨Nat.zero_le _, Nat.zero_le _⟩) hP hD hS hA [true, true, true, true, true, true, true, true] rfl rfl rfl (fun H locs hP hD hS => ?_)
    refine lv_pop (pc := 163) hx hb dX12_chance_163 rfl ?_
    refine lv_iinc (k := 9) (v := x12 + 1) (lv' := [(12, .int (x12 + 1)), (0, .ref this), (1, .int q1), (2, .int q2), (3, .int q3), (4, .int q4), (5, .long x5), (7, .long x7), (9, .int x9), (10, .long x10)]) (pc := 164) hx hb dX12_chance_164 hl rfl rfl (Nat.le_of_ble_eq_true rfl) rfl (fun ls hl => ?_)
    refine lv_goto (tgt := 96) (pc := 167) hx hb dX12_chance_167 (by decide) ?_
    exact hK96 x5 x7 x9 x10 (x12 + 1) u_this_thrown r9.2.1 r9.2.2.1 r9.2.2.2.1 r9.2.2.2.2 H locs ls hP hD hS (lv_sub hl [1, 2, 3, 4, 5, 6, 7, 8, 9, 0] rfl) hm
  have h_139 : ∀ (K78 : Int64 → Int64 → Int32 → Int32 → (Nat → Int32) → (Nat → Int32) → (Nat → Int32) → (Nat → Int32) → Option (Int32 × Int32 × (Nat → Int32) × (Nat → Int32) × (Nat → Int32) × (Nat → Int32))) (hK78 : ∀ (x5 : Int64) (x7 : Int64) (x9 : Int32) (u_this_thrown : Int32) (u_this_facts_f : Nat → Int32) (u_this_pile_f : Nat → Int32) (u_this_state_f : Nat → Int32) (u_this_lacks_f : Nat → Int32) (H : Heap) (locs : List Loc) (ls : Array Slot), va_P D vwCl (wd_X12_chance k this u_this_thrown this_tape this_taped this_size this_sort this_place this_value this_at this_fault this_words this_towns this_towns_f this_op this_op_f this_arg this_arg_f this_codes this_names this_readNames this_namesMany this_readMany this_once this_lines this_facts u_this_facts_f this_pile u_this_pile_f this_state u_this_state_f this_undos this_isMarked this_weight this_rounding this_lacks u_this_lacks_f this_alikes this_g) H → va_D A (wd_X12_chance k this u_this_thrown this_tape this_taped this_size this_sort this_place this_value this_at this_fault this_words this_towns this_towns_f this_op this_op_f this_arg this_arg_f this_codes this_names this_readNames this_namesMany this_readMany this_once this_lines this_facts u_this_facts_f this_pile u_this_pile_f this_state u_this_state_f this_undos this_isMarked this_weight this_rounding this_lacks u_this_lacks_f this_alikes this_g) → va_S A s.heap H locs → lv_has ls 14 [(0, .ref this), (1, .int q1), (2, .int q2), (3, .int q3), (4, .int q4), (5, .long x5), (7, .long x7), (9, .int x9)] → K78 x5 x7 x9 u_this_thrown u_this_facts_f u_this_pile_f u_this_state_f u_this_lacks_f = some R0 → W p l e (Rm 5 117) s m args below meth c H locs 0 0 (MQ below (QW D (some (.int R0.1)) (wd_X12_chance k this this_thrown this_tape this_taped this_size this_sort this_place this_value this_at this_fault this_words this_towns this_towns_f this_op this_op_f this_arg this_arg_f this_codes this_names this_readNames this_namesMany this_readMany this_once this_lines this_facts this_facts_f this_pile this_pile_f this_state this_state_f this_undos this_isMarked this_weight this_rounding this_lacks this_lacks_f this_alikes this_g) (wd_X12_chance k this R0.2.1 this_tape this_taped this_size this_sort this_place this_value this_at this_fault this_words this_towns this_towns_f this_op this_op_f this_arg this_arg_f this_codes this_names this_readNames this_namesMany this_readMany this_once this_lines this_facts R0.2.2.1 this_pile R0.2.2.2.1 this_state R0.2.2.2.2.1 this_undos this_isMarked this_weight this_rounding this_lacks R0.2.2.2.2.2 this_alikes this_g) s.heap.size) args s 0 0 A) (F0 m 78 ls [])) (K96 : Int64 → Int64 → Int32 → Int64 → Int32 → Int32 → (Nat → Int32) → (Nat → Int32) → (Nat → Int32) → (Nat → Int32) → Option (Int32 × Int32 × (Nat → Int32) × (Nat → Int32) × (Nat → Int32) × (Nat → Int32))) (hK96 : ∀ (x5 : Int64) (x7 : Int64) (x9 : Int32) (x10 : Int64) (x12 : Int32) (u_this_thrown : Int32) (u_this_facts_f : Nat → Int32) (u_this_pile_f : Nat → Int32) (u_this_state_f : Nat → Int32) (u_this_lacks_f : Nat → Int32) (H : Heap) (locs : List Loc) (ls : Array Slot), va_P D vwCl (wd_X12_chance k this u_this_thrown this_tape this_taped this_size this_sort this_place this_value this_at this_fault this_words this_towns this_towns_f this_op this_op_f this_arg this_arg_f this_codes this_names this_readNames this_namesMany this_readMany this_once this_lines this_facts u_this_facts_f this_pile u_this_pile_f this_state u_this_state_f this_undos this_isMarked this_weight this_rounding this_lacks u_this_lacks_f this_alikes this_g) H → va_D A (wd_X12_chance k this u_this_thrown this_tape this_taped this_size this_sort this_place this_value this_at this_fault this_words this_towns this_towns_f this_op this_op_f this_arg this_arg_f this_codes this_names this_readNames this_namesMany this_readMany this_once this_lines this_facts u_this_facts_f this_pile u_this_pile_f this_state u_this_state_f this_undos this_isMarked this_weight this_rounding this_lacks u_this_lacks_f this_alikes this_g) → va_S A s.heap H locs → lv_has ls 14 [(0, .ref this), (1, .int q1), (2, .int q2), (3, .int q3), (4, .int q4), (5, .long x5), (7, .long x7), (9, .int x9), (10, .long x10), (12, .int x12)] → K96 x5 x7 x9 x10 x12 u_this_thrown u_this_facts_f u_this_pile_f u_this_state_f u_this_lacks_f = some R0 → W p l e (Rm 5 117) s m args below meth c H locs 0 0 (MQ below (QW D (some (.int R0.1)) (wd_X12_chance k this this_thrown this_tape this_taped this_size this_sort this_place this_value this_at this_fault this_words this_towns this_towns_f this_op this_op_f this_arg this_arg_f this_codes this_names this_readNames this_namesMany this_readMany this_once this_lines this_facts this_facts_f this_pile this_pile_f this_state this_state_f this_undos this_isMarked this_weight this_rounding this_lacks this_lacks_f this_alikes this_g) (wd_X12_chance k this R0.2.1 this_tape this_taped this_size this_sort this_place this_value this_at this_fault this_words this_towns this_towns_f this_op this_op_f this_arg this_arg_f this_codes this_names this_readNames this_namesMany this_readMany this_once this_lines this_facts R0.2.2.1 this_pile R0.2.2.2.1 this_state R0.2.2.2.2.1 this_undos this_isMarked this_weight this_rounding this_lacks R0.2.2.2.2.2 this_alikes this_g) s.heap.size) args s 0 0 A) (F0 m 96 ls [])), ∀ (x5 : Int64) (x7 : Int64) (x9 : Int32) (x12 : Int32) (x13 : Int32) (t0 : Int64) (t1 : Int64) (u_this_thrown : Int32) (u_this_facts_f : Nat → Int32) (u_this_pile_f : Nat → Int32) (u_this_state_f : Nat → Int32) (u_this_lacks_f : Nat → Int32) (H : Heap) (locs : List Loc) (ls : Array Slot), va_P D vwCl (wd_X12_chance k this u_this_thrown this_tape this_taped this_size this_sort this_place this_value this_at this_fault this_words this_towns this_towns_f this_op this_op_f this_arg this_arg_f this_codes this_names this_readNames this_namesMany this_readMany this_once this_lines this_facts u_this_facts_f this_pile u_this_pile_f this_state u_this_state_f this_undos this_isMarked this_weight this_rounding this_lacks u_this_lacks_f this_alikes this_g) H → va_D A (wd_X12_chance k this u_this_thrown this_tape this_taped this_size this_sort this_place this_value this_at this_fault this_words this_towns this_towns_f this_op this_op_f this_arg this_arg_f this_codes this_names this_readNames this_namesMany this_readMany this_once this_lines this_facts u_this_facts_f this_pile u_this_pile_f this_state u_this_state_f this_undos this_isMarked this_weight this_rounding this_lacks u_this_lacks_f this_alikes this_g) → va_S A s.heap H locs → lv_has ls 14 [(0, .ref this), (1, .int q1), (2, .int q2), (3, .int q3), (4, .int q4), (5, .long x5), (7, .long x7), (9, .int x9), (12, .int x12), (13, .int x13)] → m_X12_chance_139 this_towns_f this_op_f this_arg_f this_weight this_rounding q1 q2 q3 q4 K78 K96 x5 x7 x9 x12 x13 t0 t1 u_this_thrown u_this_facts_f u_this_pile_f u_this_state_f u_this_lacks_f = some R0 → W p l e (Rm 5 117) s m args below meth c H locs 0 0 (MQ below (QW D (some (.int R0.1)) (wd_X12_chance k this this_thrown this_tape this_taped this_size this_sort this_place this_value this_at this_fault this_words this_towns this_towns_f this_op this_op_f this_arg this_arg_f this_codes this_names this_readNames this_namesMany this_readMany this_once this_lines this_facts this_facts_f this_pile this_pile_f this_state this_state_f this_undos this_isMarked this_weight this_rounding this_lacks this_lacks_f this_alikes this_g) (wd_X12_chance k this R0.2.1 this_tape this_taped this_size this_sort this_place this_value this_at this_fault this_words this_towns this_towns_f this_op this_op_f this_arg this_arg_f this_codes this_names this_readNames this_namesMany this_readMany this_once this_lines this_facts R0.2.2.1 this_pile R0.2.2.2.1 this_state R0.2.2.2.2.1 this_undos this_isMarked this_weight this_rounding this_lacks R0.2.2.2.2.2 this_alikes this_g) s.heap.size) args s 0 0 A) (F0 m 139 ls [.long t0, .long t1]) := by
    intro K78 hK78 K96 hK96 x5 x7 x9 x12 x13 t0 t1 u_this_thrown u_this_facts_f u_this_pile_f u_this_state_f u_this_lacks_f H locs ls hP hD hS hl hm
    unfold m_X12_chance_139 at hm
    refine lv_lmul (pc := 139) hx hb dX12_chance_139 ?_
    refine lv_lstore (lv' := [(10, .long (t1 * t0)), (0, .ref this), (1, .int q1), (2, .int q2), (3, .int q3), (4, .int q4), (5, .long x5), (7, .long x7), (9, .int x9), (12, .int x12), (13, .int x13)]) (pc := 140) hx hb dX12_chance_140 hl (Nat.le_of_ble_eq_true rfl) rfl (fun ls hl => ?_)
    refine lv_iload (pc := 142) hx hb dX12_chance_142 (lv_at hl 10 rfl) ?_
    refine lv_if_eq (tgt := 156) (pc := 144) hx hb dX12_chance_144 (by decide) (fun hc => ?_) (fun hc => ?_)
    · rw [if_pos hc] at hm
      exact h_156 K78 hK78 K96 hK96 x5 x7 x9 (t1 * t0) x12 u_this_thrown u_this_facts_f u_this_pile_f u_this_state_f u_this_lacks_f H locs ls hP hD hS (lv_sub hl [1, 2, 3, 4, 5, 6, 7, 8, 0, 9] rfl) hm
    · rw [if_neg hc] at hm
      refine lv_aload_n (pc := 147) hx hb dX12_chance_147 rfl (lv_at hl 1 rfl) ?_
      refine lv_sipush (v := 1008) (pc := 148) hx hb dX12_chance_148 (by decide) ?_
      refine lv_iload_n (pc := 151) hx hb dX12_chance_151 rfl (lv_at hl 2 rfl) ?_
      refine lv_iconst (v := 3) (pc := 152) hx hb dX12_chance_152 (by decide) ?_
      obtain ⟨r10, hcl, hm⟩ := bd hm
      refine cw_mask (ws' := (wd_X12_chance k this u_this_thrown this_tape this_taped this_size this_sort this_place this_value this_at this_fault this_words this_towns this_towns_f this_op this_op_f this_arg this_arg_f this_codes this_names this_readNames this_namesMany this_readMany this_once this_lines this_facts u_this_facts_f this_pile u_this_pile_f this_state r10 this_undos this_isMarked this_weight this_rounding this_lacks u_this_lacks_f this_alikes this_g)) (run_V (pc := 153) (n := 3) (As := [.int 1008, .int q1, .int 3]) (rest := []) ⟨hx, hb, hml, hown, hts⟩ ((c_X12_loses l D k this u_this_thrown this_tape this_taped this_size this_sort this_place this_value this_at this_fault this_words this_towns this_op this_arg this_codes this_names this_readNames this_namesMany this_readMany this_once this_lines this_facts this_pile this_state u_this_state_f this_undos this_isMarked this_weight this_rounding this_lacks this_alikes this_g 1008 q1 3 r10 hcl) H.size) ⟨kw_1517, kw_16, by decide +kernel⟩ kw_1514 kw_1516 ks_130 ⟨Nat.le_of_ble_eq_true rfl, Nat.le_of_ble_eq_true rfl⟩ pw_blind (prW (P_pick [true, false, false, false, false, false, true] rfl hP) hG (D_pick [true, false, false, false, false, false, true] rfl hD)) (va_recv hG.1 hP (ci := 10) (q0 := 0) rfl rfl) rfl hl.1 rfl (Nat.le_of_ble_eq_true rfl) dX12_chance_153 ⟨Nat.zero_le _, Nat.zero_le _⟩) hP hD hS hA [true, false, false, false, false, false, true] rfl rfl rfl (fun H locs hP hD hS => ?_)
      exact h_156 K78 hK78 K96 hK96 x5 x7 x9 (t1 * t0) x12 u_this_thrown u_this_facts_f u_this_pile_f r10 u_this_lacks_f H locs ls hP hD hS (lv_sub hl [1, 2, 3, 4, 5, 6, 7, 8, 0, 9] rfl) hm
  have h_118 : ∀ (K78 : Int64 → Int64 → Int32 → Int32 → (Nat → Int32) → (Nat → Int32) → (Nat → Int32) → (Nat → Int32) → Option (Int32 × Int32 × (Nat → Int32) × (Nat → Int32) × (Nat → Int32) × (Nat → Int32))) (hK78 : ∀ (x5 : Int64) (x7 : Int64) (x9 : Int32) (u_this_thrown : Int32) (u_this_facts_f : Nat → Int32) (u_this_pile_f : Nat → Int32) (u_this_state_f : Nat → Int32) (u_this_lacks_f : Nat → Int32) (H : Heap) (locs : List Loc) (ls : Array Slot), va_P D vwCl (wd_X12_chance k this u_this_thrown this_tape this_taped this_size this_sort this_place this_value this_at this_fault this_words this_towns this_towns_f this_op this_op_f this_arg this_arg_f this_codes this_names this_readNames this_namesMany this_readMany this_once this_lines this_facts u_this_facts_f this_pile u_this_pile_f this_state u_this_state_f this_undos this_isMarked this_weight this_rounding this_lacks u_this_lacks_f this_alikes this_g) H → va_D A (wd_X12_chance k this u_this_thrown this_tape this_taped this_size this_sort this_place this_value this_at this_fault this_words this_towns this_towns_f this_op this_op_f this_arg this_arg_f this_codes this_names this_readNames this_namesMany this_readMany this_once this_lines this_facts u_this_facts_f this_pile u_this_pile_f this_state u_this_state_f this_undos this_isMarked this_weight this_rounding this_lacks u_this_lacks_f this_alikes this_g) → va_S A s.heap H locs → lv_has ls 14 [(0, .ref this), (1, .int q1), (2, .int q2), (3, .int q3), (4, .int q4), (5, .long x5), (7, .long x7), (9, .int x9)] → K78 x5 x7 x9 u_this_thrown u_this_facts_f u_this_pile_f u_this_state_f u_this_lacks_f = some R0 → W p l e (Rm 5 117) s m args below meth c H locs 0 0 (MQ below (QW D (some (.int R0.1)) (wd_X12_chance k this this_thrown this_tape this_taped this_size this_sort this_place this_value this_at this_fault this_words this_towns this_towns_f this_op this_op_f this_arg this_arg_f this_codes this_names this_readNames this_namesMany this_readMany this_once this_lines this_facts this_facts_f this_pile this_pile_f this_state this_state_f this_undos this_isMarked this_weight this_rounding this_lacks this_lacks_f this_alikes this_g) (wd_X12_chance k this R0.2.1 this_tape this_taped this_size this_sort this_place this_value this_at this_fault this_words this_towns this_towns_f this_op this_op_f this_arg this_arg_f this_codes this_names this_readNames this_namesMany this_readMany this_once this_lines this_facts R0.2.2.1 this_pile R0.2.2.2.1 this_state R0.2.2.2.2.1 this_undos this_isMarked this_weight this_rounding this_lacks R0.2.2.2.2.2 this_alikes this_g) s.heap.size) args s 0 0 A) (F0 m 78 ls [])) (K96 : Int64 → Int64 → Int32 → Int64 → Int32 → Int32 → (Nat → Int32) → (Nat → Int32) → (Nat → Int32) → (Nat → Int32) → Option (Int32 × Int32 × (Nat → Int32) × (Nat → Int32) × (Nat → Int32) × (Nat → Int32))) (hK96 : ∀ (x5 : Int64) (x7 : Int64) (x9 : Int32) (x10 : Int64) (x12 : Int32) (u_this_thrown : Int32) (u_this_facts_f : Nat → Int32) (u_this_pile_f : Nat → Int32) (u_this_state_f : Nat → Int32) (u_this_lacks_f : Nat → Int32) (H : Heap) (locs : List Loc) (ls : Array Slot), va_P D vwCl (wd_X12_chance k this u_this_thrown this_tape this_taped this_size this_sort this_place this_value this_at this_fault this_words this_towns this_towns_f this_op this_op_f this_arg this_arg_f this_codes this_names this_readNames this_namesMany this_readMany this_once this_lines this_facts u_this_facts_f this_pile u_this_pile_f this_state u_this_state_f this_undos this_isMarked this_weight this_rounding this_lacks u_this_lacks_f this_alikes this_g) H → va_D A (wd_X12_chance k this u_this_thrown this_tape this_taped this_size this_sort this_place this_value this_at this_fault this_words this_towns this_towns_f this_op this_op_f this_arg this_arg_f this_codes this_names this_readNames this_namesMany this_readMany this_once this_lines this_facts u_this_facts_f this_pile u_this_pile_f this_state u_this_state_f this_undos this_isMarked this_weight this_rounding this_lacks u_this_lacks_f this_alikes this_g) → va_S A s.heap H locs → lv_has ls 14 [(0, .ref this), (1, .int q1), (2, .int q2), (3, .int q3), (4, .int q4), (5, .long x5), (7, .long x7), (9, .int x9), (10, .long x10), (12, .int x12)] → K96 x5 x7 x9 x10 x12 u_this_thrown u_this_facts_f u_this_pile_f u_this_state_f u_this_lacks_f = some R0 → W p l e (Rm 5 117) s m args below meth c H locs 0 0 (MQ below (QW D (some (.int R0.1)) (wd_X12_chance k this this_thrown this_tape this_taped this_size this_sort this_place this_value this_at this_fault this_words this_towns this_towns_f this_op this_op_f this_arg this_arg_f this_codes this_names this_readNames this_namesMany this_readMany this_once this_lines this_facts this_facts_f this_pile this_pile_f this_state this_state_f this_undos this_isMarked this_weight this_rounding this_lacks this_lacks_f this_alikes this_g) (wd_X12_chance k this R0.2.1 this_tape this_taped this_size this_sort this_place this_value this_at this_fault this_words this_towns this_towns_f this_op this_op_f this_arg this_arg_f this_codes this_names this_readNames this_namesMany this_readMany this_once this_lines this_facts R0.2.2.1 this_pile R0.2.2.2.1 this_state R0.2.2.2.2.1 this_undos this_isMarked this_weight this_rounding this_lacks R0.2.2.2.2.2 this_alikes this_g) s.heap.size) args s 0 0 A) (F0 m 96 ls [])), ∀ (x5 : Int64) (x7 : Int64) (x9 : Int32) (x10 : Int64) (x12 : Int32) (t0 : Int32) (u_this_thrown : Int32) (u_this_facts_f : Nat → Int32) (u_this_pile_f : Nat → Int32) (u_this_state_f : Nat → Int32) (u_this_lacks_f : Nat → Int32) (H : Heap) (locs : List Loc) (ls : Array Slot), va_P D vwCl (wd_X12_chance k this u_this_thrown this_tape this_taped this_size this_sort this_place this_value this_at this_fault this_words this_towns this_towns_f this_op this_op_f this_arg this_arg_f this_codes this_names this_readNames this_namesMany this_readMany this_once this_lines this_facts u_this_facts_f this_pile u_this_pile_f this_state u_this_state_f this_undos this_isMarked this_weight this_rounding this_lacks u_this_lacks_f this_alikes this_g) H → va_D A (wd_X12_chance k this u_this_thrown this_tape this_taped this_size this_sort this_place this_value this_at this_fault this_words this_towns this_towns_f this_op this_op_f this_arg this_arg_f this_codes this_names this_readNames this_namesMany this_readMany this_once this_lines this_facts u_this_facts_f this_pile u_this_pile_f this_state u_this_state_f this_undos this_isMarked this_weight this_rounding this_lacks u_this_lacks_f this_alikes this_g) → va_S A s.heap H locs → lv_has ls 14 [(0, .ref this), (1, .int q1), (2, .int q2), (3, .int q3), (4, .int q4), (5, .long x5), (7, .long x7), (9, .int x9), (10, .long x10), (12, .int x12)] → m_X12_chance_118 this_towns_f this_op_f this_arg_f this_weight this_rounding q1 q2 q3 q4 K78 K96 x5 x7 x9 x10 x12 t0 u_this_thrown u_this_facts_f u_this_pile_f u_this_state_f u_this_lacks_f = some R0 → W p l e (Rm 5 117) s m args below meth c H locs 0 0 (MQ below (QW D (some (.int R0.1)) (wd_X12_chance k this this_thrown this_tape this_taped this_size this_sort this_place this_value this_at this_fault this_words this_towns this_towns_f this_op this_op_f this_arg this_arg_f this_codes this_names this_readNames this_namesMany this_readMany this_once this_lines this_facts this_facts_f this_pile this_pile_f this_state this_state_f this_undos this_isMarked this_weight this_rounding this_lacks this_lacks_f this_alikes this_g) (wd_X12_chance k this R0.2.1 this_tape this_taped this_size this_sort this_place this_value this_at this_fault this_words this_towns this_towns_f this_op this_op_f this_arg this_arg_f this_codes this_names this_readNames this_namesMany this_readMany this_once this_lines this_facts R0.2.2.1 this_pile R0.2.2.2.1 this_state R0.2.2.2.2.1 this_undos this_isMarked this_weight this_rounding this_lacks R0.2.2.2.2.2 this_alikes this_g) s.heap.size) args s 0 0 A) (F0 m 118 ls [.int t0]) := by
    intro K78 hK78 K96 hK96 x5 x7 x9 x10 x12 t0 u_this_thrown u_this_facts_f u_this_pile_f u_this_state_f u_this_lacks_f H locs ls hP hD hS hl hm
    unfold m_X12_chance_118 at hm
    refine lv_istore (lv' := [(13, .int t0), (0, .ref this), (1, .int q1), (2, .int q2), (3, .int q3), (4, .int q4), (5, .long x5), (7, .long x7), (9, .int x9), (10, .long x10), (12, .int x12)]) (pc := 118) hx hb dX12_chance_118 hl (Nat.le_of_ble_eq_true rfl) rfl (fun ls hl => ?_)
    refine lv_lload (pc := 120) hx hb dX12_chance_120 (lv_at hl 9 rfl) ?_
    refine lv_iload (pc := 122) hx hb dX12_chance_122 (lv_at hl 0 rfl) ?_
    refine lv_if_eq (tgt := 133) (pc := 124) hx hb dX12_chance_124 (by decide) (fun hc => ?_) (fun hc => ?_)
    · rw [if_pos hc] at hm
      refine lv_bipush (v := 10) (pc := 133) hx hb dX12_chance_133 (by decide) ?_
      refine lv_iload (pc := 135) hx hb dX12_chance_135 (lv_at hl 5 rfl) ?_
      refine lv_isub (pc := 137) hx hb dX12_chance_137 ?_
      refine lv_i2l (pc := 138) hx hb dX12_chance_138 rfl ?_
      exact h_139 K78 hK78 K96 hK96 x5 x7 x9 x12 t0 ((10 - q4).toInt64) x10 u_this_thrown u_this_facts_f u_this_pile_f u_this_state_f u_this_lacks_f H locs ls hP hD hS (lv_sub hl [1, 2, 3, 4, 5, 6, 7, 8, 10, 0] rfl) hm
    · rw [if_neg hc] at hm
      refine lv_iload (pc := 127) hx hb dX12_chance_127 (lv_at hl 5 rfl) ?_
      refine lv_i2l (pc := 129) hx hb dX12_chance_129 rfl ?_
      refine lv_goto (tgt := 139) (pc := 130) hx hb dX12_chance_130 (by decide) ?_
      exact h_139 K78 hK78 K96 hK96 x5 x7 x9 x12 t0 q4.toInt64 x10 u_this_thrown u_this_facts_f u_this_pile_f u_this_state_f u_this_lacks_f H locs ls hP hD hS (lv_sub hl [1, 2, 3, 4, 5, 6, 7, 8, 10, 0] rfl) hm
  have h_96 : ∀ (K78 : Int64 → Int64 → Int32 → Int32 → (Nat → Int32) → (Nat → Int32) → (Nat → Int32) → (Nat → Int32) → Option (Int32 × Int32 × (Nat → Int32) × (Nat → Int32) × (Nat → Int32) × (Nat → Int32))) (hK78 : ∀ (x5 : Int64) (x7 : Int64) (x9 : Int32) (u_this_thrown : Int32) (u_this_facts_f : Nat → Int32) (u_this_pile_f : Nat → Int32) (u_this_state_f : Nat → Int32) (u_this_lacks_f : Nat → Int32) (H : Heap) (locs : List Loc) (ls : Array Slot), va_P D vwCl (wd_X12_chance k this u_this_thrown this_tape this_taped this_size this_sort this_place this_value this_at this_fault this_words this_towns this_towns_f this_op this_op_f this_arg this_arg_f this_codes this_names this_readNames this_namesMany this_readMany this_once this_lines this_facts u_this_facts_f this_pile u_this_pile_f this_state u_this_state_f this_undos this_isMarked this_weight this_rounding this_lacks u_this_lacks_f this_alikes this_g) H → va_D A (wd_X12_chance k this u_this_thrown this_tape this_taped this_size this_sort this_place this_value this_at this_fault this_words this_towns this_towns_f this_op this_op_f this_arg this_arg_f this_codes this_names this_readNames this_namesMany this_readMany this_once this_lines this_facts u_this_facts_f this_pile u_this_pile_f this_state u_this_state_f this_undos this_isMarked this_weight this_rounding this_lacks u_this_lacks_f this_alikes this_g) → va_S A s.heap H locs → lv_has ls 14 [(0, .ref this), (1, .int q1), (2, .int q2), (3, .int q3), (4, .int q4), (5, .long x5), (7, .long x7), (9, .int x9)] → K78 x5 x7 x9 u_this_thrown u_this_facts_f u_this_pile_f u_this_state_f u_this_lacks_f = some R0 → W p l e (Rm 5 117) s m args below meth c H locs 0 0 (MQ below (QW D (some (.int R0.1)) (wd_X12_chance k this this_thrown this_tape this_taped this_size this_sort this_place this_value this_at this_fault this_words this_towns this_towns_f this_op this_op_f this_arg this_arg_f this_codes this_names this_readNames this_namesMany this_readMany this_once this_lines this_facts this_facts_f this_pile this_pile_f this_state this_state_f this_undos this_isMarked this_weight this_rounding this_lacks this_lacks_f this_alikes this_g) (wd_X12_chance k this R0.2.1 this_tape this_taped this_size this_sort this_place this_value this_at this_fault this_words this_towns this_towns_f this_op this_op_f this_arg this_arg_f this_codes this_names this_readNames this_namesMany this_readMany this_once this_lines this_facts R0.2.2.1 this_pile R0.2.2.2.1 this_state R0.2.2.2.2.1 this_undos this_isMarked this_weight this_rounding this_lacks R0.2.2.2.2.2 this_alikes this_g) s.heap.size) args s 0 0 A) (F0 m 78 ls [])), ∀ (n : Nat), ∀ (x5 : Int64) (x7 : Int64) (x9 : Int32) (x10 : Int64) (x12 : Int32) (u_this_thrown : Int32) (u_this_facts_f : Nat → Int32) (u_this_pile_f : Nat → Int32) (u_this_state_f : Nat → Int32) (u_this_lacks_f : Nat → Int32) (H : Heap) (locs : List Loc) (ls : Array Slot), va_P D vwCl (wd_X12_chance k this u_this_thrown this_tape this_taped this_size this_sort this_place this_value this_at this_fault this_words this_towns this_towns_f this_op this_op_f this_arg this_arg_f this_codes this_names this_readNames this_namesMany this_readMany this_once this_lines this_facts u_this_facts_f this_pile u_this_pile_f this_state u_this_state_f this_undos this_isMarked this_weight this_rounding this_lacks u_this_lacks_f this_alikes this_g) H → va_D A (wd_X12_chance k this u_this_thrown this_tape this_taped this_size this_sort this_place this_value this_at this_fault this_words this_towns this_towns_f this_op this_op_f this_arg this_arg_f this_codes this_names this_readNames this_namesMany this_readMany this_once this_lines this_facts u_this_facts_f this_pile u_this_pile_f this_state u_this_state_f this_undos this_isMarked this_weight this_rounding this_lacks u_this_lacks_f this_alikes this_g) → va_S A s.heap H locs → lv_has ls 14 [(0, .ref this), (1, .int q1), (2, .int q2), (3, .int q3), (4, .int q4), (5, .long x5), (7, .long x7), (9, .int x9), (10, .long x10), (12, .int x12)] → m_X12_chance_96 this_towns_f this_op_f this_arg_f this_weight this_rounding q1 q2 q3 q4 K78 n x5 x7 x9 x10 x12 u_this_thrown u_this_facts_f u_this_pile_f u_this_state_f u_this_lacks_f = some R0 → W p l e (Rm 5 117) s m args below meth c H locs 0 0 (MQ below (QW D (some (.int R0.1)) (wd_X12_chance k this this_thrown this_tape this_taped this_size this_sort this_place this_value this_at this_fault this_words this_towns this_towns_f this_op this_op_f this_arg this_arg_f this_codes this_names this_readNames this_namesMany this_readMany this_once this_lines this_facts this_facts_f this_pile this_pile_f this_state this_state_f this_undos this_isMarked this_weight this_rounding this_lacks this_lacks_f this_alikes this_g) (wd_X12_chance k this R0.2.1 this_tape this_taped this_size this_sort this_place this_value this_at this_fault this_words this_towns this_towns_f this_op this_op_f this_arg this_arg_f this_codes this_names this_readNames this_namesMany this_readMany this_once this_lines this_facts R0.2.2.1 this_pile R0.2.2.2.1 this_state R0.2.2.2.2.1 this_undos this_isMarked this_weight this_rounding this_lacks R0.2.2.2.2.2 this_alikes this_g) s.heap.size) args s 0 0 A) (F0 m 96 ls []) := by
    intro K78 hK78
    intro n
    induction n with
    | zero => intro x5 x7 x9 x10 x12 u_this_thrown u_this_facts_f u_this_pile_f u_this_state_f u_this_lacks_f H locs ls hP hD hS hl hm; cases hm
    | succ n ih =>
      intro x5 x7 x9 x10 x12 u_this_thrown u_this_facts_f u_this_pile_f u_this_state_f u_this_lacks_f H locs ls hP hD hS hl hm
      unfold m_X12_chance_96 at hm
      refine lv_iload (pc := 96) hx hb dX12_chance_96 (lv_at hl 9 rfl) ?_
      refine lv_iload_n (pc := 98) hx hb dX12_chance_98 rfl (lv_at hl 3 rfl) ?_
      refine lv_icmp_ge (tgt := 170) (pc := 99) hx hb dX12_chance_99 (by decide) (fun hc => ?_) (fun hc => ?_)
      · rw [if_pos hc] at hm
        refine lv_lload (pc := 170) hx hb dX12_chance_170 (lv_at hl 6 rfl) ?_
        refine lv_aload_n (pc := 172) hx hb dX12_chance_172 rfl (lv_at hl 0 rfl) ?_
        refine lv_sipush (v := 1008) (pc := 173) hx hb dX12_chance_173 (by decide) ?_
        obtain ⟨r11, hcl, hm⟩ := bd hm
        refine cr_back (run_V (pc := 176) (n := 1) (As := [.int 1008]) (rest := [.long x7]) ⟨hx, hb, hml, hown, hts⟩ (c_X12_highOf l D k this u_this_thrown this_tape this_taped this_size this_sort this_place this_value this_at this_fault this_words this_towns this_towns_f this_op this_arg this_codes this_names this_readNames this_namesMany this_readMany this_once this_lines this_facts this_pile this_state u_this_state_f this_undos this_isMarked this_weight this_rounding this_lacks this_alikes this_g 1008 r11 hcl) ⟨kw_1475, kw_16, by decide +kernel⟩ kw_1472 kw_1474 ks_123 ⟨Nat.le_of_ble_eq_true rfl, Nat.le_of_ble_eq_true rfl⟩ pr_blind (prR (hP.sub [0, 1, 6] rfl) hG) (va_recv hG.1 hP (ci := 10) (q0 := 0) rfl rfl) rfl hl.1 rfl (Nat.le_of_ble_eq_true rfl) dX12_chance_176 ⟨Nat.zero_le _, Nat.zero_le _⟩) ?_
        refine lv_iload_n (pc := 179) hx hb dX12_chance_179 rfl (lv_at hl 2 rfl) ?_
        refine lv_icmp_ge (tgt := 188) (pc := 180) hx hb dX12_chance_180 (by decide) (fun hc => ?_) (fun hc => ?_)
        · rw [if_pos hc] at hm
          refine lv_lconst (v := 0) (pc := 188) hx hb dX12_chance_188 (by decide) ?_
          refine lv_ladd (pc := 189) hx hb dX12_chance_189 ?_
          refine lv_lstore (lv' := [(7, .long (x7 + 0)), (0, .ref this), (1, .int q1), (2, .int q2), (3, .int q3), (4, .int q4), (5, .long x5), (9, .int x9), (10, .long x10), (12, .int x12)]) (pc := 190) hx hb dX12_chance_190 hl (Nat.le_of_ble_eq_true rfl) rfl (fun ls hl => ?_)
          refine lv_iinc (k := 7) (v := x9 + 1) (lv' := [(9, .int (x9 + 1)), (7, .long (x7 + 0)), (0, .ref this), (1, .int q1), (2, .int q2), (3, .int q3), (4, .int q4), (5, .long x5), (10, .long x10), (12, .int x12)]) (pc := 192) hx hb dX12_chance_192 hl rfl rfl (Nat.le_of_ble_eq_true rfl) rfl (fun ls hl => ?_)
          refine lv_goto (tgt := 78) (pc := 195) hx hb dX12_chance_195 (by decide) ?_
          exact hK78 x5 (x7 + 0) (x9 + 1) u_this_thrown u_this_facts_f u_this_pile_f u_this_state_f u_this_lacks_f H locs ls hP hD hS (lv_sub hl [2, 3, 4, 5, 6, 7, 1, 0] rfl) hm
        · rw [if_neg hc] at hm
          refine lv_lload (pc := 183) hx hb dX12_chance_183 (lv_at hl 8 rfl) ?_
          refine lv_goto (tgt := 189) (pc := 185) hx hb dX12_chance_185 (by decide) ?_
          refine lv_ladd (pc := 189) hx hb dX12_chance_189 ?_
          refine lv_lstore (lv' := [(7, .long (x7 + x10)), (0, .ref this), (1, .int q1), (2, .int q2), (3, .int q3), (4, .int q4), (5, .long x5), (9, .int x9), (10, .long x10), (12, .int x12)]) (pc := 190) hx hb dX12_chance_190 hl (Nat.le_of_ble_eq_true rfl) rfl (fun ls hl => ?_)
          refine lv_iinc (k := 7) (v := x9 + 1) (lv' := [(9, .int (x9 + 1)), (7, .long (x7 + x10)), (0, .ref this), (1, .int q1), (2, .int q2), (3, .int q3), (4, .int q4), (5, .long x5), (10, .long x10), (12, .int x12)]) (pc := 192) hx hb dX12_chance_192 hl rfl rfl (Nat.le_of_ble_eq_true rfl) rfl (fun ls hl => ?_)
          refine lv_goto (tgt := 78) (pc := 195) hx hb dX12_chance_195 (by decide) ?_
          exact hK78 x5 (x7 + x10) (x9 + 1) u_this_thrown u_this_facts_f u_this_pile_f u_this_state_f u_this_lacks_f H locs ls hP hD hS (lv_sub hl [2, 3, 4, 5, 6, 7, 1, 0] rfl) hm
      · rw [if_neg hc] at hm
        refine lv_iload (pc := 102) hx hb dX12_chance_102 (lv_at hl 7 rfl) ?_
        refine lv_iload (pc := 104) hx hb dX12_chance_104 (lv_at hl 9 rfl) ?_
        refine lv_ishr (pc := 106) hx hb dX12_chance_106 ?_
        refine lv_iconst (v := 1) (pc := 107) hx hb dX12_chance_107 (by decide) ?_
        refine lv_iand (pc := 108) hx hb dX12_chance_108 ?_
        refine lv_iconst (v := 1) (pc := 109) hx hb dX12_chance_109 (by decide) ?_
        refine lv_icmp_ne (tgt := 117) (pc := 110) hx hb dX12_chance_110 (by decide) (fun hc => ?_) (fun hc => ?_)
        · rw [if_neg hc] at hm
          refine lv_iconst (v := 0) (pc := 117) hx hb dX12_chance_117 (by decide) ?_
          exact h_118 K78 hK78 (m_X12_chance_96 this_towns_f this_op_f this_arg_f this_weight this_rounding q1 q2 q3 q4 K78 n) ih x5 x7 x9 x10 x12 0 u_this_thrown u_this_facts_f u_this_pile_f u_this_state_f u_this_lacks_f H locs ls hP hD hS (lv_sub hl [0, 1, 2, 3, 4, 5, 6, 7, 8, 9] rfl) hm
        · rw [if_pos hc] at hm
          refine lv_iconst (v := 1) (pc := 113) hx hb dX12_chance_113 (by decide) ?_
          refine lv_goto (tgt := 118) (pc := 114) hx hb dX12_chance_114 (by decide) ?_
          exact h_118 K78 hK78 (m_X12_chance_96 this_towns_f this_op_f this_arg_f this_weight this_rounding q1 q2 q3 q4 K78 n) ih x5 x7 x9 x10 x12 1 u_this_thrown u_this_facts_f u_this_pile_f u_this_state_f u_this_lacks_f H locs ls hP hD hS (lv_sub hl [0, 1, 2, 3, 4, 5, 6, 7, 8, 9] rfl) hm
  have h_78 : ∀ (n : Nat), ∀ (x5 : Int64) (x7 : Int64) (x9 : Int32) (u_this_thrown : Int32) (u_this_facts_f : Nat → Int32) (u_this_pile_f : Nat → Int32) (u_this_state_f : Nat → Int32) (u_this_lacks_f : Nat → Int32) (H : Heap) (locs : List Loc) (ls : Array Slot), va_P D vwCl (wd_X12_chance k this u_this_thrown this_tape this_taped this_size this_sort this_place this_value this_at this_fault this_words this_towns this_towns_f this_op this_op_f this_arg this_arg_f this_codes this_names this_readNames this_namesMany this_readMany this_once this_lines this_facts u_this_facts_f this_pile u_this_pile_f this_state u_this_state_f this_undos this_isMarked this_weight this_rounding this_lacks u_this_lacks_f this_alikes this_g) H → va_D A (wd_X12_chance k this u_this_thrown this_tape this_taped this_size this_sort this_place this_value this_at this_fault this_words this_towns this_towns_f this_op this_op_f this_arg this_arg_f this_codes this_names this_readNames this_namesMany this_readMany this_once this_lines this_facts u_this_facts_f this_pile u_this_pile_f this_state u_this_state_f this_undos this_isMarked this_weight this_rounding this_lacks u_this_lacks_f this_alikes this_g) → va_S A s.heap H locs → lv_has ls 14 [(0, .ref this), (1, .int q1), (2, .int q2), (3, .int q3), (4, .int q4), (5, .long x5), (7, .long x7), (9, .int x9)] → m_X12_chance_78 this_towns_f this_op_f this_arg_f this_weight this_rounding q1 q2 q3 q4 n x5 x7 x9 u_this_thrown u_this_facts_f u_this_pile_f u_this_state_f u_this_lacks_f = some R0 → W p l e (Rm 5 117) s m args below meth c H locs 0 0 (MQ below (QW D (some (.int R0.1)) (wd_X12_chance k this this_thrown this_tape this_taped this_size this_sort this_place this_value this_at this_fault this_words this_towns this_towns_f this_op this_op_f this_arg this_arg_f this_codes this_names this_readNames this_namesMany this_readMany this_once this_lines this_facts this_facts_f this_pile this_pile_f this_state this_state_f this_undos this_isMarked this_weight this_rounding this_lacks this_lacks_f this_alikes this_g) (wd_X12_chance k this R0.2.1 this_tape this_taped this_size this_sort this_place this_value this_at this_fault this_words this_towns this_towns_f this_op this_op_f this_arg this_arg_f this_codes this_names this_readNames this_namesMany this_readMany this_once this_lines this_facts R0.2.2.1 this_pile R0.2.2.2.1 this_state R0.2.2.2.2.1 this_undos this_isMarked this_weight this_rounding this_lacks R0.2.2.2.2.2 this_alikes this_g) s.heap.size) args s 0 0 A) (F0 m 78 ls []) := by
    intro n
    induction n with
    | zero => intro x5 x7 x9 u_this_thrown u_this_facts_f u_this_pile_f u_this_state_f u_this_lacks_f H locs ls hP hD hS hl hm; cases hm
    | succ n ih =>
      intro x5 x7 x9 u_this_thrown u_this_facts_f u_this_pile_f u_this_state_f u_this_lacks_f H locs ls hP hD hS hl hm
      unfold m_X12_chance_78 at hm
      refine lv_iload (pc := 78) hx hb dX12_chance_78 (lv_at hl 7 rfl) ?_
      refine lv_iconst (v := 1) (pc := 80) hx hb dX12_chance_80 (by decide) ?_
      refine lv_iload_n (pc := 81) hx hb dX12_chance_81 rfl (lv_at hl 3 rfl) ?_
      refine lv_ishl (pc := 82) hx hb dX12_chance_82 ?_
      refine lv_icmp_ge (tgt := 198) (pc := 83) hx hb dX12_chance_83 (by decide) (fun hc => ?_) (fun hc => ?_)
      · rw [if_pos hc] at hm
        refine lv_lload (pc := 198) hx hb dX12_chance_198 (lv_at hl 6 rfl) ?_
        refine lv_ldc2 (pc := 200) (own := RX12) hx hb hown (hts _ kw_1716) dX12_chance_200 ?_
        refine lv_lmul (pc := 203) hx hb dX12_chance_203 ?_
        refine lv_lload (pc := 204) hx hb dX12_chance_204 (lv_at hl 5 rfl) ?_
        obtain ⟨hnz, hm⟩ := gd hm
        refine lv_ldiv (pc := 206) hx hb dX12_chance_206 hnz ?_
        refine lv_l2i (pc := 207) hx hb dX12_chance_207 rfl ?_
        rw [← Option.some.inj hm]
        exact W.iret hx hb hr (fun t ht _ => hq _ _ H t ht hP hD locs hS) hS.2.2 dX12_chance_208 hlocks
      · rw [if_neg hc] at hm
        refine lv_aload_n (pc := 86) hx hb dX12_chance_86 rfl (lv_at hl 0 rfl) ?_
        obtain ⟨r12, hcl, hm⟩ := bd hm
        refine cw_mask (ws' := (wd_X12_chance k this u_this_thrown this_tape this_taped this_size this_sort this_place this_value this_at this_fault this_words this_towns this_towns_f this_op this_op_f this_arg this_arg_f this_codes this_names this_readNames this_namesMany this_readMany this_once this_lines this_facts u_this_facts_f this_pile u_this_pile_f this_state r12 this_undos this_isMarked this_weight this_rounding this_lacks u_this_lacks_f this_alikes this_g)) (run_V (pc := 87) (n := 0) (As := []) (rest := []) ⟨hx, hb, hml, hown, hts⟩ ((c_X12_triesNow l D k this u_this_thrown this_tape this_taped this_size this_sort this_place this_value this_at this_fault this_words this_towns this_op this_arg this_codes this_names this_readNames this_namesMany this_readMany this_once this_lines this_facts this_pile this_state u_this_state_f this_undos this_isMarked this_weight this_rounding this_lacks this_alikes this_g r12 hcl) H.size) ⟨kw_1564, kw_16, by decide +kernel⟩ kw_1561 kw_1563 ks_134 ⟨Nat.le_of_ble_eq_true rfl, Nat.le_of_ble_eq_true rfl⟩ pw_blind (prW (P_pick [true, false, false, false, false, false, true] rfl hP) hG (D_pick [true, false, false, false, false, false, true] rfl hD)) (va_recv hG.1 hP (ci := 10) (q0 := 0) rfl rfl) rfl hl.1 rfl (Nat.le_of_ble_eq_true rfl) dX12_chance_87 ⟨Nat.zero_le _, Nat.zero_le _⟩) hP hD hS hA [true, false, false, false, false, false, true] rfl rfl rfl (fun H locs hP hD hS => ?_)
        refine lv_lconst (v := 1) (pc := 90) hx hb dX12_chance_90 (by decide) ?_
        refine lv_lstore (lv' := [(10, .long 1), (0, .ref this), (1, .int q1), (2, .int q2), (3, .int q3), (4, .int q4), (5, .long x5), (7, .long x7), (9, .int x9)]) (pc := 91) hx hb dX12_chance_91 hl (Nat.le_of_ble_eq_true rfl) rfl (fun ls hl => ?_)
        refine lv_iconst (v := 0) (pc := 93) hx hb dX12_chance_93 (by decide) ?_
        refine lv_istore (lv' := [(12, .int 0), (10, .long 1), (0, .ref this), (1, .int q1), (2, .int q2), (3, .int q3), (4, .int q4), (5, .long x5), (7, .long x7), (9, .int x9)]) (pc := 94) hx hb dX12_chance_94 hl (Nat.le_of_ble_eq_true rfl) rfl (fun ls hl => ?_)
        exact h_96 (m_X12_chance_78 this_towns_f this_op_f this_arg_f this_weight this_rounding q1 q2 q3 q4 n) ih FU x5 x7 x9 1 0 u_this_thrown u_this_facts_f u_this_pile_f r12 u_this_lacks_f H locs ls hP hD hS (lv_sub hl [2, 3, 4, 5, 6, 7, 8, 9, 1, 0] rfl) hm
  have h_55 : ∀ (n : Nat), ∀ (x5 : Int64) (x7 : Int64) (x9 : Int32) (u_this_thrown : Int32) (u_this_facts_f : Nat → Int32) (u_this_pile_f : Nat → Int32) (u_this_state_f : Nat → Int32) (u_this_lacks_f : Nat → Int32) (H : Heap) (locs : List Loc) (ls : Array Slot), va_P D vwCl (wd_X12_chance k this u_this_thrown this_tape this_taped this_size this_sort this_place this_value this_at this_fault this_words this_towns this_towns_f this_op this_op_f this_arg this_arg_f this_codes this_names this_readNames this_namesMany this_readMany this_once this_lines this_facts u_this_facts_f this_pile u_this_pile_f this_state u_this_state_f this_undos this_isMarked this_weight this_rounding this_lacks u_this_lacks_f this_alikes this_g) H → va_D A (wd_X12_chance k this u_this_thrown this_tape this_taped this_size this_sort this_place this_value this_at this_fault this_words this_towns this_towns_f this_op this_op_f this_arg this_arg_f this_codes this_names this_readNames this_namesMany this_readMany this_once this_lines this_facts u_this_facts_f this_pile u_this_pile_f this_state u_this_state_f this_undos this_isMarked this_weight this_rounding this_lacks u_this_lacks_f this_alikes this_g) → va_S A s.heap H locs → lv_has ls 14 [(0, .ref this), (1, .int q1), (2, .int q2), (3, .int q3), (4, .int q4), (5, .long x5), (7, .long x7), (9, .int x9)] → m_X12_chance_55 this_towns_f this_op_f this_arg_f this_weight this_rounding q1 q2 q3 q4 n x5 x7 x9 u_this_thrown u_this_facts_f u_this_pile_f u_this_state_f u_this_lacks_f = some R0 → W p l e (Rm 5 117) s m args below meth c H locs 0 0 (MQ below (QW D (some (.int R0.1)) (wd_X12_chance k this this_thrown this_tape this_taped this_size this_sort this_place this_value this_at this_fault this_words this_towns this_towns_f this_op this_op_f this_arg this_arg_f this_codes this_names this_readNames this_namesMany this_readMany this_once this_lines this_facts this_facts_f this_pile this_pile_f this_state this_state_f this_undos this_isMarked this_weight this_rounding this_lacks this_lacks_f this_alikes this_g) (wd_X12_chance k this R0.2.1 this_tape this_taped this_size this_sort this_place this_value this_at this_fault this_words this_towns this_towns_f this_op this_op_f this_arg this_arg_f this_codes this_names this_readNames this_namesMany this_readMany this_once this_lines this_facts R0.2.2.1 this_pile R0.2.2.2.1 this_state R0.2.2.2.2.1 this_undos this_isMarked this_weight this_rounding this_lacks R0.2.2.2.2.2 this_alikes this_g) s.heap.size) args s 0 0 A) (F0 m 55 ls []) := by
    intro n
    induction n with
    | zero => intro x5 x7 x9 u_this_thrown u_this_facts_f u_this_pile_f u_this_state_f u_this_lacks_f H locs ls hP hD hS hl hm; cases hm
    | succ n ih =>
      intro x5 x7 x9 u_this_thrown u_this_facts_f u_this_pile_f u_this_state_f u_this_lacks_f H locs ls hP hD hS hl hm
      unfold m_X12_chance_55 at hm
      refine lv_iload (pc := 55) hx hb dX12_chance_55 (lv_at hl 7 rfl) ?_
      refine lv_iload_n (pc := 57) hx hb dX12_chance_57 rfl (lv_at hl 3 rfl) ?_
      refine lv_icmp_ge (tgt := 75) (pc := 58) hx hb dX12_chance_58 (by decide) (fun hc => ?_) (fun hc => ?_)
      · rw [if_pos hc] at hm
        refine lv_iconst (v := 0) (pc := 75) hx hb dX12_chance_75 (by decide) ?_
        refine lv_istore (lv' := [(9, .int 0), (0, .ref this), (1, .int q1), (2, .int q2), (3, .int q3), (4, .int q4), (5, .long x5), (7, .long x7)]) (pc := 76) hx hb dX12_chance_76 hl (Nat.le_of_ble_eq_true rfl) rfl (fun ls hl => ?_)
        exact h_78 FU x5 x7 0 u_this_thrown u_this_facts_f u_this_pile_f u_this_state_f u_this_lacks_f H locs ls hP hD hS (lv_sub hl [1, 2, 3, 4, 5, 6, 7, 0] rfl) hm
      · rw [if_neg hc] at hm
        refine lv_lload (pc := 61) hx hb dX12_chance_61 (lv_at hl 5 rfl) ?_
        refine lv_ldc2 (pc := 63) (own := RX12) hx hb hown (hts _ kw_1367) dX12_chance_63 ?_
        refine lv_lmul (pc := 66) hx hb dX12_chance_66 ?_
        refine lv_lstore (lv' := [(5, .long (x5 * 10)), (0, .ref this), (1, .int q1), (2, .int q2), (3, .int q3), (4, .int q4), (7, .long x7), (9, .int x9)]) (pc := 67) hx hb dX12_chance_67 hl (Nat.le_of_ble_eq_true rfl) rfl (fun ls hl => ?_)
        refine lv_iinc (k := 7) (v := x9 + 1) (lv' := [(9, .int (x9 + 1)), (5, .long (x5 * 10)), (0, .ref this), (1, .int q1), (2, .int q2), (3, .int q3), (4, .int q4), (7, .long x7)]) (pc := 69) hx hb dX12_chance_69 hl rfl rfl (Nat.le_of_ble_eq_true rfl) rfl (fun ls hl => ?_)
        refine lv_goto (tgt := 55) (pc := 72) hx hb dX12_chance_72 (by decide) ?_
        exact ih (x5 * 10) x7 (x9 + 1) u_this_thrown u_this_facts_f u_this_pile_f u_this_state_f u_this_lacks_f H locs ls hP hD hS (lv_sub hl [2, 3, 4, 5, 6, 1, 7, 0] rfl) hm
  unfold m_X12_chance at hm
  suffices hgo : ∀ (H : Heap) (locs : List Loc), va_P D vwCl (wd_X12_chance k this this_thrown this_tape this_taped this_size this_sort this_place this_value this_at this_fault this_words this_towns this_towns_f this_op this_op_f this_arg this_arg_f this_codes this_names this_readNames this_namesMany this_readMany this_once this_lines this_facts this_facts_f this_pile this_pile_f this_state this_state_f this_undos this_isMarked this_weight this_rounding this_lacks this_lacks_f this_alikes this_g) H → va_D A (wd_X12_chance k this this_thrown this_tape this_taped this_size this_sort this_place this_value this_at this_fault this_words this_towns this_towns_f this_op this_op_f this_arg this_arg_f this_codes this_names this_readNames this_namesMany this_readMany this_once this_lines this_facts this_facts_f this_pile this_pile_f this_state this_state_f this_undos this_isMarked this_weight this_rounding this_lacks this_lacks_f this_alikes this_g) → va_S A s.heap H locs → W p l e (Rm 5 117) s m args below meth c H locs 0 0 (MQ below (QW D (some (.int R0.1)) (wd_X12_chance k this this_thrown this_tape this_taped this_size this_sort this_place this_value this_at this_fault this_words this_towns this_towns_f this_op this_op_f this_arg this_arg_f this_codes this_names this_readNames this_namesMany this_readMany this_once this_lines this_facts this_facts_f this_pile this_pile_f this_state this_state_f this_undos this_isMarked this_weight this_rounding this_lacks this_lacks_f this_alikes this_g) (wd_X12_chance k this R0.2.1 this_tape this_taped this_size this_sort this_place this_value this_at this_fault this_words this_towns this_towns_f this_op this_op_f this_arg this_arg_f this_codes this_names this_readNames this_namesMany this_readMany this_once this_lines this_facts R0.2.2.1 this_pile R0.2.2.2.1 this_state R0.2.2.2.2.1 this_undos this_isMarked this_weight this_rounding this_lacks R0.2.2.2.2.2 this_alikes this_g) s.heap.size) args s 0 0 A) (F0 m 0 ls []) from hgo _ _ hP hD hS
  clear hP hD hS
  intro H locs hP hD hS
  refine lv_aload_n (pc := 0) hx hb dX12_chance_0 rfl (lv_at hl 0 rfl) ?_
  refine lv_iconst (v := 0) (pc := 1) hx hb dX12_chance_1 (by decide) ?_
  refine va_put (pc := 2) (D := D) (ci := 10) (v := .int 0) (ty := .int) (C := RX12) (T := TX12) (N := 30) hx hb hts hiX12 tyX12 tyX12_ok nmX12 hown hG.1 hP hD hS 0 rfl rfl 0 (Nat.le_of_ble_eq_true rfl) (hts _ kw_1257) (fun _ h9 => h9) rfl (by decide +kernel) rfl rfl (Nat.le_of_ble_eq_true rfl) dX12_chance_2 (fun H locs hP hD hS => ?_)
  have hP : va_P D vwCl (wd_X12_chance k this 0 this_tape this_taped this_size this_sort this_place this_value this_at this_fault this_words this_towns this_towns_f this_op this_op_f this_arg this_arg_f this_codes this_names this_readNames this_namesMany this_readMany this_once this_lines this_facts this_facts_f this_pile this_pile_f this_state this_state_f this_undos this_isMarked this_weight this_rounding this_lacks this_lacks_f this_alikes this_g) H := hP
  have hD : va_D A (wd_X12_chance k this 0 this_tape this_taped this_size this_sort this_place this_value this_at this_fault this_words this_towns this_towns_f this_op this_op_f this_arg this_arg_f this_codes this_names this_readNames this_namesMany this_readMany this_once this_lines this_facts this_facts_f this_pile this_pile_f this_state this_state_f this_undos this_isMarked this_weight this_rounding this_lacks this_lacks_f this_alikes this_g) := hD
  refine lv_aload_n (pc := 5) hx hb dX12_chance_5 rfl (lv_at hl 0 rfl) ?_
  refine lv_iload_n (pc := 6) hx hb dX12_chance_6 rfl (lv_at hl 1 rfl) ?_
  obtain ⟨r13, hcl, hm⟩ := bd hm
  refine cr_back (run_V (pc := 7) (n := 1) (As := [.int q1]) (rest := []) ⟨hx, hb, hml, hown, hts⟩ (c_X12_isPerson l D k this 0 this_tape this_taped this_size this_sort this_place this_value this_at this_fault this_words this_towns this_towns_f this_op this_arg this_codes this_names this_readNames this_namesMany this_readMany this_once this_lines this_facts this_pile this_state this_undos this_isMarked this_weight this_rounding this_lacks this_alikes this_g q1 r13 hcl) ⟨kw_1498, kw_16, by decide +kernel⟩ kw_1495 kw_1497 ks_127 ⟨Nat.le_of_ble_eq_true rfl, Nat.le_of_ble_eq_true rfl⟩ pr_blind (prR (hP.sub [0, 1] rfl) hG) (va_recv hG.1 hP (ci := 10) (q0 := 0) rfl rfl) rfl hl.1 rfl (Nat.le_of_ble_eq_true rfl) dX12_chance_7 ⟨Nat.zero_le _, Nat.zero_le _⟩) ?_
  refine lv_if_eq (tgt := 44) (pc := 10) hx hb dX12_chance_10 (by decide) (fun hc => ?_) (fun hc => ?_)
  · rw [if_pos hc] at hm
    refine lv_iconst (v := (-1)) (pc := 44) hx hb dX12_chance_44 (by decide) ?_
    rw [← Option.some.inj hm]
    exact W.iret hx hb hr (fun t ht _ => hq _ _ H t ht hP hD locs hS) hS.2.2 dX12_chance_45 hlocks
  · rw [if_neg hc] at hm
    refine lv_iload_n (pc := 13) hx hb dX12_chance_13 rfl (lv_at hl 2 rfl) ?_
    refine lv_iconst (v := 1) (pc := 14) hx hb dX12_chance_14 (by decide) ?_
    refine lv_bipush (v := 99) (pc := 15) hx hb dX12_chance_15 (by decide) ?_
    obtain ⟨r14, hcl, hm⟩ := bd hm
    refine cr_back (run_S (pc := 17) (n := 3) (As := [.int q2, .int 1, .int 99]) (rest := []) ⟨hx, hb, hml, hown, hts⟩ (c_X12_within l D k q2 1 99 r14 hcl) ⟨kw_1501, kw_16, by decide +kernel⟩ kw_1499 kw_1500 ⟨Nat.le_of_ble_eq_true rfl, Nat.le_of_ble_eq_true rfl⟩ pr_blind (prR (hP.sub [] rfl) hG) rfl hl.1 rfl (Nat.le_of_ble_eq_true rfl) dX12_chance_17 ⟨Nat.zero_le _, Nat.zero_le _⟩) ?_
    refine lv_if_eq (tgt := 44) (pc := 20) hx hb dX12_chance_20 (by decide) (fun hc => ?_) (fun hc => ?_)
    · rw [if_pos hc] at hm
      refine lv_iconst (v := (-1)) (pc := 44) hx hb dX12_chance_44 (by decide) ?_
      rw [← Option.some.inj hm]
      exact W.iret hx hb hr (fun t ht _ => hq _ _ H t ht hP hD locs hS) hS.2.2 dX12_chance_45 hlocks
    · rw [if_neg hc] at hm
      refine lv_iload_n (pc := 23) hx hb dX12_chance_23 rfl (lv_at hl 3 rfl) ?_
      refine lv_iconst (v := 1) (pc := 24) hx hb dX12_chance_24 (by decide) ?_
      refine lv_bipush (v := 6) (pc := 25) hx hb dX12_chance_25 (by decide) ?_
      obtain ⟨r15, hcl, hm⟩ := bd hm
      refine cr_back (run_S (pc := 27) (n := 3) (As := [.int q3, .int 1, .int 6]) (rest := []) ⟨hx, hb, hml, hown, hts⟩ (c_X12_within l D k q3 1 6 r15 hcl) ⟨kw_1501, kw_16, by decide +kernel⟩ kw_1499 kw_1500 ⟨Nat.le_of_ble_eq_true rfl, Nat.le_of_ble_eq_true rfl⟩ pr_blind (prR (hP.sub [] rfl) hG) rfl hl.1 rfl (Nat.le_of_ble_eq_true rfl) dX12_chance_27 ⟨Nat.zero_le _, Nat.zero_le _⟩) ?_
      refine lv_if_eq (tgt := 44) (pc := 30) hx hb dX12_chance_30 (by decide) (fun hc => ?_) (fun hc => ?_)
      · rw [if_pos hc] at hm
        refine lv_iconst (v := (-1)) (pc := 44) hx hb dX12_chance_44 (by decide) ?_
        rw [← Option.some.inj hm]
        exact W.iret hx hb hr (fun t ht _ => hq _ _ H t ht hP hD locs hS) hS.2.2 dX12_chance_45 hlocks
      · rw [if_neg hc] at hm
        refine lv_iload (pc := 33) hx hb dX12_chance_33 (lv_at hl 4 rfl) ?_
        refine lv_iconst (v := 0) (pc := 35) hx hb dX12_chance_35 (by decide) ?_
        refine lv_bipush (v := 10) (pc := 36) hx hb dX12_chance_36 (by decide) ?_
        obtain ⟨r16, hcl, hm⟩ := bd hm
        refine cr_back (run_S (pc := 38) (n := 3) (As := [.int q4, .int 0, .int 10]) (rest := []) ⟨hx, hb, hml, hown, hts⟩ (c_X12_within l D k q4 0 10 r16 hcl) ⟨kw_1501, kw_16, by decide +kernel⟩ kw_1499 kw_1500 ⟨Nat.le_of_ble_eq_true rfl, Nat.le_of_ble_eq_true rfl⟩ pr_blind (prR (hP.sub [] rfl) hG) rfl hl.1 rfl (Nat.le_of_ble_eq_true rfl) dX12_chance_38 ⟨Nat.zero_le _, Nat.zero_le _⟩) ?_
        refine lv_if_ne (tgt := 46) (pc := 41) hx hb dX12_chance_41 (by decide) (fun hc => ?_) (fun hc => ?_)
        · rw [if_neg hc] at hm
          refine lv_lconst (v := 1) (pc := 46) hx hb dX12_chance_46 (by decide) ?_
          refine lv_lstore (lv' := [(5, .long 1), (0, .ref this), (1, .int q1), (2, .int q2), (3, .int q3), (4, .int q4)]) (pc := 47) hx hb dX12_chance_47 hl (Nat.le_of_ble_eq_true rfl) rfl (fun ls hl => ?_)
          refine lv_lconst (v := 0) (pc := 49) hx hb dX12_chance_49 (by decide) ?_
          refine lv_lstore (lv' := [(7, .long 0), (5, .long 1), (0, .ref this), (1, .int q1), (2, .int q2), (3, .int q3), (4, .int q4)]) (pc := 50) hx hb dX12_chance_50 hl (Nat.le_of_ble_eq_true rfl) rfl (fun ls hl => ?_)
          refine lv_iconst (v := 0) (pc := 52) hx hb dX12_chance_52 (by decide) ?_
          refine lv_istore (lv' := [(9, .int 0), (7, .long 0), (5, .long 1), (0, .ref this), (1, .int q1), (2, .int q2), (3, .int q3), (4, .int q4)]) (pc := 53) hx hb dX12_chance_53 hl (Nat.le_of_ble_eq_true rfl) rfl (fun ls hl => ?_)
          exact h_55 FU 1 0 0 0 this_facts_f this_pile_f this_state_f this_lacks_f H locs ls hP hD hS (lv_sub hl [3, 4, 5, 6, 7, 2, 1, 0] rfl) hm
        · rw [if_pos hc] at hm
          refine lv_iconst (v := (-1)) (pc := 44) hx hb dX12_chance_44 (by decide) ?_
          rw [← Option.some.inj hm]
          exact W.iret hx hb hr (fun t ht _ => hq _ _ H t ht hP hD locs hS) hS.2.2 dX12_chance_45 hlocks
theorem dX12_getsBy_0 : decode cX12_getsBy 0 = .ok (.iload_n 0, 1) := by decide +kernel
theorem dX12_getsBy_1 : decode cX12_getsBy 1 = .ok (.iconst 1, 1) := by decide +kernel
theorem dX12_getsBy_2 : decode cX12_getsBy 2 = .ok (.if_icmp .ne 17, 3) := by decide +kernel
theorem dX12_getsBy_5 : decode cX12_getsBy 5 = .ok (.iload_n 1, 1) := by decide +kernel
theorem dX12_getsBy_6 : decode cX12_getsBy 6 = .ok (.iconst 1, 1) := by decide +kernel
theorem dX12_getsBy_7 : decode cX12_getsBy 7 = .ok (.if_icmp .ne 7, 3) := by decide +kernel
theorem dX12_getsBy_10 : decode cX12_getsBy 10 = .ok (.iload_n 2, 1) := by decide +kernel
theorem dX12_getsBy_11 : decode cX12_getsBy 11 = .ok (.goto 19, 3) := by decide +kernel
theorem dX12_getsBy_14 : decode cX12_getsBy 14 = .ok (.iload_n 3, 1) := by decide +kernel
theorem dX12_getsBy_15 : decode cX12_getsBy 15 = .ok (.ineg, 1) := by decide +kernel
theorem dX12_getsBy_16 : decode cX12_getsBy 16 = .ok (.goto 14, 3) := by decide +kernel
theorem dX12_getsBy_19 : decode cX12_getsBy 19 = .ok (.iload_n 1, 1) := by decide +kernel
theorem dX12_getsBy_20 : decode cX12_getsBy 20 = .ok (.iconst 1, 1) := by decide +kernel
theorem dX12_getsBy_21 : decode cX12_getsBy 21 = .ok (.if_icmp .ne 8, 3) := by decide +kernel
theorem dX12_getsBy_24 : decode cX12_getsBy 24 = .ok (.iload 4, 2) := by decide +kernel
theorem dX12_getsBy_26 : decode cX12_getsBy 26 = .ok (.goto 4, 3) := by decide +kernel
theorem dX12_getsBy_29 : decode cX12_getsBy 29 = .ok (.iconst 0, 1) := by decide +kernel
theorem dX12_getsBy_30 : decode cX12_getsBy 30 = .ok (.ireturn, 1) := by decide +kernel
abbrev wd_X12_getsBy (k : Nat → ClassId) : va_W := []
set_option maxHeartbeats 4000000 in
set_option maxRecDepth 100000 in
theorem c_X12_getsBy (l : Launch) (D : va_G) (k : Nat → ClassId) (q1 : Int32) (q2 : Int32) (q3 : Int32) (q4 : Int32) (q5 : Int32) (R0 : Int32) (hm : m_X12_getsBy q1 q2 q3 q4 q5 = some R0) : CR l D (TY k) yX12_getsBy cX12_getsBy 5 (some .int) 0 0 [.int q1, .int q2, .int q3, .int q4, .int q5] (wd_X12_getsBy k ) (some (.int R0)) := by
  refine CR.mk (by decide) (Nat.le_of_ble_eq_true rfl) ?_
  intro p e s m args below meth c ls ⟨hx, hb, hr, hts, hown, hlocks, hml⟩ hP hG hl
  have hl : lv_has ls 5 [(0, .int q1), (1, .int q2), (2, .int q3), (3, .int q4), (4, .int q5)] := hl
  unfold m_X12_getsBy at hm
  refine lv_iload_n (pc := 0) hx hb dX12_getsBy_0 rfl (lv_at hl 0 rfl) ?_
  refine lv_iconst (v := 1) (pc := 1) hx hb dX12_getsBy_1 (by decide) ?_
  refine lv_icmp_ne (tgt := 19) (pc := 2) hx hb dX12_getsBy_2 (by decide) (fun hc => ?_) (fun hc => ?_)
  · rw [if_neg hc] at hm
    refine lv_iload_n (pc := 19) hx hb dX12_getsBy_19 rfl (lv_at hl 1 rfl) ?_
    refine lv_iconst (v := 1) (pc := 20) hx hb dX12_getsBy_20 (by decide) ?_
    refine lv_icmp_ne (tgt := 29) (pc := 21) hx hb dX12_getsBy_21 (by decide) (fun hc => ?_) (fun hc => ?_)
    · rw [if_neg hc] at hm
      refine lv_iconst (v := 0) (pc := 29) hx hb dX12_getsBy_29 (by decide) ?_
      rw [← Option.some.inj hm]
      exact W.iret hx hb hr (fun t ht _ => ⟨rfl, ht⟩) (fun _ h => by cases h) dX12_getsBy_30 hlocks
    · rw [if_pos hc] at hm
      refine lv_iload (pc := 24) hx hb dX12_getsBy_24 (lv_at hl 4 rfl) ?_
      refine lv_goto (tgt := 30) (pc := 26) hx hb dX12_getsBy_26 (by decide) ?_
      rw [← Option.some.inj hm]
      exact W.iret hx hb hr (fun t ht _ => ⟨rfl, ht⟩) (fun _ h => by cases h) dX12_getsBy_30 hlocks
  · rw [if_pos hc] at hm
    refine lv_iload_n (pc := 5) hx hb dX12_getsBy_5 rfl (lv_at hl 1 rfl) ?_
    refine lv_iconst (v := 1) (pc := 6) hx hb dX12_getsBy_6 (by decide) ?_
    refine lv_icmp_ne (tgt := 14) (pc := 7) hx hb dX12_getsBy_7 (by decide) (fun hc => ?_) (fun hc => ?_)
    · rw [if_neg hc] at hm
      refine lv_iload_n (pc := 14) hx hb dX12_getsBy_14 rfl (lv_at hl 3 rfl) ?_
      refine lv_ineg (pc := 15) hx hb dX12_getsBy_15 ?_
      refine lv_goto (tgt := 30) (pc := 16) hx hb dX12_getsBy_16 (by decide) ?_
      rw [← Option.some.inj hm]
      exact W.iret hx hb hr (fun t ht _ => ⟨rfl, ht⟩) (fun _ h => by cases h) dX12_getsBy_30 hlocks
    · rw [if_pos hc] at hm
      refine lv_iload_n (pc := 10) hx hb dX12_getsBy_10 rfl (lv_at hl 2 rfl) ?_
      refine lv_goto (tgt := 30) (pc := 11) hx hb dX12_getsBy_11 (by decide) ?_
      rw [← Option.some.inj hm]
      exact W.iret hx hb hr (fun t ht _ => ⟨rfl, ht⟩) (fun _ h => by cases h) dX12_getsBy_30 hlocks
