theorem dX12_copies_0 : decode cX12_copies 0 = .ok (.iconst 0, 1) := by decide +kernel
theorem dX12_copies_1 : decode cX12_copies 1 = .ok (.istore 4, 2) := by decide +kernel
theorem dX12_copies_3 : decode cX12_copies 3 = .ok (.iload 4, 2) := by decide +kernel
theorem dX12_copies_5 : decode cX12_copies 5 = .ok (.iload_n 3, 1) := by decide +kernel
theorem dX12_copies_6 : decode cX12_copies 6 = .ok (.if_icmp .ge 27, 3) := by decide +kernel
theorem dX12_copies_9 : decode cX12_copies 9 = .ok (.aload_n 0, 1) := by decide +kernel
theorem dX12_copies_10 : decode cX12_copies 10 = .ok (.getfield 113, 3) := by decide +kernel
theorem dX12_copies_13 : decode cX12_copies 13 = .ok (.iload_n 2, 1) := by decide +kernel
theorem dX12_copies_14 : decode cX12_copies 14 = .ok (.iload 4, 2) := by decide +kernel
theorem dX12_copies_16 : decode cX12_copies 16 = .ok (.iadd, 1) := by decide +kernel
theorem dX12_copies_17 : decode cX12_copies 17 = .ok (.aload_n 0, 1) := by decide +kernel
theorem dX12_copies_18 : decode cX12_copies 18 = .ok (.getfield 113, 3) := by decide +kernel
theorem dX12_copies_21 : decode cX12_copies 21 = .ok (.iload_n 1, 1) := by decide +kernel
theorem dX12_copies_22 : decode cX12_copies 22 = .ok (.iload 4, 2) := by decide +kernel
theorem dX12_copies_24 : decode cX12_copies 24 = .ok (.iadd, 1) := by decide +kernel
theorem dX12_copies_25 : decode cX12_copies 25 = .ok (.iaload, 1) := by decide +kernel
theorem dX12_copies_26 : decode cX12_copies 26 = .ok (.iastore, 1) := by decide +kernel
theorem dX12_copies_27 : decode cX12_copies 27 = .ok (.iinc 4 1, 3) := by decide +kernel
theorem dX12_copies_30 : decode cX12_copies 30 = .ok (.goto (-27), 3) := by decide +kernel
theorem dX12_copies_33 : decode cX12_copies 33 = .ok (.return_, 1) := by decide +kernel
abbrev wd_X12_copies (k : Nat → ClassId) (this : Nat) (this_thrown : Int32) (this_tape : Nat) (this_taped : Int32) (this_size : Int32) (this_sort : Nat) (this_place : Nat) (this_value : Nat) (this_at : Int32) (this_fault : Int32) (this_words : Nat) (this_towns : Nat) (this_op : Nat) (this_arg : Nat) (this_codes : Int32) (this_names : Nat) (this_readNames : Nat) (this_namesMany : Int32) (this_readMany : Int32) (this_once : Int32) (this_lines : Nat) (this_facts : Nat) (this_pile : Nat) (this_state : Nat) (this_state_f : Nat → Int32) (this_undos : Int32) (this_isMarked : Nat) (this_weight : Int32) (this_rounding : Int32) (this_lacks : Nat) (this_alikes : Nat) (this_g : Int64) : va_W := [(this, .inr (10, [.int this_thrown, .ref this_tape, .int this_taped, .int this_size, .ref this_sort, .ref this_place, .ref this_value, .int this_at, .int this_fault, .ref this_words, .ref this_towns, .ref this_op, .ref this_arg, .int this_codes, .ref this_names, .ref this_readNames, .int this_namesMany, .int this_readMany, .int this_once, .ref this_lines, .ref this_facts, .ref this_pile, .ref this_state, .int this_undos, .ref this_isMarked, .int this_weight, .int this_rounding, .ref this_lacks, .ref this_alikes, .long this_g])), (this_state, .inl (k 0, 1104, .inl this_state_f))]
set_option maxHeartbeats 4000000 in
set_option maxRecDepth 100000 in
theorem c_X12_copies (l : Launch) (D : va_G) (k : Nat → ClassId) (this : Nat) (this_thrown : Int32) (this_tape : Nat) (this_taped : Int32) (this_size : Int32) (this_sort : Nat) (this_place : Nat) (this_value : Nat) (this_at : Int32) (this_fault : Int32) (this_words : Nat) (this_towns : Nat) (this_op : Nat) (this_arg : Nat) (this_codes : Int32) (this_names : Nat) (this_readNames : Nat) (this_namesMany : Int32) (this_readMany : Int32) (this_once : Int32) (this_lines : Nat) (this_facts : Nat) (this_pile : Nat) (this_state : Nat) (this_state_f : Nat → Int32) (this_undos : Int32) (this_isMarked : Nat) (this_weight : Int32) (this_rounding : Int32) (this_lacks : Nat) (this_alikes : Nat) (this_g : Int64) (q1 : Int32) (q2 : Int32) (q3 : Int32) (R0 : (Nat → Int32)) (hm : m_X12_copies this_state_f q1 q2 q3 = some R0) : CW l D (TY k) yX12_copies cX12_copies 5 none 0 0 [.ref this, .int q1, .int q2, .int q3] (wd_X12_copies k this this_thrown this_tape this_taped this_size this_sort this_place this_value this_at this_fault this_words this_towns this_op this_arg this_codes this_names this_readNames this_namesMany this_readMany this_once this_lines this_facts this_pile this_state this_state_f this_undos this_isMarked this_weight this_rounding this_lacks this_alikes this_g) none (wd_X12_copies k this this_thrown this_tape this_taped this_size this_sort this_place this_value this_at this_fault this_words this_towns this_op this_arg this_codes this_names this_readNames this_namesMany this_readMany this_once this_lines this_facts this_pile this_state R0 this_undos this_isMarked this_weight this_rounding this_lacks this_alikes this_g) := by
  refine CW.mk (by decide) (Nat.le_of_ble_eq_true rfl) ?_
  intro p e s m args below meth c ls A ⟨hx, hb, hr, hts, hown, hlocks, hml⟩ hP hG hD hA hl hS hq
  have hl : lv_has ls 5 [(0, .ref this), (1, .int q1), (2, .int q2), (3, .int q3)] := hl
  have h_3 : ∀ (n : Nat), ∀ (x4 : Int32) (u_this_state_f : Nat → Int32) (H : Heap) (locs : List Loc) (ls : Array Slot), va_P D vwCl (wd_X12_copies k this this_thrown this_tape this_taped this_size this_sort this_place this_value this_at this_fault this_words this_towns this_op this_arg this_codes this_names this_readNames this_namesMany this_readMany this_once this_lines this_facts this_pile this_state u_this_state_f this_undos this_isMarked this_weight this_rounding this_lacks this_alikes this_g) H → va_D A (wd_X12_copies k this this_thrown this_tape this_taped this_size this_sort this_place this_value this_at this_fault this_words this_towns this_op this_arg this_codes this_names this_readNames this_namesMany this_readMany this_once this_lines this_facts this_pile this_state u_this_state_f this_undos this_isMarked this_weight this_rounding this_lacks this_alikes this_g) → va_S A s.heap H locs → lv_has ls 5 [(0, .ref this), (1, .int q1), (2, .int q2), (3, .int q3), (4, .int x4)] → m_X12_copies_3 q1 q2 q3 n x4 u_this_state_f = some R0 → W p l e (Rm 0 0) s m args below meth c H locs 0 0 (MQ below (QW D none (wd_X12_copies k this this_thrown this_tape this_taped this_size this_sort this_place this_value this_at this_fault this_words this_towns this_op this_arg this_codes this_names this_readNames this_namesMany this_readMany this_once this_lines this_facts this_pile this_state this_state_f this_undos this_isMarked this_weight this_rounding this_lacks this_alikes this_g) (wd_X12_copies k this this_thrown this_tape this_taped this_size this_sort this_place this_value this_at this_fault this_words this_towns this_op this_arg this_codes this_names this_readNames this_namesMany this_readMany this_once this_lines this_facts this_pile this_state R0 this_undos this_isMarked this_weight this_rounding this_lacks this_alikes this_g) s.heap.size) args s 0 0 A) (F0 m 3 ls []) := by
    intro n
    induction n with
    | zero => intro x4 u_this_state_f H locs ls hP hD hS hl hm; cases hm
    | succ n ih =>
      intro x4 u_this_state_f H locs ls hP hD hS hl hm
      unfold m_X12_copies_3 at hm
      refine lv_iload (pc := 3) hx hb dX12_copies_3 (lv_at hl 4 rfl) ?_
      refine lv_iload_n (pc := 5) hx hb dX12_copies_5 rfl (lv_at hl 3 rfl) ?_
      refine lv_icmp_ge (tgt := 33) (pc := 6) hx hb dX12_copies_6 (by decide) (fun hc => ?_) (fun hc => ?_)
      · rw [if_pos hc] at hm
        rw [← Option.some.inj hm]
        exact W.vret hx hb hr (fun t ht _ => hq _ _ H t ht hP hD locs hS) hS.2.2 dX12_copies_33 hlocks
      · rw [if_neg hc] at hm
        refine lv_aload_n (pc := 9) hx hb dX12_copies_9 rfl (lv_at hl 0 rfl) ?_
        refine va_get (pc := 10) (D := D) (ci := 10) (C := RX12) (T := TX12) (N := 30) hx hb hts hiX12 hown hG.1 hP 0 rfl rfl 22 (Nat.le_of_ble_eq_true rfl) (hts _ kw_1279) (fun _ h9 => h9) rfl dX12_copies_10 ?_
        refine lv_iload_n (pc := 13) hx hb dX12_copies_13 rfl (lv_at hl 2 rfl) ?_
        refine lv_iload (pc := 14) hx hb dX12_copies_14 (lv_at hl 4 rfl) ?_
        refine lv_iadd (pc := 16) hx hb dX12_copies_16 ?_
        refine lv_aload_n (pc := 17) hx hb dX12_copies_17 rfl (lv_at hl 0 rfl) ?_
        refine va_get (pc := 18) (D := D) (ci := 10) (C := RX12) (T := TX12) (N := 30) hx hb hts hiX12 hown hG.1 hP 0 rfl rfl 22 (Nat.le_of_ble_eq_true rfl) (hts _ kw_1279) (fun _ h9 => h9) rfl dX12_copies_18 ?_
        refine lv_iload_n (pc := 21) hx hb dX12_copies_21 rfl (lv_at hl 1 rfl) ?_
        refine lv_iload (pc := 22) hx hb dX12_copies_22 (lv_at hl 4 rfl) ?_
        refine lv_iadd (pc := 24) hx hb dX12_copies_24 ?_
        obtain ⟨hin, hm⟩ := gd hm
        refine va_iald (pc := 25) (D := D) hx hb hG.1 hP 1 0 rfl rfl hin dX12_copies_25 ?_
        obtain ⟨hin, hm⟩ := gd hm
        refine va_iast (pc := 26) (D := D) hx hb hG.1 hP hD hS 1 0 rfl rfl hin dX12_copies_26 (fun H locs hP hD hS => ?_)
        have hP : va_P D vwCl (wd_X12_copies k this this_thrown this_tape this_taped this_size this_sort this_place this_value this_at this_fault this_words this_towns this_op this_arg this_codes this_names this_readNames this_namesMany this_readMany this_once this_lines this_facts this_pile this_state (upd u_this_state_f (q2 + x4).toNatClampNeg (u_this_state_f (q1 + x4).toNatClampNeg)) this_undos this_isMarked this_weight this_rounding this_lacks this_alikes this_g) H := hP
        have hD : va_D A (wd_X12_copies k this this_thrown this_tape this_taped this_size this_sort this_place this_value this_at this_fault this_words this_towns this_op this_arg this_codes this_names this_readNames this_namesMany this_readMany this_once this_lines this_facts this_pile this_state (upd u_this_state_f (q2 + x4).toNatClampNeg (u_this_state_f (q1 + x4).toNatClampNeg)) this_undos this_isMarked this_weight this_rounding this_lacks this_alikes this_g) := hD
        refine lv_iinc (k := 4) (v := x4 + 1) (lv' := [(4, .int (x4 + 1)), (0, .ref this), (1, .int q1), (2, .int q2), (3, .int q3)]) (pc := 27) hx hb dX12_copies_27 hl rfl rfl (Nat.le_of_ble_eq_true rfl) rfl (fun ls hl => ?_)
        refine lv_goto (tgt := 3) (pc := 30) hx hb dX12_copies_30 (by decide) ?_
        exact ih (x4 + 1) (upd u_this_state_f (q2 + x4).toNatClampNeg (u_this_state_f (q1 + x4).toNatClampNeg)) H locs ls hP hD hS (lv_sub hl [1, 2, 3, 4, 0] rfl) hm
  unfold m_X12_copies at hm
  suffices hgo : ∀ (H : Heap) (locs : List Loc), va_P D vwCl (wd_X12_copies k this this_thrown this_tape this_taped this_size this_sort this_place this_value this_at this_fault this_words this_towns this_op this_arg this_codes this_names this_readNames this_namesMany this_readMany this_once this_lines this_facts this_pile this_state this_state_f this_undos this_isMarked this_weight this_rounding this_lacks this_alikes this_g) H → va_D A (wd_X12_copies k this this_thrown this_tape this_taped this_size this_sort this_place this_value this_at this_fault this_words this_towns this_op this_arg this_codes this_names this_readNames this_namesMany this_readMany this_once this_lines this_facts this_pile this_state this_state_f this_undos this_isMarked this_weight this_rounding this_lacks this_alikes this_g) → va_S A s.heap H locs → W p l e (Rm 0 0) s m args below meth c H locs 0 0 (MQ below (QW D none (wd_X12_copies k this this_thrown this_tape this_taped this_size this_sort this_place this_value this_at this_fault this_words this_towns this_op this_arg this_codes this_names this_readNames this_namesMany this_readMany this_once this_lines this_facts this_pile this_state this_state_f this_undos this_isMarked this_weight this_rounding this_lacks this_alikes this_g) (wd_X12_copies k this this_thrown this_tape this_taped this_size this_sort this_place this_value this_at this_fault this_words this_towns this_op this_arg this_codes this_names this_readNames this_namesMany this_readMany this_once this_lines this_facts this_pile this_state R0 this_undos this_isMarked this_weight this_rounding this_lacks this_alikes this_g) s.heap.size) args s 0 0 A) (F0 m 0 ls []) from hgo _ _ hP hD hS
  clear hP hD hS
  intro H locs hP hD hS
  refine lv_iconst (v := 0) (pc := 0) hx hb dX12_copies_0 (by decide) ?_
  refine lv_istore (lv' := [(4, .int 0), (0, .ref this), (1, .int q1), (2, .int q2), (3, .int q3)]) (pc := 1) hx hb dX12_copies_1 hl (Nat.le_of_ble_eq_true rfl) rfl (fun ls hl => ?_)
  exact h_3 FU 0 this_state_f H locs ls hP hD hS (lv_sub hl [1, 2, 3, 4, 0] rfl) hm
theorem dX12_keeps_0 : decode cX12_keeps 0 = .ok (.aload_n 0, 1) := by decide +kernel
theorem dX12_keeps_1 : decode cX12_keeps 1 = .ok (.getfield 268, 3) := by decide +kernel
theorem dX12_keeps_4 : decode cX12_keeps 4 = .ok (.bipush 16, 2) := by decide +kernel
theorem dX12_keeps_6 : decode cX12_keeps 6 = .ok (.if_icmp .ne 47, 3) := by decide +kernel
theorem dX12_keeps_9 : decode cX12_keeps 9 = .ok (.iconst 1, 1) := by decide +kernel
theorem dX12_keeps_10 : decode cX12_keeps 10 = .ok (.istore_n 1, 1) := by decide +kernel
theorem dX12_keeps_11 : decode cX12_keeps 11 = .ok (.iload_n 1, 1) := by decide +kernel
theorem dX12_keeps_12 : decode cX12_keeps 12 = .ok (.bipush 16, 2) := by decide +kernel
theorem dX12_keeps_14 : decode cX12_keeps 14 = .ok (.if_icmp .ge 29, 3) := by decide +kernel
theorem dX12_keeps_17 : decode cX12_keeps 17 = .ok (.aload_n 0, 1) := by decide +kernel
theorem dX12_keeps_18 : decode cX12_keeps 18 = .ok (.bipush 48, 2) := by decide +kernel
theorem dX12_keeps_20 : decode cX12_keeps 20 = .ok (.iconst 5, 1) := by decide +kernel
theorem dX12_keeps_21 : decode cX12_keeps 21 = .ok (.iload_n 1, 1) := by decide +kernel
theorem dX12_keeps_22 : decode cX12_keeps 22 = .ok (.iadd, 1) := by decide +kernel
theorem dX12_keeps_23 : decode cX12_keeps 23 = .ok (.imul, 1) := by decide +kernel
theorem dX12_keeps_24 : decode cX12_keeps 24 = .ok (.bipush 48, 2) := by decide +kernel
theorem dX12_keeps_26 : decode cX12_keeps 26 = .ok (.iconst 5, 1) := by decide +kernel
theorem dX12_keeps_27 : decode cX12_keeps 27 = .ok (.iload_n 1, 1) := by decide +kernel
theorem dX12_keeps_28 : decode cX12_keeps 28 = .ok (.iadd, 1) := by decide +kernel
theorem dX12_keeps_29 : decode cX12_keeps 29 = .ok (.iconst 1, 1) := by decide +kernel
theorem dX12_keeps_30 : decode cX12_keeps 30 = .ok (.isub, 1) := by decide +kernel
theorem dX12_keeps_31 : decode cX12_keeps 31 = .ok (.imul, 1) := by decide +kernel
theorem dX12_keeps_32 : decode cX12_keeps 32 = .ok (.bipush 13, 2) := by decide +kernel
theorem dX12_keeps_34 : decode cX12_keeps 34 = .ok (.invokevirtual 277, 3) := by decide +kernel
theorem dX12_keeps_37 : decode cX12_keeps 37 = .ok (.iinc 1 1, 3) := by decide +kernel
theorem dX12_keeps_40 : decode cX12_keeps 40 = .ok (.goto (-29), 3) := by decide +kernel
theorem dX12_keeps_43 : decode cX12_keeps 43 = .ok (.aload_n 0, 1) := by decide +kernel
theorem dX12_keeps_44 : decode cX12_keeps 44 = .ok (.dup, 1) := by decide +kernel
theorem dX12_keeps_45 : decode cX12_keeps 45 = .ok (.getfield 268, 3) := by decide +kernel
theorem dX12_keeps_48 : decode cX12_keeps 48 = .ok (.iconst 1, 1) := by decide +kernel
theorem dX12_keeps_49 : decode cX12_keeps 49 = .ok (.isub, 1) := by decide +kernel
theorem dX12_keeps_50 : decode cX12_keeps 50 = .ok (.putfield 268, 3) := by decide +kernel
theorem dX12_keeps_53 : decode cX12_keeps 53 = .ok (.aload_n 0, 1) := by decide +kernel
theorem dX12_keeps_54 : decode cX12_keeps 54 = .ok (.iconst 0, 1) := by decide +kernel
theorem dX12_keeps_55 : decode cX12_keeps 55 = .ok (.bipush 48, 2) := by decide +kernel
theorem dX12_keeps_57 : decode cX12_keeps 57 = .ok (.iconst 5, 1) := by decide +kernel
theorem dX12_keeps_58 : decode cX12_keeps 58 = .ok (.aload_n 0, 1) := by decide +kernel
theorem dX12_keeps_59 : decode cX12_keeps 59 = .ok (.getfield 268, 3) := by decide +kernel
theorem dX12_keeps_62 : decode cX12_keeps 62 = .ok (.iadd, 1) := by decide +kernel
theorem dX12_keeps_63 : decode cX12_keeps 63 = .ok (.imul, 1) := by decide +kernel
theorem dX12_keeps_64 : decode cX12_keeps 64 = .ok (.bipush 13, 2) := by decide +kernel
theorem dX12_keeps_66 : decode cX12_keeps 66 = .ok (.invokevirtual 277, 3) := by decide +kernel
theorem dX12_keeps_69 : decode cX12_keeps 69 = .ok (.aload_n 0, 1) := by decide +kernel
theorem dX12_keeps_70 : decode cX12_keeps 70 = .ok (.dup, 1) := by decide +kernel
theorem dX12_keeps_71 : decode cX12_keeps 71 = .ok (.getfield 268, 3) := by decide +kernel
theorem dX12_keeps_74 : decode cX12_keeps 74 = .ok (.iconst 1, 1) := by decide +kernel
theorem dX12_keeps_75 : decode cX12_keeps 75 = .ok (.iadd, 1) := by decide +kernel
theorem dX12_keeps_76 : decode cX12_keeps 76 = .ok (.putfield 268, 3) := by decide +kernel
theorem dX12_keeps_79 : decode cX12_keeps 79 = .ok (.return_, 1) := by decide +kernel
abbrev wd_X12_keeps (k : Nat → ClassId) (this : Nat) (this_thrown : Int32) (this_tape : Nat) (this_taped : Int32) (this_size : Int32) (this_sort : Nat) (this_place : Nat) (this_value : Nat) (this_at : Int32) (this_fault : Int32) (this_words : Nat) (this_towns : Nat) (this_op : Nat) (this_arg : Nat) (this_codes : Int32) (this_names : Nat) (this_readNames : Nat) (this_namesMany : Int32) (this_readMany : Int32) (this_once : Int32) (this_lines : Nat) (this_facts : Nat) (this_pile : Nat) (this_state : Nat) (this_state_f : Nat → Int32) (this_undos : Int32) (this_isMarked : Nat) (this_weight : Int32) (this_rounding : Int32) (this_lacks : Nat) (this_alikes : Nat) (this_g : Int64) : va_W := [(this, .inr (10, [.int this_thrown, .ref this_tape, .int this_taped, .int this_size, .ref this_sort, .ref this_place, .ref this_value, .int this_at, .int this_fault, .ref this_words, .ref this_towns, .ref this_op, .ref this_arg, .int this_codes, .ref this_names, .ref this_readNames, .int this_namesMany, .int this_readMany, .int this_once, .ref this_lines, .ref this_facts, .ref this_pile, .ref this_state, .int this_undos, .ref this_isMarked, .int this_weight, .int this_rounding, .ref this_lacks, .ref this_alikes, .long this_g])), (this_state, .inl (k 0, 1104, .inl this_state_f))]
set_option maxHeartbeats 4000000 in
set_option maxRecDepth 100000 in
theorem c_X12_keeps (l : Launch) (D : va_G) (k : Nat → ClassId) (this : Nat) (this_thrown : Int32) (this_tape : Nat) (this_taped : Int32) (this_size : Int32) (this_sort : Nat) (this_place : Nat) (this_value : Nat) (this_at : Int32) (this_fault : Int32) (this_words : Nat) (this_towns : Nat) (this_op : Nat) (this_arg : Nat) (this_codes : Int32) (this_names : Nat) (this_readNames : Nat) (this_namesMany : Int32) (this_readMany : Int32) (this_once : Int32) (this_lines : Nat) (this_facts : Nat) (this_pile : Nat) (this_state : Nat) (this_state_f : Nat → Int32) (this_undos : Int32) (this_isMarked : Nat) (this_weight : Int32) (this_rounding : Int32) (this_lacks : Nat) (this_alikes : Nat) (this_g : Int64) (R0 : Int32 × (Nat → Int32)) (hm : m_X12_keeps this_state_f this_undos = some R0) : CW l D (TY k) yX12_keeps cX12_keeps 2 none 1 24 [.ref this] (wd_X12_keeps k this this_thrown this_tape this_taped this_size this_sort this_place this_value this_at this_fault this_words this_towns this_op this_arg this_codes this_names this_readNames this_namesMany this_readMany this_once this_lines this_facts this_pile this_state this_state_f this_undos this_isMarked this_weight this_rounding this_lacks this_alikes this_g) none (wd_X12_keeps k this this_thrown this_tape this_taped this_size this_sort this_place this_value this_at this_fault this_words this_towns this_op this_arg this_codes this_names this_readNames this_namesMany this_readMany this_once this_lines this_facts this_pile this_state R0.2 R0.1 this_isMarked this_weight this_rounding this_lacks this_alikes this_g) := by
  refine CW.mk (by decide) (Nat.le_of_ble_eq_true rfl) ?_
  intro p e s m args below meth c ls A ⟨hx, hb, hr, hts, hown, hlocks, hml⟩ hP hG hD hA hl hS hq
  have hl : lv_has ls 2 [(0, .ref this)] := hl
  have h_53 : ∀ (u_this_undos : Int32) (u_this_state_f : Nat → Int32) (H : Heap) (locs : List Loc) (ls : Array Slot), va_P D vwCl (wd_X12_keeps k this this_thrown this_tape this_taped this_size this_sort this_place this_value this_at this_fault this_words this_towns this_op this_arg this_codes this_names this_readNames this_namesMany this_readMany this_once this_lines this_facts this_pile this_state u_this_state_f u_this_undos this_isMarked this_weight this_rounding this_lacks this_alikes this_g) H → va_D A (wd_X12_keeps k this this_thrown this_tape this_taped this_size this_sort this_place this_value this_at this_fault this_words this_towns this_op this_arg this_codes this_names this_readNames this_namesMany this_readMany this_once this_lines this_facts this_pile this_state u_this_state_f u_this_undos this_isMarked this_weight this_rounding this_lacks this_alikes this_g) → va_S A s.heap H locs → lv_has ls 2 [(0, .ref this)] → m_X12_keeps_53 u_this_undos u_this_state_f = some R0 → W p l e (Rm 1 24) s m args below meth c H locs 0 0 (MQ below (QW D none (wd_X12_keeps k this this_thrown this_tape this_taped this_size this_sort this_place this_value this_at this_fault this_words this_towns this_op this_arg this_codes this_names this_readNames this_namesMany this_readMany this_once this_lines this_facts this_pile this_state this_state_f this_undos this_isMarked this_weight this_rounding this_lacks this_alikes this_g) (wd_X12_keeps k this this_thrown this_tape this_taped this_size this_sort this_place this_value this_at this_fault this_words this_towns this_op this_arg this_codes this_names this_readNames this_namesMany this_readMany this_once this_lines this_facts this_pile this_state R0.2 R0.1 this_isMarked this_weight this_rounding this_lacks this_alikes this_g) s.heap.size) args s 0 0 A) (F0 m 53 ls []) := by
    intro  u_this_undos u_this_state_f H locs ls hP hD hS hl hm
    unfold m_X12_keeps_53 at hm
    refine lv_aload_n (pc := 53) hx hb dX12_keeps_53 rfl (lv_at hl 0 rfl) ?_
    refine lv_iconst (v := 0) (pc := 54) hx hb dX12_keeps_54 (by decide) ?_
    refine lv_bipush (v := 48) (pc := 55) hx hb dX12_keeps_55 (by decide) ?_
    refine lv_iconst (v := 5) (pc := 57) hx hb dX12_keeps_57 (by decide) ?_
    refine lv_aload_n (pc := 58) hx hb dX12_keeps_58 rfl (lv_at hl 0 rfl) ?_
    refine va_get (pc := 59) (D := D) (ci := 10) (C := RX12) (T := TX12) (N := 30) hx hb hts hiX12 hown hG.1 hP 0 rfl rfl 23 (Nat.le_of_ble_eq_true rfl) (hts _ kw_1280) (fun _ h9 => h9) rfl dX12_keeps_59 ?_
    refine lv_iadd (pc := 62) hx hb dX12_keeps_62 ?_
    refine lv_imul (pc := 63) hx hb dX12_keeps_63 ?_
    refine lv_bipush (v := 13) (pc := 64) hx hb dX12_keeps_64 (by decide) ?_
    obtain ⟨r3, hcl, hm⟩ := bd hm
    refine cw_mask (ws' := (wd_X12_keeps k this this_thrown this_tape this_taped this_size this_sort this_place this_value this_at this_fault this_words this_towns this_op this_arg this_codes this_names this_readNames this_namesMany this_readMany this_once this_lines this_facts this_pile this_state r3 u_this_undos this_isMarked this_weight this_rounding this_lacks this_alikes this_g)) (run_V (pc := 66) (n := 3) (As := [.int 0, .int (48 * (5 + u_this_undos)), .int 13]) (rest := []) ⟨hx, hb, hml, hown, hts⟩ ((c_X12_copies l D k this this_thrown this_tape this_taped this_size this_sort this_place this_value this_at this_fault this_words this_towns this_op this_arg this_codes this_names this_readNames this_namesMany this_readMany this_once this_lines this_facts this_pile this_state u_this_state_f u_this_undos this_isMarked this_weight this_rounding this_lacks this_alikes this_g 0 (48 * (5 + u_this_undos)) 13 r3 hcl) H.size) ⟨kw_1513, kw_16, by decide +kernel⟩ kw_1510 kw_1512 ks_129 ⟨Nat.le_of_ble_eq_true rfl, Nat.le_of_ble_eq_true rfl⟩ pw_blind (prW (P_pick [true, true] rfl hP) hG (D_pick [true, true] rfl hD)) (va_recv hG.1 hP (ci := 10) (q0 := 0) rfl rfl) rfl hl.1 rfl (Nat.le_of_ble_eq_true rfl) dX12_keeps_66 ⟨Nat.zero_le _, Nat.zero_le _⟩) hP hD hS hA [true, true] rfl rfl rfl (fun H locs hP hD hS => ?_)
    refine lv_aload_n (pc := 69) hx hb dX12_keeps_69 rfl (lv_at hl 0 rfl) ?_
    refine lv_dup (pc := 70) hx hb dX12_keeps_70 rfl ?_
    refine va_get (pc := 71) (D := D) (ci := 10) (C := RX12) (T := TX12) (N := 30) hx hb hts hiX12 hown hG.1 hP 0 rfl rfl 23 (Nat.le_of_ble_eq_true rfl) (hts _ kw_1280) (fun _ h9 => h9) rfl dX12_keeps_71 ?_
    refine lv_iconst (v := 1) (pc := 74) hx hb dX12_keeps_74 (by decide) ?_
    refine lv_iadd (pc := 75) hx hb dX12_keeps_75 ?_
    refine va_put (pc := 76) (D := D) (ci := 10) (v := .int (u_this_undos + 1)) (ty := .int) (C := RX12) (T := TX12) (N := 30) hx hb hts hiX12 tyX12 tyX12_ok nmX12 hown hG.1 hP hD hS 0 rfl rfl 23 (Nat.le_of_ble_eq_true rfl) (hts _ kw_1280) (fun _ h9 => h9) rfl (by decide +kernel) rfl rfl (Nat.le_of_ble_eq_true rfl) dX12_keeps_76 (fun H locs hP hD hS => ?_)
    have hP : va_P D vwCl (wd_X12_keeps k this this_thrown this_tape this_taped this_size this_sort this_place this_value this_at this_fault this_words this_towns this_op this_arg this_codes this_names this_readNames this_namesMany this_readMany this_once this_lines this_facts this_pile this_state r3 (u_this_undos + 1) this_isMarked this_weight this_rounding this_lacks this_alikes this_g) H := hP
    have hD : va_D A (wd_X12_keeps k this this_thrown this_tape this_taped this_size this_sort this_place this_value this_at this_fault this_words this_towns this_op this_arg this_codes this_names this_readNames this_namesMany this_readMany this_once this_lines this_facts this_pile this_state r3 (u_this_undos + 1) this_isMarked this_weight this_rounding this_lacks this_alikes this_g) := hD
    rw [← Option.some.inj hm]
    exact W.vret hx hb hr (fun t ht _ => hq _ _ H t ht hP hD locs hS) hS.2.2 dX12_keeps_79 hlocks
  have h_11 : ∀ (n : Nat), ∀ (x1 : Int32) (u_this_undos : Int32) (u_this_state_f : Nat → Int32) (H : Heap) (locs : List Loc) (ls : Array Slot), va_P D vwCl (wd_X12_keeps k this this_thrown this_tape this_taped this_size this_sort this_place this_value this_at this_fault this_words this_towns this_op this_arg this_codes this_names this_readNames this_namesMany this_readMany this_once this_lines this_facts this_pile this_state u_this_state_f u_this_undos this_isMarked this_weight this_rounding this_lacks this_alikes this_g) H → va_D A (wd_X12_keeps k this this_thrown this_tape this_taped this_size this_sort this_place this_value this_at this_fault this_words this_towns this_op this_arg this_codes this_names this_readNames this_namesMany this_readMany this_once this_lines this_facts this_pile this_state u_this_state_f u_this_undos this_isMarked this_weight this_rounding this_lacks this_alikes this_g) → va_S A s.heap H locs → lv_has ls 2 [(0, .ref this), (1, .int x1)] → m_X12_keeps_11 n x1 u_this_undos u_this_state_f = some R0 → W p l e (Rm 1 24) s m args below meth c H locs 0 0 (MQ below (QW D none (wd_X12_keeps k this this_thrown this_tape this_taped this_size this_sort this_place this_value this_at this_fault this_words this_towns this_op this_arg this_codes this_names this_readNames this_namesMany this_readMany this_once this_lines this_facts this_pile this_state this_state_f this_undos this_isMarked this_weight this_rounding this_lacks this_alikes this_g) (wd_X12_keeps k this this_thrown this_tape this_taped this_size this_sort this_place this_value this_at this_fault this_words this_towns this_op this_arg this_codes this_names this_readNames this_namesMany this_readMany this_once this_lines this_facts this_pile this_state R0.2 R0.1 this_isMarked this_weight this_rounding this_lacks this_alikes this_g) s.heap.size) args s 0 0 A) (F0 m 11 ls []) := by
    intro n
    induction n with
    | zero => intro x1 u_this_undos u_this_state_f H locs ls hP hD hS hl hm; cases hm
    | succ n ih =>
      intro x1 u_this_undos u_this_state_f H locs ls hP hD hS hl hm
      unfold m_X12_keeps_11 at hm
      refine lv_iload_n (pc := 11) hx hb dX12_keeps_11 rfl (lv_at hl 1 rfl) ?_
      refine lv_bipush (v := 16) (pc := 12) hx hb dX12_keeps_12 (by decide) ?_
      refine lv_icmp_ge (tgt := 43) (pc := 14) hx hb dX12_keeps_14 (by decide) (fun hc => ?_) (fun hc => ?_)
      · rw [if_pos hc] at hm
        refine lv_aload_n (pc := 43) hx hb dX12_keeps_43 rfl (lv_at hl 0 rfl) ?_
        refine lv_dup (pc := 44) hx hb dX12_keeps_44 rfl ?_
        refine va_get (pc := 45) (D := D) (ci := 10) (C := RX12) (T := TX12) (N := 30) hx hb hts hiX12 hown hG.1 hP 0 rfl rfl 23 (Nat.le_of_ble_eq_true rfl) (hts _ kw_1280) (fun _ h9 => h9) rfl dX12_keeps_45 ?_
        refine lv_iconst (v := 1) (pc := 48) hx hb dX12_keeps_48 (by decide) ?_
        refine lv_isub (pc := 49) hx hb dX12_keeps_49 ?_
        refine va_put (pc := 50) (D := D) (ci := 10) (v := .int (u_this_undos - 1)) (ty := .int) (C := RX12) (T := TX12) (N := 30) hx hb hts hiX12 tyX12 tyX12_ok nmX12 hown hG.1 hP hD hS 0 rfl rfl 23 (Nat.le_of_ble_eq_true rfl) (hts _ kw_1280) (fun _ h9 => h9) rfl (by decide +kernel) rfl rfl (Nat.le_of_ble_eq_true rfl) dX12_keeps_50 (fun H locs hP hD hS => ?_)
        have hP : va_P D vwCl (wd_X12_keeps k this this_thrown this_tape this_taped this_size this_sort this_place this_value this_at this_fault this_words this_towns this_op this_arg this_codes this_names this_readNames this_namesMany this_readMany this_once this_lines this_facts this_pile this_state u_this_state_f (u_this_undos - 1) this_isMarked this_weight this_rounding this_lacks this_alikes this_g) H := hP
        have hD : va_D A (wd_X12_keeps k this this_thrown this_tape this_taped this_size this_sort this_place this_value this_at this_fault this_words this_towns this_op this_arg this_codes this_names this_readNames this_namesMany this_readMany this_once this_lines this_facts this_pile this_state u_this_state_f (u_this_undos - 1) this_isMarked this_weight this_rounding this_lacks this_alikes this_g) := hD
        exact h_53 (u_this_undos - 1) u_this_state_f H locs ls hP hD hS (lv_sub hl [0] rfl) hm
      · rw [if_neg hc] at hm
        refine lv_aload_n (pc := 17) hx hb dX12_keeps_17 rfl (lv_at hl 0 rfl) ?_
        refine lv_bipush (v := 48) (pc := 18) hx hb dX12_keeps_18 (by decide) ?_
        refine lv_iconst (v := 5) (pc := 20) hx hb dX12_keeps_20 (by decide) ?_
        refine lv_iload_n (pc := 21) hx hb dX12_keeps_21 rfl (lv_at hl 1 rfl) ?_
        refine lv_iadd (pc := 22) hx hb dX12_keeps_22 ?_
        refine lv_imul (pc := 23) hx hb dX12_keeps_23 ?_
        refine lv_bipush (v := 48) (pc := 24) hx hb dX12_keeps_24 (by decide) ?_
        refine lv_iconst (v := 5) (pc := 26) hx hb dX12_keeps_26 (by decide) ?_
        refine lv_iload_n (pc := 27) hx hb dX12_keeps_27 rfl (lv_at hl 1 rfl) ?_
        refine lv_iadd (pc := 28) hx hb dX12_keeps_28 ?_
        refine lv_iconst (v := 1) (pc := 29) hx hb dX12_keeps_29 (by decide) ?_
        refine lv_isub (pc := 30) hx hb dX12_keeps_30 ?_
        refine lv_imul (pc := 31) hx hb dX12_keeps_31 ?_
        refine lv_bipush (v := 13) (pc := 32) hx hb dX12_keeps_32 (by decide) ?_
        obtain ⟨r4, hcl, hm⟩ := bd hm
        refine cw_mask (ws' := (wd_X12_keeps k this this_thrown this_tape this_taped this_size this_sort this_place this_value this_at this_fault this_words this_towns this_op this_arg this_codes this_names this_readNames this_namesMany this_readMany this_once this_lines this_facts this_pile this_state r4 u_this_undos this_isMarked this_weight this_rounding this_lacks this_alikes this_g)) (run_V (pc := 34) (n := 3) (As := [.int (48 * (5 + x1)), .int (48 * ((5 + x1) - 1)), .int 13]) (rest := []) ⟨hx, hb, hml, hown, hts⟩ ((c_X12_copies l D k this this_thrown this_tape this_taped this_size this_sort this_place this_value this_at this_fault this_words this_towns this_op this_arg this_codes this_names this_readNames this_namesMany this_readMany this_once this_lines this_facts this_pile this_state u_this_state_f u_this_undos this_isMarked this_weight this_rounding this_lacks this_alikes this_g (48 * (5 + x1)) (48 * ((5 + x1) - 1)) 13 r4 hcl) H.size) ⟨kw_1513, kw_16, by decide +kernel⟩ kw_1510 kw_1512 ks_129 ⟨Nat.le_of_ble_eq_true rfl, Nat.le_of_ble_eq_true rfl⟩ pw_blind (prW (P_pick [true, true] rfl hP) hG (D_pick [true, true] rfl hD)) (va_recv hG.1 hP (ci := 10) (q0 := 0) rfl rfl) rfl hl.1 rfl (Nat.le_of_ble_eq_true rfl) dX12_keeps_34 ⟨Nat.zero_le _, Nat.zero_le _⟩) hP hD hS hA [true, true] rfl rfl rfl (fun H locs hP hD hS => ?_)
        refine lv_iinc (k := 1) (v := x1 + 1) (lv' := [(1, .int (x1 + 1)), (0, .ref this)]) (pc := 37) hx hb dX12_keeps_37 hl rfl rfl (Nat.le_of_ble_eq_true rfl) rfl (fun ls hl => ?_)
        refine lv_goto (tgt := 11) (pc := 40) hx hb dX12_keeps_40 (by decide) ?_
        exact ih (x1 + 1) u_this_undos r4 H locs ls hP hD hS (lv_sub hl [1, 0] rfl) hm
  unfold m_X12_keeps at hm
  suffices hgo : ∀ (H : Heap) (locs : List Loc), va_P D vwCl (wd_X12_keeps k this this_thrown this_tape this_taped this_size this_sort this_place this_value this_at this_fault this_words this_towns this_op this_arg this_codes this_names this_readNames this_namesMany this_readMany this_once this_lines this_facts this_pile this_state this_state_f this_undos this_isMarked this_weight this_rounding this_lacks this_alikes this_g) H → va_D A (wd_X12_keeps k this this_thrown this_tape this_taped this_size this_sort this_place this_value this_at this_fault this_words this_towns this_op this_arg this_codes this_names this_readNames this_namesMany this_readMany this_once this_lines this_facts this_pile this_state this_state_f this_undos this_isMarked this_weight this_rounding this_lacks this_alikes this_g) → va_S A s.heap H locs → W p l e (Rm 1 24) s m args below meth c H locs 0 0 (MQ below (QW D none (wd_X12_keeps k this this_thrown this_tape this_taped this_size this_sort this_place this_value this_at this_fault this_words this_towns this_op this_arg this_codes this_names this_readNames this_namesMany this_readMany this_once this_lines this_facts this_pile this_state this_state_f this_undos this_isMarked this_weight this_rounding this_lacks this_alikes this_g) (wd_X12_keeps k this this_thrown this_tape this_taped this_size this_sort this_place this_value this_at this_fault this_words this_towns this_op this_arg this_codes this_names this_readNames this_namesMany this_readMany this_once this_lines this_facts this_pile this_state R0.2 R0.1 this_isMarked this_weight this_rounding this_lacks this_alikes this_g) s.heap.size) args s 0 0 A) (F0 m 0 ls []) from hgo _ _ hP hD hS
  clear hP hD hS
  intro H locs hP hD hS
  refine lv_aload_n (pc := 0) hx hb dX12_keeps_0 rfl (lv_at hl 0 rfl) ?_
  refine va_get (pc := 1) (D := D) (ci := 10) (C := RX12) (T := TX12) (N := 30) hx hb hts hiX12 hown hG.1 hP 0 rfl rfl 23 (Nat.le_of_ble_eq_true rfl) (hts _ kw_1280) (fun _ h9 => h9) rfl dX12_keeps_1 ?_
  refine lv_bipush (v := 16) (pc := 4) hx hb dX12_keeps_4 (by decide) ?_
  refine lv_icmp_ne (tgt := 53) (pc := 6) hx hb dX12_keeps_6 (by decide) (fun hc => ?_) (fun hc => ?_)
  · rw [if_neg hc] at hm
    exact h_53 this_undos this_state_f H locs ls hP hD hS (lv_sub hl [0] rfl) hm
  · rw [if_pos hc] at hm
    refine lv_iconst (v := 1) (pc := 9) hx hb dX12_keeps_9 (by decide) ?_
    refine lv_istore_n (lv' := [(1, .int 1), (0, .ref this)]) (pc := 10) hx hb dX12_keeps_10 rfl hl (Nat.le_of_ble_eq_true rfl) rfl (fun ls hl => ?_)
    exact h_11 FU 1 this_undos this_state_f H locs ls hP hD hS (lv_sub hl [1, 0] rfl) hm
theorem dX12_isPerson_0 : decode cX12_isPerson 0 = .ok (.iload_n 1, 1) := by decide +kernel
theorem dX12_isPerson_1 : decode cX12_isPerson 1 = .ok (.ifCond .lt 15, 3) := by decide +kernel
theorem dX12_isPerson_4 : decode cX12_isPerson 4 = .ok (.iload_n 1, 1) := by decide +kernel
theorem dX12_isPerson_5 : decode cX12_isPerson 5 = .ok (.aload_n 0, 1) := by decide +kernel
theorem dX12_isPerson_6 : decode cX12_isPerson 6 = .ok (.invokevirtual 255, 3) := by decide +kernel
theorem dX12_isPerson_9 : decode cX12_isPerson 9 = .ok (.if_icmp .ge 7, 3) := by decide +kernel
theorem dX12_isPerson_12 : decode cX12_isPerson 12 = .ok (.iconst 1, 1) := by decide +kernel
theorem dX12_isPerson_13 : decode cX12_isPerson 13 = .ok (.goto 4, 3) := by decide +kernel
theorem dX12_isPerson_16 : decode cX12_isPerson 16 = .ok (.iconst 0, 1) := by decide +kernel
theorem dX12_isPerson_17 : decode cX12_isPerson 17 = .ok (.ireturn, 1) := by decide +kernel
abbrev wd_X12_isPerson (k : Nat → ClassId) (this : Nat) (this_thrown : Int32) (this_tape : Nat) (this_taped : Int32) (this_size : Int32) (this_sort : Nat) (this_place : Nat) (this_value : Nat) (this_at : Int32) (this_fault : Int32) (this_words : Nat) (this_towns : Nat) (this_towns_f : Nat → Int32) (this_op : Nat) (this_arg : Nat) (this_codes : Int32) (this_names : Nat) (this_readNames : Nat) (this_namesMany : Int32) (this_readMany : Int32) (this_once : Int32) (this_lines : Nat) (this_facts : Nat) (this_pile : Nat) (this_state : Nat) (this_undos : Int32) (this_isMarked : Nat) (this_weight : Int32) (this_rounding : Int32) (this_lacks : Nat) (this_alikes : Nat) (this_g : Int64) : va_W := [(this, .inr (10, [.int this_thrown, .ref this_tape, .int this_taped, .int this_size, .ref this_sort, .ref this_place, .ref this_value, .int this_at, .int this_fault, .ref this_words, .ref this_towns, .ref this_op, .ref this_arg, .int this_codes, .ref this_names, .ref this_readNames, .int this_namesMany, .int this_readMany, .int this_once, .ref this_lines, .ref this_facts, .ref this_pile, .ref this_state, .int this_undos, .ref this_isMarked, .int this_weight, .int this_rounding, .ref this_lacks, .ref this_alikes, .long this_g])), (this_towns, .inl (k 0, 60, .inl this_towns_f))]
set_option maxHeartbeats 4000000 in
set_option maxRecDepth 100000 in
theorem c_X12_isPerson (l : Launch) (D : va_G) (k : Nat → ClassId) (this : Nat) (this_thrown : Int32) (this_tape : Nat) (this_taped : Int32) (this_size : Int32) (this_sort : Nat) (this_place : Nat) (this_value : Nat) (this_at : Int32) (this_fault : Int32) (this_words : Nat) (this_towns : Nat) (this_towns_f : Nat → Int32) (this_op : Nat) (this_arg : Nat) (this_codes : Int32) (this_names : Nat) (this_readNames : Nat) (this_namesMany : Int32) (this_readMany : Int32) (this_once : Int32) (this_lines : Nat) (this_facts : Nat) (this_pile : Nat) (this_state : Nat) (this_undos : Int32) (this_isMarked : Nat) (this_weight : Int32) (this_rounding : Int32) (this_lacks : Nat) (this_alikes : Nat) (this_g : Int64) (q1 : Int32) (R0 : Int32) (hm : m_X12_isPerson this_towns_f q1 = some R0) : CR l D (TY k) yX12_isPerson cX12_isPerson 2 (some .boolean) 1 20 [.ref this, .int q1] (wd_X12_isPerson k this this_thrown this_tape this_taped this_size this_sort this_place this_value this_at this_fault this_words this_towns this_towns_f this_op this_arg this_codes this_names this_readNames this_namesMany this_readMany this_once this_lines this_facts this_pile this_state this_undos this_isMarked this_weight this_rounding this_lacks this_alikes this_g) (some (.int R0)) := by
  refine CR.mk (by decide) (Nat.le_of_ble_eq_true rfl) ?_
  intro p e s m args below meth c ls ⟨hx, hb, hr, hts, hown, hlocks, hml⟩ hP hG hl
  have hl : lv_has ls 2 [(0, .ref this), (1, .int q1)] := hl
  unfold m_X12_isPerson at hm
  refine lv_iload_n (pc := 0) hx hb dX12_isPerson_0 rfl (lv_at hl 1 rfl) ?_
  refine lv_if_lt (tgt := 16) (pc := 1) hx hb dX12_isPerson_1 (by decide) (fun hc => ?_) (fun hc => ?_)
  · rw [if_pos hc] at hm
    refine lv_iconst (v := 0) (pc := 16) hx hb dX12_isPerson_16 (by decide) ?_
    rw [← Option.some.inj hm]
    exact W.zret hx hb hr (nar_bool (Or.inl rfl)) (fun t ht _ => ⟨rfl, ht⟩) (fun _ h => by cases h) dX12_isPerson_17 hlocks
  · rw [if_neg hc] at hm
    refine lv_iload_n (pc := 4) hx hb dX12_isPerson_4 rfl (lv_at hl 1 rfl) ?_
    refine lv_aload_n (pc := 5) hx hb dX12_isPerson_5 rfl (lv_at hl 0 rfl) ?_
    obtain ⟨r2, hcl, hm⟩ := bd hm
    refine cr_back (run_V (pc := 6) (n := 0) (As := []) (rest := [.int q1]) ⟨hx, hb, hml, hown, hts⟩ (c_X12_persons l D k this this_thrown this_tape this_taped this_size this_sort this_place this_value this_at this_fault this_words this_towns this_towns_f this_op this_arg this_codes this_names this_readNames this_namesMany this_readMany this_once this_lines this_facts this_pile this_state this_undos this_isMarked this_weight this_rounding this_lacks this_alikes this_g r2 hcl) ⟨kw_1252, kw_16, by decide +kernel⟩ kw_1249 kw_1251 ks_97 ⟨Nat.le_of_ble_eq_true rfl, Nat.le_of_ble_eq_true rfl⟩ pr_blind (prR (hP.sub [0, 1] rfl) hG) (va_recv hG.1 hP (ci := 10) (q0 := 0) rfl rfl) rfl hl.1 rfl (Nat.le_of_ble_eq_true rfl) dX12_isPerson_6 ⟨Nat.zero_le _, Nat.zero_le _⟩) ?_
    refine lv_icmp_ge (tgt := 16) (pc := 9) hx hb dX12_isPerson_9 (by decide) (fun hc => ?_) (fun hc => ?_)
    · rw [if_pos hc] at hm
      refine lv_iconst (v := 0) (pc := 16) hx hb dX12_isPerson_16 (by decide) ?_
      rw [← Option.some.inj hm]
      exact W.zret hx hb hr (nar_bool (Or.inl rfl)) (fun t ht _ => ⟨rfl, ht⟩) (fun _ h => by cases h) dX12_isPerson_17 hlocks
    · rw [if_neg hc] at hm
      refine lv_iconst (v := 1) (pc := 12) hx hb dX12_isPerson_12 (by decide) ?_
      refine lv_goto (tgt := 17) (pc := 13) hx hb dX12_isPerson_13 (by decide) ?_
      rw [← Option.some.inj hm]
      exact W.zret hx hb hr (nar_bool (Or.inr rfl)) (fun t ht _ => ⟨rfl, ht⟩) (fun _ h => by cases h) dX12_isPerson_17 hlocks
theorem dX12_kept_0 : decode cX12_kept 0 = .ok (.iload_n 0, 1) := by decide +kernel
theorem dX12_kept_1 : decode cX12_kept 1 = .ok (.iload_n 1, 1) := by decide +kernel
theorem dX12_kept_2 : decode cX12_kept 2 = .ok (.if_icmp .ge 7, 3) := by decide +kernel
theorem dX12_kept_5 : decode cX12_kept 5 = .ok (.iload_n 1, 1) := by decide +kernel
theorem dX12_kept_6 : decode cX12_kept 6 = .ok (.goto 13, 3) := by decide +kernel
theorem dX12_kept_9 : decode cX12_kept 9 = .ok (.iload_n 0, 1) := by decide +kernel
theorem dX12_kept_10 : decode cX12_kept 10 = .ok (.iload_n 2, 1) := by decide +kernel
theorem dX12_kept_11 : decode cX12_kept 11 = .ok (.if_icmp .le 7, 3) := by decide +kernel
theorem dX12_kept_14 : decode cX12_kept 14 = .ok (.iload_n 2, 1) := by decide +kernel
theorem dX12_kept_15 : decode cX12_kept 15 = .ok (.goto 4, 3) := by decide +kernel
theorem dX12_kept_18 : decode cX12_kept 18 = .ok (.iload_n 0, 1) := by decide +kernel
theorem dX12_kept_19 : decode cX12_kept 19 = .ok (.ireturn, 1) := by decide +kernel
abbrev wd_X12_kept (k : Nat → ClassId) : va_W := []
set_option maxHeartbeats 4000000 in
set_option maxRecDepth 100000 in
theorem c_X12_kept (l : Launch) (D : va_G) (k : Nat → ClassId) (q1 : Int32) (q2 : Int32) (q3 : Int32) (R0 : Int32) (hm : m_X12_kept q1 q2 q3 = some R0) : CR l D (TY k) yX12_kept cX12_kept 3 (some .int) 0 0 [.int q1, .int q2, .int q3] (wd_X12_kept k ) (some (.int R0)) := by
  refine CR.mk (by decide) (Nat.le_of_ble_eq_true rfl) ?_
  intro p e s m args below meth c ls ⟨hx, hb, hr, hts, hown, hlocks, hml⟩ hP hG hl
  have hl : lv_has ls 3 [(0, .int q1), (1, .int q2), (2, .int q3)] := hl
  unfold m_X12_kept at hm
  refine lv_iload_n (pc := 0) hx hb dX12_kept_0 rfl (lv_at hl 0 rfl) ?_
  refine lv_iload_n (pc := 1) hx hb dX12_kept_1 rfl (lv_at hl 1 rfl) ?_
  refine lv_icmp_ge (tgt := 9) (pc := 2) hx hb dX12_kept_2 (by decide) (fun hc => ?_) (fun hc => ?_)
  · rw [if_pos hc] at hm
    refine lv_iload_n (pc := 9) hx hb dX12_kept_9 rfl (lv_at hl 0 rfl) ?_
    refine lv_iload_n (pc := 10) hx hb dX12_kept_10 rfl (lv_at hl 2 rfl) ?_
    refine lv_icmp_le (tgt := 18) (pc := 11) hx hb dX12_kept_11 (by decide) (fun hc => ?_) (fun hc => ?_)
    · rw [if_pos hc] at hm
      refine lv_iload_n (pc := 18) hx hb dX12_kept_18 rfl (lv_at hl 0 rfl) ?_
      rw [← Option.some.inj hm]
      exact W.iret hx hb hr (fun t ht _ => ⟨rfl, ht⟩) (fun _ h => by cases h) dX12_kept_19 hlocks
    · rw [if_neg hc] at hm
      refine lv_iload_n (pc := 14) hx hb dX12_kept_14 rfl (lv_at hl 2 rfl) ?_
      refine lv_goto (tgt := 19) (pc := 15) hx hb dX12_kept_15 (by decide) ?_
      rw [← Option.some.inj hm]
      exact W.iret hx hb hr (fun t ht _ => ⟨rfl, ht⟩) (fun _ h => by cases h) dX12_kept_19 hlocks
  · rw [if_neg hc] at hm
    refine lv_iload_n (pc := 5) hx hb dX12_kept_5 rfl (lv_at hl 1 rfl) ?_
    refine lv_goto (tgt := 19) (pc := 6) hx hb dX12_kept_6 (by decide) ?_
    rw [← Option.some.inj hm]
    exact W.iret hx hb hr (fun t ht _ => ⟨rfl, ht⟩) (fun _ h => by cases h) dX12_kept_19 hlocks
theorem dX12_weighsOf_0 : decode cX12_weighsOf 0 = .ok (.aload_n 0, 1) := by decide +kernel
theorem dX12_weighsOf_1 : decode cX12_weighsOf 1 = .ok (.getfield 113, 3) := by decide +kernel
theorem dX12_weighsOf_4 : decode cX12_weighsOf 4 = .ok (.iload_n 1, 1) := by decide +kernel
theorem dX12_weighsOf_5 : decode cX12_weighsOf 5 = .ok (.iconst 1, 1) := by decide +kernel
theorem dX12_weighsOf_6 : decode cX12_weighsOf 6 = .ok (.iadd, 1) := by decide +kernel
theorem dX12_weighsOf_7 : decode cX12_weighsOf 7 = .ok (.iload_n 2, 1) := by decide +kernel
theorem dX12_weighsOf_8 : decode cX12_weighsOf 8 = .ok (.iadd, 1) := by decide +kernel
theorem dX12_weighsOf_9 : decode cX12_weighsOf 9 = .ok (.iaload, 1) := by decide +kernel
theorem dX12_weighsOf_10 : decode cX12_weighsOf 10 = .ok (.istore_n 3, 1) := by decide +kernel
theorem dX12_weighsOf_11 : decode cX12_weighsOf 11 = .ok (.aload_n 0, 1) := by decide +kernel
theorem dX12_weighsOf_12 : decode cX12_weighsOf 12 = .ok (.iload_n 2, 1) := by decide +kernel
theorem dX12_weighsOf_13 : decode cX12_weighsOf 13 = .ok (.iconst 0, 1) := by decide +kernel
theorem dX12_weighsOf_14 : decode cX12_weighsOf 14 = .ok (.invokevirtual 259, 3) := by decide +kernel
theorem dX12_weighsOf_17 : decode cX12_weighsOf 17 = .ok (.istore 4, 2) := by decide +kernel
theorem dX12_weighsOf_19 : decode cX12_weighsOf 19 = .ok (.iload 4, 2) := by decide +kernel
theorem dX12_weighsOf_21 : decode cX12_weighsOf 21 = .ok (.iconst 1, 1) := by decide +kernel
theorem dX12_weighsOf_22 : decode cX12_weighsOf 22 = .ok (.if_icmp .ne 18, 3) := by decide +kernel
theorem dX12_weighsOf_25 : decode cX12_weighsOf 25 = .ok (.iload_n 3, 1) := by decide +kernel
theorem dX12_weighsOf_26 : decode cX12_weighsOf 26 = .ok (.ifCond .le 10, 3) := by decide +kernel
theorem dX12_weighsOf_29 : decode cX12_weighsOf 29 = .ok (.iload_n 3, 1) := by decide +kernel
theorem dX12_weighsOf_30 : decode cX12_weighsOf 30 = .ok (.bipush 10, 2) := by decide +kernel
theorem dX12_weighsOf_32 : decode cX12_weighsOf 32 = .ok (.iadd, 1) := by decide +kernel
theorem dX12_weighsOf_33 : decode cX12_weighsOf 33 = .ok (.goto 32, 3) := by decide +kernel
theorem dX12_weighsOf_36 : decode cX12_weighsOf 36 = .ok (.iconst 0, 1) := by decide +kernel
theorem dX12_weighsOf_37 : decode cX12_weighsOf 37 = .ok (.goto 28, 3) := by decide +kernel
theorem dX12_weighsOf_40 : decode cX12_weighsOf 40 = .ok (.iload 4, 2) := by decide +kernel
theorem dX12_weighsOf_42 : decode cX12_weighsOf 42 = .ok (.iconst 2, 1) := by decide +kernel
theorem dX12_weighsOf_43 : decode cX12_weighsOf 43 = .ok (.if_icmp .ne 9, 3) := by decide +kernel
theorem dX12_weighsOf_46 : decode cX12_weighsOf 46 = .ok (.iconst 2, 1) := by decide +kernel
theorem dX12_weighsOf_47 : decode cX12_weighsOf 47 = .ok (.iload_n 3, 1) := by decide +kernel
theorem dX12_weighsOf_48 : decode cX12_weighsOf 48 = .ok (.imul, 1) := by decide +kernel
theorem dX12_weighsOf_49 : decode cX12_weighsOf 49 = .ok (.goto 16, 3) := by decide +kernel
theorem dX12_weighsOf_52 : decode cX12_weighsOf 52 = .ok (.iload 4, 2) := by decide +kernel
theorem dX12_weighsOf_54 : decode cX12_weighsOf 54 = .ok (.iconst 3, 1) := by decide +kernel
theorem dX12_weighsOf_55 : decode cX12_weighsOf 55 = .ok (.if_icmp .ne 9, 3) := by decide +kernel
theorem dX12_weighsOf_58 : decode cX12_weighsOf 58 = .ok (.iload_n 3, 1) := by decide +kernel
theorem dX12_weighsOf_59 : decode cX12_weighsOf 59 = .ok (.iconst 2, 1) := by decide +kernel
theorem dX12_weighsOf_60 : decode cX12_weighsOf 60 = .ok (.idiv, 1) := by decide +kernel
theorem dX12_weighsOf_61 : decode cX12_weighsOf 61 = .ok (.goto 4, 3) := by decide +kernel
theorem dX12_weighsOf_64 : decode cX12_weighsOf 64 = .ok (.iload_n 3, 1) := by decide +kernel
theorem dX12_weighsOf_65 : decode cX12_weighsOf 65 = .ok (.ireturn, 1) := by decide +kernel
abbrev wd_X12_weighsOf (k : Nat → ClassId) (this : Nat) (this_thrown : Int32) (this_tape : Nat) (this_taped : Int32) (this_size : Int32) (this_sort : Nat) (this_place : Nat) (this_value : Nat) (this_at : Int32) (this_fault : Int32) (this_words : Nat) (this_towns : Nat) (this_towns_f : Nat → Int32) (this_op : Nat) (this_arg : Nat) (this_codes : Int32) (this_names : Nat) (this_readNames : Nat) (this_namesMany : Int32) (this_readMany : Int32) (this_once : Int32) (this_lines : Nat) (this_facts : Nat) (this_pile : Nat) (this_state : Nat) (this_state_f : Nat → Int32) (this_undos : Int32) (this_isMarked : Nat) (this_weight : Int32) (this_rounding : Int32) (this_lacks : Nat) (this_alikes : Nat) (this_g : Int64) : va_W := [(this, .inr (10, [.int this_thrown, .ref this_tape, .int this_taped, .int this_size, .ref this_sort, .ref this_place, .ref this_value, .int this_at, .int this_fault, .ref this_words, .ref this_towns, .ref this_op, .ref this_arg, .int this_codes, .ref this_names, .ref this_readNames, .int this_namesMany, .int this_readMany, .int this_once, .ref this_lines, .ref this_facts, .ref this_pile, .ref this_state, .int this_undos, .ref this_isMarked, .int this_weight, .int this_rounding, .ref this_lacks, .ref this_alikes, .long this_g])), (this_towns, .inl (k 0, 60, .inl this_towns_f)), (this_state, .inl (k 0, 1104, .inl this_state_f))]
set_option maxHeartbeats 4000000 in
set_option maxRecDepth 100000 in
theorem c_X12_weighsOf (l : Launch) (D : va_G) (k : Nat → ClassId) (this : Nat) (this_thrown : Int32) (this_tape : Nat) (this_taped : Int32) (this_size : Int32) (this_sort : Nat) (this_place : Nat) (this_value : Nat) (this_at : Int32) (this_fault : Int32) (this_words : Nat) (this_towns : Nat) (this_towns_f : Nat → Int32) (this_op : Nat) (this_arg : Nat) (this_codes : Int32) (this_names : Nat) (this_readNames : Nat) (this_namesMany : Int32) (this_readMany : Int32) (this_once : Int32) (this_lines : Nat) (this_facts : Nat) (this_pile : Nat) (this_state : Nat) (this_state_f : Nat → Int32) (this_undos : Int32) (this_isMarked : Nat) (this_weight : Int32) (this_rounding : Int32) (this_lacks : Nat) (this_alikes : Nat) (this_g : Int64) (q1 : Int32) (q2 : Int32) (R0 : Int32) (hm : m_X12_weighsOf this_towns_f this_state_f q1 q2 = some R0) : CR l D (TY k) yX12_weighsOf cX12_weighsOf 5 (some .int) 1 22 [.ref this, .int q1, .int q2] (wd_X12_weighsOf k this this_thrown this_tape this_taped this_size this_sort this_place this_value this_at this_fault this_words this_towns this_towns_f this_op this_arg this_codes this_names this_readNames this_namesMany this_readMany this_once this_lines this_facts this_pile this_state this_state_f this_undos this_isMarked this_weight this_rounding this_lacks this_alikes this_g) (some (.int R0)) := by
  refine CR.mk (by decide) (Nat.le_of_ble_eq_true rfl) ?_
  intro p e s m args below meth c ls ⟨hx, hb, hr, hts, hown, hlocks, hml⟩ hP hG hl
  have hl : lv_has ls 5 [(0, .ref this), (1, .int q1), (2, .int q2)] := hl
  unfold m_X12_weighsOf at hm
  refine lv_aload_n (pc := 0) hx hb dX12_weighsOf_0 rfl (lv_at hl 0 rfl) ?_
  refine va_get (pc := 1) (D := D) (ci := 10) (C := RX12) (T := TX12) (N := 30) hx hb hts hiX12 hown hG.1 hP 0 rfl rfl 22 (Nat.le_of_ble_eq_true rfl) (hts _ kw_1279) (fun _ h9 => h9) rfl dX12_weighsOf_1 ?_
  refine lv_iload_n (pc := 4) hx hb dX12_weighsOf_4 rfl (lv_at hl 1 rfl) ?_
  refine lv_iconst (v := 1) (pc := 5) hx hb dX12_weighsOf_5 (by decide) ?_
  refine lv_iadd (pc := 6) hx hb dX12_weighsOf_6 ?_
  refine lv_iload_n (pc := 7) hx hb dX12_weighsOf_7 rfl (lv_at hl 2 rfl) ?_
  refine lv_iadd (pc := 8) hx hb dX12_weighsOf_8 ?_
  obtain ⟨hin, hm⟩ := gd hm
  refine va_iald (pc := 9) (D := D) hx hb hG.1 hP 2 0 rfl rfl hin dX12_weighsOf_9 ?_
  obtain ⟨z3, hv, hm⟩ := bd hm
  refine lv_topi (fun w ew => ?_)
  obtain rfl : z3 = w := (Option.some.inj hv).symm.trans ew.symm
  refine lv_istore_n (lv' := [(3, .int z3), (0, .ref this), (1, .int q1), (2, .int q2)]) (pc := 10) hx hb dX12_weighsOf_10 rfl hl (Nat.le_of_ble_eq_true rfl) rfl (fun ls hl => ?_)
  refine lv_aload_n (pc := 11) hx hb dX12_weighsOf_11 rfl (lv_at hl 1 rfl) ?_
  refine lv_iload_n (pc := 12) hx hb dX12_weighsOf_12 rfl (lv_at hl 3 rfl) ?_
  refine lv_iconst (v := 0) (pc := 13) hx hb dX12_weighsOf_13 (by decide) ?_
  obtain ⟨r4, hcl, hm⟩ := bd hm
  refine cr_back (run_V (pc := 14) (n := 2) (As := [.int q2, .int 0]) (rest := []) ⟨hx, hb, hml, hown, hts⟩ (c_X12_personOf l D k this this_thrown this_tape this_taped this_size this_sort this_place this_value this_at this_fault this_words this_towns this_towns_f this_op this_arg this_codes this_names this_readNames this_namesMany this_readMany this_once this_lines this_facts this_pile this_state this_undos this_isMarked this_weight this_rounding this_lacks this_alikes this_g q2 0 r4 hcl) ⟨kw_1256, kw_16, by decide +kernel⟩ kw_1253 kw_1255 ks_98 ⟨Nat.le_of_ble_eq_true rfl, Nat.le_of_ble_eq_true rfl⟩ pr_blind (prR (hP.sub [0, 1] rfl) hG) (va_recv hG.1 hP (ci := 10) (q0 := 0) rfl rfl) rfl hl.1 rfl (Nat.le_of_ble_eq_true rfl) dX12_weighsOf_14 ⟨Nat.zero_le _, Nat.zero_le _⟩) ?_
  refine lv_istore (lv' := [(4, .int r4), (3, .int z3), (0, .ref this), (1, .int q1), (2, .int q2)]) (pc := 17) hx hb dX12_weighsOf_17 hl (Nat.le_of_ble_eq_true rfl) rfl (fun ls hl => ?_)
  refine lv_iload (pc := 19) hx hb dX12_weighsOf_19 (lv_at hl 0 rfl) ?_
  refine lv_iconst (v := 1) (pc := 21) hx hb dX12_weighsOf_21 (by decide) ?_
  refine lv_icmp_ne (tgt := 40) (pc := 22) hx hb dX12_weighsOf_22 (by decide) (fun hc => ?_) (fun hc => ?_)
  · rw [if_neg hc] at hm
    refine lv_iload (pc := 40) hx hb dX12_weighsOf_40 (lv_at hl 0 rfl) ?_
    refine lv_iconst (v := 2) (pc := 42) hx hb dX12_weighsOf_42 (by decide) ?_
    refine lv_icmp_ne (tgt := 52) (pc := 43) hx hb dX12_weighsOf_43 (by decide) (fun hc => ?_) (fun hc => ?_)
    · rw [if_neg hc] at hm
      refine lv_iload (pc := 52) hx hb dX12_weighsOf_52 (lv_at hl 0 rfl) ?_
      refine lv_iconst (v := 3) (pc := 54) hx hb dX12_weighsOf_54 (by decide) ?_
      refine lv_icmp_ne (tgt := 64) (pc := 55) hx hb dX12_weighsOf_55 (by decide) (fun hc => ?_) (fun hc => ?_)
      · rw [if_neg hc] at hm
        refine lv_iload_n (pc := 64) hx hb dX12_weighsOf_64 rfl (lv_at hl 1 rfl) ?_
        rw [← Option.some.inj hm]
        exact W.iret hx hb hr (fun t ht _ => ⟨rfl, ht⟩) (fun _ h => by cases h) dX12_weighsOf_65 hlocks
      · rw [if_pos hc] at hm
        refine lv_iload_n (pc := 58) hx hb dX12_weighsOf_58 rfl (lv_at hl 1 rfl) ?_
        refine lv_iconst (v := 2) (pc := 59) hx hb dX12_weighsOf_59 (by decide) ?_
        refine lv_idiv (pc := 60) hx hb dX12_weighsOf_60 (by decide) ?_
        refine lv_goto (tgt := 65) (pc := 61) hx hb dX12_weighsOf_61 (by decide) ?_
        rw [← Option.some.inj hm]
        exact W.iret hx hb hr (fun t ht _ => ⟨rfl, ht⟩) (fun _ h => by cases h) dX12_weighsOf_65 hlocks
    · rw [if_pos hc] at hm
      refine lv_iconst (v := 2) (pc := 46) hx hb dX12_weighsOf_46 (by decide) ?_
      refine lv_iload_n (pc := 47) hx hb dX12_weighsOf_47 rfl (lv_at hl 1 rfl) ?_
      refine lv_imul (pc := 48) hx hb dX12_weighsOf_48 ?_
      refine lv_goto (tgt := 65) (pc := 49) hx hb dX12_weighsOf_49 (by decide) ?_
      rw [← Option.some.inj hm]
      exact W.iret hx hb hr (fun t ht _ => ⟨rfl, ht⟩) (fun _ h => by cases h) dX12_weighsOf_65 hlocks
  · rw [if_pos hc] at hm
    refine lv_iload_n (pc := 25) hx hb dX12_weighsOf_25 rfl (lv_at hl 1 rfl) ?_
    refine lv_if_le (tgt := 36) (pc := 26) hx hb dX12_weighsOf_26 (by decide) (fun hc => ?_) (fun hc => ?_)
    · rw [if_pos hc] at hm
      refine lv_iconst (v := 0) (pc := 36) hx hb dX12_weighsOf_36 (by decide) ?_
      refine lv_goto (tgt := 65) (pc := 37) hx hb dX12_weighsOf_37 (by decide) ?_
      rw [← Option.some.inj hm]
      exact W.iret hx hb hr (fun t ht _ => ⟨rfl, ht⟩) (fun _ h => by cases h) dX12_weighsOf_65 hlocks
    · rw [if_neg hc] at hm
      refine lv_iload_n (pc := 29) hx hb dX12_weighsOf_29 rfl (lv_at hl 1 rfl) ?_
      refine lv_bipush (v := 10) (pc := 30) hx hb dX12_weighsOf_30 (by decide) ?_
      refine lv_iadd (pc := 32) hx hb dX12_weighsOf_32 ?_
      refine lv_goto (tgt := 65) (pc := 33) hx hb dX12_weighsOf_33 (by decide) ?_
      rw [← Option.some.inj hm]
      exact W.iret hx hb hr (fun t ht _ => ⟨rfl, ht⟩) (fun _ h => by cases h) dX12_weighsOf_65 hlocks
theorem dX12_weighsAll_0 : decode cX12_weighsAll 0 = .ok (.iconst 0, 1) := by decide +kernel
theorem dX12_weighsAll_1 : decode cX12_weighsAll 1 = .ok (.istore_n 2, 1) := by decide +kernel
theorem dX12_weighsAll_2 : decode cX12_weighsAll 2 = .ok (.iconst 0, 1) := by decide +kernel
theorem dX12_weighsAll_3 : decode cX12_weighsAll 3 = .ok (.istore_n 3, 1) := by decide +kernel
theorem dX12_weighsAll_4 : decode cX12_weighsAll 4 = .ok (.iload_n 3, 1) := by decide +kernel
theorem dX12_weighsAll_5 : decode cX12_weighsAll 5 = .ok (.aload_n 0, 1) := by decide +kernel
theorem dX12_weighsAll_6 : decode cX12_weighsAll 6 = .ok (.invokevirtual 255, 3) := by decide +kernel
theorem dX12_weighsAll_9 : decode cX12_weighsAll 9 = .ok (.if_icmp .ge 18, 3) := by decide +kernel
theorem dX12_weighsAll_12 : decode cX12_weighsAll 12 = .ok (.iload_n 2, 1) := by decide +kernel
theorem dX12_weighsAll_13 : decode cX12_weighsAll 13 = .ok (.aload_n 0, 1) := by decide +kernel
theorem dX12_weighsAll_14 : decode cX12_weighsAll 14 = .ok (.iload_n 1, 1) := by decide +kernel
theorem dX12_weighsAll_15 : decode cX12_weighsAll 15 = .ok (.iload_n 3, 1) := by decide +kernel
theorem dX12_weighsAll_16 : decode cX12_weighsAll 16 = .ok (.invokevirtual 281, 3) := by decide +kernel
theorem dX12_weighsAll_19 : decode cX12_weighsAll 19 = .ok (.iadd, 1) := by decide +kernel
theorem dX12_weighsAll_20 : decode cX12_weighsAll 20 = .ok (.istore_n 2, 1) := by decide +kernel
theorem dX12_weighsAll_21 : decode cX12_weighsAll 21 = .ok (.iinc 3 1, 3) := by decide +kernel
theorem dX12_weighsAll_24 : decode cX12_weighsAll 24 = .ok (.goto (-20), 3) := by decide +kernel
theorem dX12_weighsAll_27 : decode cX12_weighsAll 27 = .ok (.iload_n 2, 1) := by decide +kernel
theorem dX12_weighsAll_28 : decode cX12_weighsAll 28 = .ok (.ireturn, 1) := by decide +kernel
abbrev wd_X12_weighsAll (k : Nat → ClassId) (this : Nat) (this_thrown : Int32) (this_tape : Nat) (this_taped : Int32) (this_size : Int32) (this_sort : Nat) (this_place : Nat) (this_value : Nat) (this_at : Int32) (this_fault : Int32) (this_words : Nat) (this_towns : Nat) (this_towns_f : Nat → Int32) (this_op : Nat) (this_arg : Nat) (this_codes : Int32) (this_names : Nat) (this_readNames : Nat) (this_namesMany : Int32) (this_readMany : Int32) (this_once : Int32) (this_lines : Nat) (this_facts : Nat) (this_pile : Nat) (this_state : Nat) (this_state_f : Nat → Int32) (this_undos : Int32) (this_isMarked : Nat) (this_weight : Int32) (this_rounding : Int32) (this_lacks : Nat) (this_alikes : Nat) (this_g : Int64) : va_W := [(this, .inr (10, [.int this_thrown, .ref this_tape, .int this_taped, .int this_size, .ref this_sort, .ref this_place, .ref this_value, .int this_at, .int this_fault, .ref this_words, .ref this_towns, .ref this_op, .ref this_arg, .int this_codes, .ref this_names, .ref this_readNames, .int this_namesMany, .int this_readMany, .int this_once, .ref this_lines, .ref this_facts, .ref this_pile, .ref this_state, .int this_undos, .ref this_isMarked, .int this_weight, .int this_rounding, .ref this_lacks, .ref this_alikes, .long this_g])), (this_towns, .inl (k 0, 60, .inl this_towns_f)), (this_state, .inl (k 0, 1104, .inl this_state_f))]
set_option maxHeartbeats 4000000 in
set_option maxRecDepth 100000 in
theorem c_X12_weighsAll (l : Launch) (D : va_G) (k : Nat → ClassId) (this : Nat) (this_thrown : Int32) (this_tape : Nat) (this_taped : Int32) (this_size : Int32) (this_sort : Nat) (this_place : Nat) (this_value : Nat) (this_at : Int32) (this_fault : Int32) (this_words : Nat) (this_towns : Nat) (this_towns_f : Nat → Int32) (this_op : Nat) (this_arg : Nat) (this_codes : Int32) (this_names : Nat) (this_readNames : Nat) (this_namesMany : Int32) (this_readMany : Int32) (this_once : Int32) (this_lines : Nat) (this_facts : Nat) (this_pile : Nat) (this_state : Nat) (this_state_f : Nat → Int32) (this_undos : Int32) (this_isMarked : Nat) (this_weight : Int32) (this_rounding : Int32) (this_lacks : Nat) (this_alikes : Nat) (this_g : Int64) (q1 : Int32) (R0 : Int32) (hm : m_X12_weighsAll this_towns_f this_state_f q1 = some R0) : CR l D (TY k) yX12_weighsAll cX12_weighsAll 4 (some .int) 2 46 [.ref this, .int q1] (wd_X12_weighsAll k this this_thrown this_tape this_taped this_size this_sort this_place this_value this_at this_fault this_words this_towns this_towns_f this_op this_arg this_codes this_names this_readNames this_namesMany this_readMany this_once this_lines this_facts this_pile this_state this_state_f this_undos this_isMarked this_weight this_rounding this_lacks this_alikes this_g) (some (.int R0)) := by
  refine CR.mk (by decide) (Nat.le_of_ble_eq_true rfl) ?_
  intro p e s m args below meth c ls ⟨hx, hb, hr, hts, hown, hlocks, hml⟩ hP hG hl
  have hl : lv_has ls 4 [(0, .ref this), (1, .int q1)] := hl
  have h_4 : ∀ (n : Nat), ∀ (x2 : Int32) (x3 : Int32) (ls : Array Slot), lv_has ls 4 [(0, .ref this), (1, .int q1), (2, .int x2), (3, .int x3)] → m_X12_weighsAll_4 this_towns_f this_state_f q1 n x2 x3 = some R0 → W p l e (Rm 2 46) s m args below meth c s.heap [] 0 0 (MQ below (QR (some (.int R0))) args s 0 0 (fun _ => False)) (F0 m 4 ls []) := by
    intro n
    induction n with
    | zero => intro x2 x3 ls hl hm; cases hm
    | succ n ih =>
      intro x2 x3 ls hl hm
      unfold m_X12_weighsAll_4 at hm
      refine lv_iload_n (pc := 4) hx hb dX12_weighsAll_4 rfl (lv_at hl 3 rfl) ?_
      refine lv_aload_n (pc := 5) hx hb dX12_weighsAll_5 rfl (lv_at hl 0 rfl) ?_
      obtain ⟨r3, hcl, hm⟩ := bd hm
      refine cr_back (run_V (pc := 6) (n := 0) (As := []) (rest := [.int x3]) ⟨hx, hb, hml, hown, hts⟩ (c_X12_persons l D k this this_thrown this_tape this_taped this_size this_sort this_place this_value this_at this_fault this_words this_towns this_towns_f this_op this_arg this_codes this_names this_readNames this_namesMany this_readMany this_once this_lines this_facts this_pile this_state this_undos this_isMarked this_weight this_rounding this_lacks this_alikes this_g r3 hcl) ⟨kw_1252, kw_16, by decide +kernel⟩ kw_1249 kw_1251 ks_97 ⟨Nat.le_of_ble_eq_true rfl, Nat.le_of_ble_eq_true rfl⟩ pr_blind (prR (hP.sub [0, 1] rfl) hG) (va_recv hG.1 hP (ci := 10) (q0 := 0) rfl rfl) rfl hl.1 rfl (Nat.le_of_ble_eq_true rfl) dX12_weighsAll_6 ⟨Nat.zero_le _, Nat.zero_le _⟩) ?_
      refine lv_icmp_ge (tgt := 27) (pc := 9) hx hb dX12_weighsAll_9 (by decide) (fun hc => ?_) (fun hc => ?_)
      · rw [if_pos hc] at hm
        refine lv_iload_n (pc := 27) hx hb dX12_weighsAll_27 rfl (lv_at hl 2 rfl) ?_
        rw [← Option.some.inj hm]
        exact W.iret hx hb hr (fun t ht _ => ⟨rfl, ht⟩) (fun _ h => by cases h) dX12_weighsAll_28 hlocks
      · rw [if_neg hc] at hm
        refine lv_iload_n (pc := 12) hx hb dX12_weighsAll_12 rfl (lv_at hl 2 rfl) ?_
        refine lv_aload_n (pc := 13) hx hb dX12_weighsAll_13 rfl (lv_at hl 0 rfl) ?_
        refine lv_iload_n (pc := 14) hx hb dX12_weighsAll_14 rfl (lv_at hl 1 rfl) ?_
        refine lv_iload_n (pc := 15) hx hb dX12_weighsAll_15 rfl (lv_at hl 3 rfl) ?_
        obtain ⟨r4, hcl, hm⟩ := bd hm
        refine cr_back (run_V (pc := 16) (n := 2) (As := [.int q1, .int x3]) (rest := [.int x2]) ⟨hx, hb, hml, hown, hts⟩ (c_X12_weighsOf l D k this this_thrown this_tape this_taped this_size this_sort this_place this_value this_at this_fault this_words this_towns this_towns_f this_op this_arg this_codes this_names this_readNames this_namesMany this_readMany this_once this_lines this_facts this_pile this_state this_state_f this_undos this_isMarked this_weight this_rounding this_lacks this_alikes this_g q1 x3 r4 hcl) ⟨kw_1483, kw_16, by decide +kernel⟩ kw_1480 kw_1482 ks_125 ⟨Nat.le_of_ble_eq_true rfl, Nat.le_of_ble_eq_true rfl⟩ pr_blind (prR (hP.sub [0, 1, 2] rfl) hG) (va_recv hG.1 hP (ci := 10) (q0 := 0) rfl rfl) rfl hl.1 rfl (Nat.le_of_ble_eq_true rfl) dX12_weighsAll_16 ⟨Nat.zero_le _, Nat.zero_le _⟩) ?_
        refine lv_iadd (pc := 19) hx hb dX12_weighsAll_19 ?_
        refine lv_istore_n (lv' := [(2, .int (x2 + r4)), (0, .ref this), (1, .int q1), (3, .int x3)]) (pc := 20) hx hb dX12_weighsAll_20 rfl hl (Nat.le_of_ble_eq_true rfl) rfl (fun ls hl => ?_)
        refine lv_iinc (k := 3) (v := x3 + 1) (lv' := [(3, .int (x3 + 1)), (2, .int (x2 + r4)), (0, .ref this), (1, .int q1)]) (pc := 21) hx hb dX12_weighsAll_21 hl rfl rfl (Nat.le_of_ble_eq_true rfl) rfl (fun ls hl => ?_)
        refine lv_goto (tgt := 4) (pc := 24) hx hb dX12_weighsAll_24 (by decide) ?_
        exact ih (x2 + r4) (x3 + 1) ls (lv_sub hl [2, 3, 1, 0] rfl) hm
  unfold m_X12_weighsAll at hm
  refine lv_iconst (v := 0) (pc := 0) hx hb dX12_weighsAll_0 (by decide) ?_
  refine lv_istore_n (lv' := [(2, .int 0), (0, .ref this), (1, .int q1)]) (pc := 1) hx hb dX12_weighsAll_1 rfl hl (Nat.le_of_ble_eq_true rfl) rfl (fun ls hl => ?_)
  refine lv_iconst (v := 0) (pc := 2) hx hb dX12_weighsAll_2 (by decide) ?_
  refine lv_istore_n (lv' := [(3, .int 0), (2, .int 0), (0, .ref this), (1, .int q1)]) (pc := 3) hx hb dX12_weighsAll_3 rfl hl (Nat.le_of_ble_eq_true rfl) rfl (fun ls hl => ?_)
  exact h_4 FU 0 0 ls (lv_sub hl [2, 3, 1, 0] rfl) hm
theorem dX12_highBy_0 : decode cX12_highBy 0 = .ok (.aload_n 0, 1) := by decide +kernel
theorem dX12_highBy_1 : decode cX12_highBy 1 = .ok (.getfield 274, 3) := by decide +kernel
theorem dX12_highBy_4 : decode cX12_highBy 4 = .ok (.ifCond .ne 12, 3) := by decide +kernel
theorem dX12_highBy_7 : decode cX12_highBy 7 = .ok (.iload_n 1, 1) := by decide +kernel
theorem dX12_highBy_8 : decode cX12_highBy 8 = .ok (.aload_n 0, 1) := by decide +kernel
theorem dX12_highBy_9 : decode cX12_highBy 9 = .ok (.getfield 271, 3) := by decide +kernel
theorem dX12_highBy_12 : decode cX12_highBy 12 = .ok (.idiv, 1) := by decide +kernel
theorem dX12_highBy_13 : decode cX12_highBy 13 = .ok (.goto 42, 3) := by decide +kernel
theorem dX12_highBy_16 : decode cX12_highBy 16 = .ok (.aload_n 0, 1) := by decide +kernel
theorem dX12_highBy_17 : decode cX12_highBy 17 = .ok (.getfield 274, 3) := by decide +kernel
theorem dX12_highBy_20 : decode cX12_highBy 20 = .ok (.iconst 1, 1) := by decide +kernel
theorem dX12_highBy_21 : decode cX12_highBy 21 = .ok (.if_icmp .ne 19, 3) := by decide +kernel
theorem dX12_highBy_24 : decode cX12_highBy 24 = .ok (.iload_n 1, 1) := by decide +kernel
theorem dX12_highBy_25 : decode cX12_highBy 25 = .ok (.aload_n 0, 1) := by decide +kernel
theorem dX12_highBy_26 : decode cX12_highBy 26 = .ok (.getfield 271, 3) := by decide +kernel
theorem dX12_highBy_29 : decode cX12_highBy 29 = .ok (.iadd, 1) := by decide +kernel
theorem dX12_highBy_30 : decode cX12_highBy 30 = .ok (.iconst 1, 1) := by decide +kernel
theorem dX12_highBy_31 : decode cX12_highBy 31 = .ok (.isub, 1) := by decide +kernel
theorem dX12_highBy_32 : decode cX12_highBy 32 = .ok (.aload_n 0, 1) := by decide +kernel
theorem dX12_highBy_33 : decode cX12_highBy 33 = .ok (.getfield 271, 3) := by decide +kernel
theorem dX12_highBy_36 : decode cX12_highBy 36 = .ok (.idiv, 1) := by decide +kernel
theorem dX12_highBy_37 : decode cX12_highBy 37 = .ok (.goto 18, 3) := by decide +kernel
theorem dX12_highBy_40 : decode cX12_highBy 40 = .ok (.iconst 2, 1) := by decide +kernel
theorem dX12_highBy_41 : decode cX12_highBy 41 = .ok (.iload_n 1, 1) := by decide +kernel
theorem dX12_highBy_42 : decode cX12_highBy 42 = .ok (.imul, 1) := by decide +kernel
theorem dX12_highBy_43 : decode cX12_highBy 43 = .ok (.aload_n 0, 1) := by decide +kernel
theorem dX12_highBy_44 : decode cX12_highBy 44 = .ok (.getfield 271, 3) := by decide +kernel
theorem dX12_highBy_47 : decode cX12_highBy 47 = .ok (.iadd, 1) := by decide +kernel
theorem dX12_highBy_48 : decode cX12_highBy 48 = .ok (.iconst 2, 1) := by decide +kernel
theorem dX12_highBy_49 : decode cX12_highBy 49 = .ok (.aload_n 0, 1) := by decide +kernel
theorem dX12_highBy_50 : decode cX12_highBy 50 = .ok (.getfield 271, 3) := by decide +kernel
theorem dX12_highBy_53 : decode cX12_highBy 53 = .ok (.imul, 1) := by decide +kernel
theorem dX12_highBy_54 : decode cX12_highBy 54 = .ok (.idiv, 1) := by decide +kernel
theorem dX12_highBy_55 : decode cX12_highBy 55 = .ok (.istore_n 2, 1) := by decide +kernel
theorem dX12_highBy_56 : decode cX12_highBy 56 = .ok (.aload_n 0, 1) := by decide +kernel
theorem dX12_highBy_57 : decode cX12_highBy 57 = .ok (.getfield 89, 3) := by decide +kernel
theorem dX12_highBy_60 : decode cX12_highBy 60 = .ok (.iconst 1, 1) := by decide +kernel
theorem dX12_highBy_61 : decode cX12_highBy 61 = .ok (.iaload, 1) := by decide +kernel
theorem dX12_highBy_62 : decode cX12_highBy 62 = .ok (.iload_n 2, 1) := by decide +kernel
theorem dX12_highBy_63 : decode cX12_highBy 63 = .ok (.isub, 1) := by decide +kernel
theorem dX12_highBy_64 : decode cX12_highBy 64 = .ok (.iconst 0, 1) := by decide +kernel
theorem dX12_highBy_65 : decode cX12_highBy 65 = .ok (.bipush 99, 2) := by decide +kernel
theorem dX12_highBy_67 : decode cX12_highBy 67 = .ok (.invokestatic 284, 3) := by decide +kernel
theorem dX12_highBy_70 : decode cX12_highBy 70 = .ok (.ireturn, 1) := by decide +kernel
abbrev wd_X12_highBy (k : Nat → ClassId) (this : Nat) (this_thrown : Int32) (this_tape : Nat) (this_taped : Int32) (this_size : Int32) (this_sort : Nat) (this_place : Nat) (this_value : Nat) (this_at : Int32) (this_fault : Int32) (this_words : Nat) (this_towns : Nat) (this_towns_f : Nat → Int32) (this_op : Nat) (this_arg : Nat) (this_codes : Int32) (this_names : Nat) (this_readNames : Nat) (this_namesMany : Int32) (this_readMany : Int32) (this_once : Int32) (this_lines : Nat) (this_facts : Nat) (this_pile : Nat) (this_state : Nat) (this_undos : Int32) (this_isMarked : Nat) (this_weight : Int32) (this_rounding : Int32) (this_lacks : Nat) (this_alikes : Nat) (this_g : Int64) : va_W := [(this, .inr (10, [.int this_thrown, .ref this_tape, .int this_taped, .int this_size, .ref this_sort, .ref this_place, .ref this_value, .int this_at, .int this_fault, .ref this_words, .ref this_towns, .ref this_op, .ref this_arg, .int this_codes, .ref this_names, .ref this_readNames, .int this_namesMany, .int this_readMany, .int this_once, .ref this_lines, .ref this_facts, .ref this_pile, .ref this_state, .int this_undos, .ref this_isMarked, .int this_weight, .int this_rounding, .ref this_lacks, .ref this_alikes, .long this_g])), (this_towns, .inl (k 0, 60, .inl this_towns_f))]
set_option maxHeartbeats 4000000 in
set_option maxRecDepth 100000 in
theorem c_X12_highBy (l : Launch) (D : va_G) (k : Nat → ClassId) (this : Nat) (this_thrown : Int32) (this_tape : Nat) (this_taped : Int32) (this_size : Int32) (this_sort : Nat) (this_place : Nat) (this_value : Nat) (this_at : Int32) (this_fault : Int32) (this_words : Nat) (this_towns : Nat) (this_towns_f : Nat → Int32) (this_op : Nat) (this_arg : Nat) (this_codes : Int32) (this_names : Nat) (this_readNames : Nat) (this_namesMany : Int32) (this_readMany : Int32) (this_once : Int32) (this_lines : Nat) (this_facts : Nat) (this_pile : Nat) (this_state : Nat) (this_undos : Int32) (this_isMarked : Nat) (this_weight : Int32) (this_rounding : Int32) (this_lacks : Nat) (this_alikes : Nat) (this_g : Int64) (q1 : Int32) (R0 : Int32) (hm : m_X12_highBy this_towns_f this_weight this_rounding q1 = some R0) : CR l D (TY k) yX12_highBy cX12_highBy 3 (some .int) 1 22 [.ref this, .int q1] (wd_X12_highBy k this this_thrown this_tape this_taped this_size this_sort this_place this_value this_at this_fault this_words this_towns this_towns_f this_op this_arg this_codes this_names this_readNames this_namesMany this_readMany this_once this_lines this_facts this_pile this_state this_undos this_isMarked this_weight this_rounding this_lacks this_alikes this_g) (some (.int R0)) := by
  refine CR.mk (by decide) (Nat.le_of_ble_eq_true rfl) ?_
  intro p e s m args below meth c ls ⟨hx, hb, hr, hts, hown, hlocks, hml⟩ hP hG hl
  have hl : lv_has ls 3 [(0, .ref this), (1, .int q1)] := hl
  have h_55 : ∀ (t0 : Int32) (ls : Array Slot), lv_has ls 3 [(0, .ref this)] → m_X12_highBy_55 this_towns_f this_weight this_rounding q1 t0 = some R0 → W p l e (Rm 1 22) s m args below meth c s.heap [] 0 0 (MQ below (QR (some (.int R0))) args s 0 0 (fun _ => False)) (F0 m 55 ls [.int t0]) := by
    intro  t0 ls hl hm
    unfold m_X12_highBy_55 at hm
    refine lv_istore_n (lv' := [(2, .int t0), (0, .ref this)]) (pc := 55) hx hb dX12_highBy_55 rfl hl (Nat.le_of_ble_eq_true rfl) rfl (fun ls hl => ?_)
    refine lv_aload_n (pc := 56) hx hb dX12_highBy_56 rfl (lv_at hl 1 rfl) ?_
    refine va_get (pc := 57) (D := D) (ci := 10) (C := RX12) (T := TX12) (N := 30) hx hb hts hiX12 hown hG.1 hP 0 rfl rfl 10 (Nat.le_of_ble_eq_true rfl) (hts _ kw_1267) (fun _ h9 => h9) rfl dX12_highBy_57 ?_
    refine lv_iconst (v := 1) (pc := 60) hx hb dX12_highBy_60 (by decide) ?_
    refine va_iald (pc := 61) (D := D) hx hb hG.1 hP 1 0 rfl rfl (pn_in (Nat.le_of_ble_eq_true rfl) (Nat.le_of_ble_eq_true rfl)) dX12_highBy_61 ?_
    refine lv_iload_n (pc := 62) hx hb dX12_highBy_62 rfl (lv_at hl 0 rfl) ?_
    refine lv_isub (pc := 63) hx hb dX12_highBy_63 ?_
    refine lv_iconst (v := 0) (pc := 64) hx hb dX12_highBy_64 (by decide) ?_
    refine lv_bipush (v := 99) (pc := 65) hx hb dX12_highBy_65 (by decide) ?_
    obtain ⟨r2, hcl, hm⟩ := bd hm
    refine cr_back (run_S (pc := 67) (n := 3) (As := [.int ((this_towns_f (1 : Int32).toNatClampNeg) - t0), .int 0, .int 99]) (rest := []) ⟨hx, hb, hml, hown, hts⟩ (c_X12_kept l D k ((this_towns_f (1 : Int32).toNatClampNeg) - t0) 0 99 r2 hcl) ⟨kw_1490, kw_16, by decide +kernel⟩ kw_1488 kw_1489 ⟨Nat.le_of_ble_eq_true rfl, Nat.le_of_ble_eq_true rfl⟩ pr_blind (prR (hP.sub [] rfl) hG) rfl hl.1 rfl (Nat.le_of_ble_eq_true rfl) dX12_highBy_67 ⟨Nat.zero_le _, Nat.zero_le _⟩) ?_
    rw [← Option.some.inj hm]
    exact W.iret hx hb hr (fun t ht _ => ⟨rfl, ht⟩) (fun _ h => by cases h) dX12_highBy_70 hlocks
  unfold m_X12_highBy at hm
  refine lv_aload_n (pc := 0) hx hb dX12_highBy_0 rfl (lv_at hl 0 rfl) ?_
  refine va_get (pc := 1) (D := D) (ci := 10) (C := RX12) (T := TX12) (N := 30) hx hb hts hiX12 hown hG.1 hP 0 rfl rfl 26 (Nat.le_of_ble_eq_true rfl) (hts _ kw_1283) (fun _ h9 => h9) rfl dX12_highBy_1 ?_
  refine lv_if_ne (tgt := 16) (pc := 4) hx hb dX12_highBy_4 (by decide) (fun hc => ?_) (fun hc => ?_)
  · rw [if_neg hc] at hm
    refine lv_aload_n (pc := 16) hx hb dX12_highBy_16 rfl (lv_at hl 0 rfl) ?_
    refine va_get (pc := 17) (D := D) (ci := 10) (C := RX12) (T := TX12) (N := 30) hx hb hts hiX12 hown hG.1 hP 0 rfl rfl 26 (Nat.le_of_ble_eq_true rfl) (hts _ kw_1283) (fun _ h9 => h9) rfl dX12_highBy_17 ?_
    refine lv_iconst (v := 1) (pc := 20) hx hb dX12_highBy_20 (by decide) ?_
    refine lv_icmp_ne (tgt := 40) (pc := 21) hx hb dX12_highBy_21 (by decide) (fun hc => ?_) (fun hc => ?_)
    · rw [if_neg hc] at hm
      refine lv_iconst (v := 2) (pc := 40) hx hb dX12_highBy_40 (by decide) ?_
      refine lv_iload_n (pc := 41) hx hb dX12_highBy_41 rfl (lv_at hl 1 rfl) ?_
      refine lv_imul (pc := 42) hx hb dX12_highBy_42 ?_
      refine lv_aload_n (pc := 43) hx hb dX12_highBy_43 rfl (lv_at hl 0 rfl) ?_
      refine va_get (pc := 44) (D := D) (ci := 10) (C := RX12) (T := TX12) (N := 30) hx hb hts hiX12 hown hG.1 hP 0 rfl rfl 25 (Nat.le_of_ble_eq_true rfl) (hts _ kw_1282) (fun _ h9 => h9) rfl dX12_highBy_44 ?_
      refine lv_iadd (pc := 47) hx hb dX12_highBy_47 ?_
      refine lv_iconst (v := 2) (pc := 48) hx hb dX12_highBy_48 (by decide) ?_
      refine lv_aload_n (pc := 49) hx hb dX12_highBy_49 rfl (lv_at hl 0 rfl) ?_
      refine va_get (pc := 50) (D := D) (ci := 10) (C := RX12) (T := TX12) (N := 30) hx hb hts hiX12 hown hG.1 hP 0 rfl rfl 25 (Nat.le_of_ble_eq_true rfl) (hts _ kw_1282) (fun _ h9 => h9) rfl dX12_highBy_50 ?_
      refine lv_imul (pc := 53) hx hb dX12_highBy_53 ?_
      obtain ⟨hnz, hm⟩ := gd hm
      refine lv_idiv (pc := 54) hx hb dX12_highBy_54 hnz ?_
      exact h_55 (((2 * q1) + this_weight) / (2 * this_weight)) ls (lv_sub hl [0] rfl) hm
    · rw [if_pos hc] at hm
      refine lv_iload_n (pc := 24) hx hb dX12_highBy_24 rfl (lv_at hl 1 rfl) ?_
      refine lv_aload_n (pc := 25) hx hb dX12_highBy_25 rfl (lv_at hl 0 rfl) ?_
      refine va_get (pc := 26) (D := D) (ci := 10) (C := RX12) (T := TX12) (N := 30) hx hb hts hiX12 hown hG.1 hP 0 rfl rfl 25 (Nat.le_of_ble_eq_true rfl) (hts _ kw_1282) (fun _ h9 => h9) rfl dX12_highBy_26 ?_
      refine lv_iadd (pc := 29) hx hb dX12_highBy_29 ?_
      refine lv_iconst (v := 1) (pc := 30) hx hb dX12_highBy_30 (by decide) ?_
      refine lv_isub (pc := 31) hx hb dX12_highBy_31 ?_
      refine lv_aload_n (pc := 32) hx hb dX12_highBy_32 rfl (lv_at hl 0 rfl) ?_
      refine va_get (pc := 33) (D := D) (ci := 10) (C := RX12) (T := TX12) (N := 30) hx hb hts hiX12 hown hG.1 hP 0 rfl rfl 25 (Nat.le_of_ble_eq_true rfl) (hts _ kw_1282) (fun _ h9 => h9) rfl dX12_highBy_33 ?_
      obtain ⟨hnz, hm⟩ := gd hm
      refine lv_idiv (pc := 36) hx hb dX12_highBy_36 hnz ?_
      refine lv_goto (tgt := 55) (pc := 37) hx hb dX12_highBy_37 (by decide) ?_
      exact h_55 (((q1 + this_weight) - 1) / this_weight) ls (lv_sub hl [0] rfl) hm
  · rw [if_pos hc] at hm
    refine lv_iload_n (pc := 7) hx hb dX12_highBy_7 rfl (lv_at hl 1 rfl) ?_
    refine lv_aload_n (pc := 8) hx hb dX12_highBy_8 rfl (lv_at hl 0 rfl) ?_
    refine va_get (pc := 9) (D := D) (ci := 10) (C := RX12) (T := TX12) (N := 30) hx hb hts hiX12 hown hG.1 hP 0 rfl rfl 25 (Nat.le_of_ble_eq_true rfl) (hts _ kw_1282) (fun _ h9 => h9) rfl dX12_highBy_9 ?_
    obtain ⟨hnz, hm⟩ := gd hm
    refine lv_idiv (pc := 12) hx hb dX12_highBy_12 hnz ?_
    refine lv_goto (tgt := 55) (pc := 13) hx hb dX12_highBy_13 (by decide) ?_
    exact h_55 (q1 / this_weight) ls (lv_sub hl [0] rfl) hm
theorem dX12_highOf_0 : decode cX12_highOf 0 = .ok (.aload_n 0, 1) := by decide +kernel
theorem dX12_highOf_1 : decode cX12_highOf 1 = .ok (.aload_n 0, 1) := by decide +kernel
theorem dX12_highOf_2 : decode cX12_highOf 2 = .ok (.iload_n 1, 1) := by decide +kernel
theorem dX12_highOf_3 : decode cX12_highOf 3 = .ok (.invokevirtual 287, 3) := by decide +kernel
theorem dX12_highOf_6 : decode cX12_highOf 6 = .ok (.invokevirtual 290, 3) := by decide +kernel
theorem dX12_highOf_9 : decode cX12_highOf 9 = .ok (.ireturn, 1) := by decide +kernel
abbrev wd_X12_highOf (k : Nat → ClassId) (this : Nat) (this_thrown : Int32) (this_tape : Nat) (this_taped : Int32) (this_size : Int32) (this_sort : Nat) (this_place : Nat) (this_value : Nat) (this_at : Int32) (this_fault : Int32) (this_words : Nat) (this_towns : Nat) (this_towns_f : Nat → Int32) (this_op : Nat) (this_arg : Nat) (this_codes : Int32) (this_names : Nat) (this_readNames : Nat) (this_namesMany : Int32) (this_readMany : Int32) (this_once : Int32) (this_lines : Nat) (this_facts : Nat) (this_pile : Nat) (this_state : Nat) (this_state_f : Nat → Int32) (this_undos : Int32) (this_isMarked : Nat) (this_weight : Int32) (this_rounding : Int32) (this_lacks : Nat) (this_alikes : Nat) (this_g : Int64) : va_W := [(this, .inr (10, [.int this_thrown, .ref this_tape, .int this_taped, .int this_size, .ref this_sort, .ref this_place, .ref this_value, .int this_at, .int this_fault, .ref this_words, .ref this_towns, .ref this_op, .ref this_arg, .int this_codes, .ref this_names, .ref this_readNames, .int this_namesMany, .int this_readMany, .int this_once, .ref this_lines, .ref this_facts, .ref this_pile, .ref this_state, .int this_undos, .ref this_isMarked, .int this_weight, .int this_rounding, .ref this_lacks, .ref this_alikes, .long this_g])), (this_towns, .inl (k 0, 60, .inl this_towns_f)), (this_state, .inl (k 0, 1104, .inl this_state_f))]
set_option maxHeartbeats 4000000 in
set_option maxRecDepth 100000 in
theorem c_X12_highOf (l : Launch) (D : va_G) (k : Nat → ClassId) (this : Nat) (this_thrown : Int32) (this_tape : Nat) (this_taped : Int32) (this_size : Int32) (this_sort : Nat) (this_place : Nat) (this_value : Nat) (this_at : Int32) (this_fault : Int32) (this_words : Nat) (this_towns : Nat) (this_towns_f : Nat → Int32) (this_op : Nat) (this_arg : Nat) (this_codes : Int32) (this_names : Nat) (this_readNames : Nat) (this_namesMany : Int32) (this_readMany : Int32) (this_once : Int32) (this_lines : Nat) (this_facts : Nat) (this_pile : Nat) (this_state : Nat) (this_state_f : Nat → Int32) (this_undos : Int32) (this_isMarked : Nat) (this_weight : Int32) (this_rounding : Int32) (this_lacks : Nat) (this_alikes : Nat) (this_g : Int64) (q1 : Int32) (R0 : Int32) (hm : m_X12_highOf this_towns_f this_state_f this_weight this_rounding q1 = some R0) : CR l D (TY k) yX12_highOf cX12_highOf 2 (some .int) 3 69 [.ref this, .int q1] (wd_X12_highOf k this this_thrown this_tape this_taped this_size this_sort this_place this_value this_at this_fault this_words this_towns this_towns_f this_op this_arg this_codes this_names this_readNames this_namesMany this_readMany this_once this_lines this_facts this_pile this_state this_state_f this_undos this_isMarked this_weight this_rounding this_lacks this_alikes this_g) (some (.int R0)) := by
  refine CR.mk (by decide) (Nat.le_of_ble_eq_true rfl) ?_
  intro p e s m args below meth c ls ⟨hx, hb, hr, hts, hown, hlocks, hml⟩ hP hG hl
  have hl : lv_has ls 2 [(0, .ref this), (1, .int q1)] := hl
  unfold m_X12_highOf at hm
  refine lv_aload_n (pc := 0) hx hb dX12_highOf_0 rfl (lv_at hl 0 rfl) ?_
  refine lv_aload_n (pc := 1) hx hb dX12_highOf_1 rfl (lv_at hl 0 rfl) ?_
  refine lv_iload_n (pc := 2) hx hb dX12_highOf_2 rfl (lv_at hl 1 rfl) ?_
  obtain ⟨r3, hcl, hm⟩ := bd hm
  refine cr_back (run_V (pc := 3) (n := 1) (As := [.int q1]) (rest := [.ref this]) ⟨hx, hb, hml, hown, hts⟩ (c_X12_weighsAll l D k this this_thrown this_tape this_taped this_size this_sort this_place this_value this_at this_fault this_words this_towns this_towns_f this_op this_arg this_codes this_names this_readNames this_namesMany this_readMany this_once this_lines this_facts this_pile this_state this_state_f this_undos this_isMarked this_weight this_rounding this_lacks this_alikes this_g q1 r3 hcl) ⟨kw_1479, kw_16, by decide +kernel⟩ kw_1476 kw_1478 ks_124 ⟨Nat.le_of_ble_eq_true rfl, Nat.le_of_ble_eq_true rfl⟩ pr_blind (prR (hP.sub [0, 1, 2] rfl) hG) (va_recv hG.1 hP (ci := 10) (q0 := 0) rfl rfl) rfl hl.1 rfl (Nat.le_of_ble_eq_true rfl) dX12_highOf_3 ⟨Nat.zero_le _, Nat.zero_le _⟩) ?_
  obtain ⟨r4, hcl, hm⟩ := bd hm
  refine cr_back (run_V (pc := 6) (n := 1) (As := [.int r3]) (rest := []) ⟨hx, hb, hml, hown, hts⟩ (c_X12_highBy l D k this this_thrown this_tape this_taped this_size this_sort this_place this_value this_at this_fault this_words this_towns this_towns_f this_op this_arg this_codes this_names this_readNames this_namesMany this_readMany this_once this_lines this_facts this_pile this_state this_undos this_isMarked this_weight this_rounding this_lacks this_alikes this_g r3 r4 hcl) ⟨kw_1487, kw_16, by decide +kernel⟩ kw_1484 kw_1486 ks_126 ⟨Nat.le_of_ble_eq_true rfl, Nat.le_of_ble_eq_true rfl⟩ pr_blind (prR (hP.sub [0, 1] rfl) hG) (va_recv hG.1 hP (ci := 10) (q0 := 0) rfl rfl) rfl hl.1 rfl (Nat.le_of_ble_eq_true rfl) dX12_highOf_6 ⟨Nat.zero_le _, Nat.zero_le _⟩) ?_
  rw [← Option.some.inj hm]
  exact W.iret hx hb hr (fun t ht _ => ⟨rfl, ht⟩) (fun _ h => by cases h) dX12_highOf_9 hlocks
theorem dX12_loses_0 : decode cX12_loses 0 = .ok (.aload_n 0, 1) := by decide +kernel
theorem dX12_loses_1 : decode cX12_loses 1 = .ok (.getfield 113, 3) := by decide +kernel
theorem dX12_loses_4 : decode cX12_loses 4 = .ok (.iload_n 1, 1) := by decide +kernel
theorem dX12_loses_5 : decode cX12_loses 5 = .ok (.iconst 1, 1) := by decide +kernel
theorem dX12_loses_6 : decode cX12_loses 6 = .ok (.iadd, 1) := by decide +kernel
theorem dX12_loses_7 : decode cX12_loses 7 = .ok (.iload_n 2, 1) := by decide +kernel
theorem dX12_loses_8 : decode cX12_loses 8 = .ok (.iadd, 1) := by decide +kernel
theorem dX12_loses_9 : decode cX12_loses 9 = .ok (.aload_n 0, 1) := by decide +kernel
theorem dX12_loses_10 : decode cX12_loses 10 = .ok (.getfield 113, 3) := by decide +kernel
theorem dX12_loses_13 : decode cX12_loses 13 = .ok (.iload_n 1, 1) := by decide +kernel
theorem dX12_loses_14 : decode cX12_loses 14 = .ok (.iconst 1, 1) := by decide +kernel
theorem dX12_loses_15 : decode cX12_loses 15 = .ok (.iadd, 1) := by decide +kernel
theorem dX12_loses_16 : decode cX12_loses 16 = .ok (.iload_n 2, 1) := by decide +kernel
theorem dX12_loses_17 : decode cX12_loses 17 = .ok (.iadd, 1) := by decide +kernel
theorem dX12_loses_18 : decode cX12_loses 18 = .ok (.iaload, 1) := by decide +kernel
theorem dX12_loses_19 : decode cX12_loses 19 = .ok (.iload_n 3, 1) := by decide +kernel
theorem dX12_loses_20 : decode cX12_loses 20 = .ok (.iadd, 1) := by decide +kernel
theorem dX12_loses_21 : decode cX12_loses 21 = .ok (.iconst 0, 1) := by decide +kernel
theorem dX12_loses_22 : decode cX12_loses 22 = .ok (.bipush 60, 2) := by decide +kernel
theorem dX12_loses_24 : decode cX12_loses 24 = .ok (.invokestatic 284, 3) := by decide +kernel
theorem dX12_loses_27 : decode cX12_loses 27 = .ok (.iastore, 1) := by decide +kernel
theorem dX12_loses_28 : decode cX12_loses 28 = .ok (.return_, 1) := by decide +kernel
abbrev wd_X12_loses (k : Nat → ClassId) (this : Nat) (this_thrown : Int32) (this_tape : Nat) (this_taped : Int32) (this_size : Int32) (this_sort : Nat) (this_place : Nat) (this_value : Nat) (this_at : Int32) (this_fault : Int32) (this_words : Nat) (this_towns : Nat) (this_op : Nat) (this_arg : Nat) (this_codes : Int32) (this_names : Nat) (this_readNames : Nat) (this_namesMany : Int32) (this_readMany : Int32) (this_once : Int32) (this_lines : Nat) (this_facts : Nat) (this_pile : Nat) (this_state : Nat) (this_state_f : Nat → Int32) (this_undos : Int32) (this_isMarked : Nat) (this_weight : Int32) (this_rounding : Int32) (this_lacks : Nat) (this_alikes : Nat) (this_g : Int64) : va_W := [(this, .inr (10, [.int this_thrown, .ref this_tape, .int this_taped, .int this_size, .ref this_sort, .ref this_place, .ref this_value, .int this_at, .int this_fault, .ref this_words, .ref this_towns, .ref this_op, .ref this_arg, .int this_codes, .ref this_names, .ref this_readNames, .int this_namesMany, .int this_readMany, .int this_once, .ref this_lines, .ref this_facts, .ref this_pile, .ref this_state, .int this_undos, .ref this_isMarked, .int this_weight, .int this_rounding, .ref this_lacks, .ref this_alikes, .long this_g])), (this_state, .inl (k 0, 1104, .inl this_state_f))]
set_option maxHeartbeats 4000000 in
set_option maxRecDepth 100000 in
theorem c_X12_loses (l : Launch) (D : va_G) (k : Nat → ClassId) (this : Nat) (this_thrown : Int32) (this_tape : Nat) (this_taped : Int32) (this_size : Int32) (this_sort : Nat) (this_place : Nat) (this_value : Nat) (this_at : Int32) (this_fault : Int32) (this_words : Nat) (this_towns : Nat) (this_op : Nat) (this_arg : Nat) (this_codes : Int32) (this_names : Nat) (this_readNames : Nat) (this_namesMany : Int32) (this_readMany : Int32) (this_once : Int32) (this_lines : Nat) (this_facts : Nat) (this_pile : Nat) (this_state : Nat) (this_state_f : Nat → Int32) (this_undos : Int32) (this_isMarked : Nat) (this_weight : Int32) (this_rounding : Int32) (this_lacks : Nat) (this_alikes : Nat) (this_g : Int64) (q1 : Int32) (q2 : Int32) (q3 : Int32) (R0 : (Nat → Int32)) (hm : m_X12_loses this_state_f q1 q2 q3 = some R0) : CW l D (TY k) yX12_loses cX12_loses 4 none 1 22 [.ref this, .int q1, .int q2, .int q3] (wd_X12_loses k this this_thrown this_tape this_taped this_size this_sort this_place this_value this_at this_fault this_words this_towns this_op this_arg this_codes this_names this_readNames this_namesMany this_readMany this_once this_lines this_facts this_pile this_state this_state_f this_undos this_isMarked this_weight this_rounding this_lacks this_alikes this_g) none (wd_X12_loses k this this_thrown this_tape this_taped this_size this_sort this_place this_value this_at this_fault this_words this_towns this_op this_arg this_codes this_names this_readNames this_namesMany this_readMany this_once this_lines this_facts this_pile this_state R0 this_undos this_isMarked this_weight this_rounding this_lacks this_alikes this_g) := by
  refine CW.mk (by decide) (Nat.le_of_ble_eq_true rfl) ?_
  intro p e s m args below meth c ls A ⟨hx, hb, hr, hts, hown, hlocks, hml⟩ hP hG hD hA hl hS hq
  have hl : lv_has ls 4 [(0, .ref this), (1, .int q1), (2, .int q2), (3, .int q3)] := hl
  unfold m_X12_loses at hm
  suffices hgo : ∀ (H : Heap) (locs : List Loc), va_P D vwCl (wd_X12_loses k this this_thrown this_tape this_taped this_size this_sort this_place this_value this_at this_fault this_words this_towns this_op this_arg this_codes this_names this_readNames this_namesMany this_readMany this_once this_lines this_facts this_pile this_state this_state_f this_undos this_isMarked this_weight this_rounding this_lacks this_alikes this_g) H → va_D A (wd_X12_loses k this this_thrown this_tape this_taped this_size this_sort this_place this_value this_at this_fault this_words this_towns this_op this_arg this_codes this_names this_readNames this_namesMany this_readMany this_once this_lines this_facts this_pile this_state this_state_f this_undos this_isMarked this_weight this_rounding this_lacks this_alikes this_g) → va_S A s.heap H locs → W p l e (Rm 1 22) s m args below meth c H locs 0 0 (MQ below (QW D none (wd_X12_loses k this this_thrown this_tape this_taped this_size this_sort this_place this_value this_at this_fault this_words this_towns this_op this_arg this_codes this_names this_readNames this_namesMany this_readMany this_once this_lines this_facts this_pile this_state this_state_f this_undos this_isMarked this_weight this_rounding this_lacks this_alikes this_g) (wd_X12_loses k this this_thrown this_tape this_taped this_size this_sort this_place this_value this_at this_fault this_words this_towns this_op this_arg this_codes this_names this_readNames this_namesMany this_readMany this_once this_lines this_facts this_pile this_state R0 this_undos this_isMarked this_weight this_rounding this_lacks this_alikes this_g) s.heap.size) args s 0 0 A) (F0 m 0 ls []) from hgo _ _ hP hD hS
  clear hP hD hS
  intro H locs hP hD hS
  refine lv_aload_n (pc := 0) hx hb dX12_loses_0 rfl (lv_at hl 0 rfl) ?_
  refine va_get (pc := 1) (D := D) (ci := 10) (C := RX12) (T := TX12) (N := 30) hx hb hts hiX12 hown hG.1 hP 0 rfl rfl 22 (Nat.le_of_ble_eq_true rfl) (hts _ kw_1279) (fun _ h9 => h9) rfl dX12_loses_1 ?_
  refine lv_iload_n (pc := 4) hx hb dX12_loses_4 rfl (lv_at hl 1 rfl) ?_
  refine lv_iconst (v := 1) (pc := 5) hx hb dX12_loses_5 (by decide) ?_
  refine lv_iadd (pc := 6) hx hb dX12_loses_6 ?_
  refine lv_iload_n (pc := 7) hx hb dX12_loses_7 rfl (lv_at hl 2 rfl) ?_
  refine lv_iadd (pc := 8) hx hb dX12_loses_8 ?_
  refine lv_aload_n (pc := 9) hx hb dX12_loses_9 rfl (lv_at hl 0 rfl) ?_
  refine va_get (pc := 10) (D := D) (ci := 10) (C := RX12) (T := TX12) (N := 30) hx hb hts hiX12 hown hG.1 hP 0 rfl rfl 22 (Nat.le_of_ble_eq_true rfl) (hts _ kw_1279) (fun _ h9 => h9) rfl dX12_loses_10 ?_
  refine lv_iload_n (pc := 13) hx hb dX12_loses_13 rfl (lv_at hl 1 rfl) ?_
  refine lv_iconst (v := 1) (pc := 14) hx hb dX12_loses_14 (by decide) ?_
  refine lv_iadd (pc := 15) hx hb dX12_loses_15 ?_
  refine lv_iload_n (pc := 16) hx hb dX12_loses_16 rfl (lv_at hl 2 rfl) ?_
  refine lv_iadd (pc := 17) hx hb dX12_loses_17 ?_
  obtain ⟨hin, hm⟩ := gd hm
  refine va_iald (pc := 18) (D := D) hx hb hG.1 hP 1 0 rfl rfl hin dX12_loses_18 ?_
  refine lv_iload_n (pc := 19) hx hb dX12_loses_19 rfl (lv_at hl 3 rfl) ?_
  refine lv_iadd (pc := 20) hx hb dX12_loses_20 ?_
  refine lv_iconst (v := 0) (pc := 21) hx hb dX12_loses_21 (by decide) ?_
  refine lv_bipush (v := 60) (pc := 22) hx hb dX12_loses_22 (by decide) ?_
  obtain ⟨r2, hcl, hm⟩ := bd hm
  refine cr_back (run_S (pc := 24) (n := 3) (As := [.int ((this_state_f ((q1 + 1) + q2).toNatClampNeg) + q3), .int 0, .int 60]) (rest := [.int ((q1 + 1) + q2), .ref this_state]) ⟨hx, hb, hml, hown, hts⟩ (c_X12_kept l D k ((this_state_f ((q1 + 1) + q2).toNatClampNeg) + q3) 0 60 r2 hcl) ⟨kw_1490, kw_16, by decide +kernel⟩ kw_1488 kw_1489 ⟨Nat.le_of_ble_eq_true rfl, Nat.le_of_ble_eq_true rfl⟩ pr_blind (prR (hP.sub [] rfl) hG) rfl hl.1 rfl (Nat.le_of_ble_eq_true rfl) dX12_loses_24 ⟨Nat.zero_le _, Nat.zero_le _⟩) ?_
  obtain ⟨hin, hm⟩ := gd hm
  refine va_iast (pc := 27) (D := D) hx hb hG.1 hP hD hS 1 0 rfl rfl hin dX12_loses_27 (fun H locs hP hD hS => ?_)
  have hP : va_P D vwCl (wd_X12_loses k this this_thrown this_tape this_taped this_size this_sort this_place this_value this_at this_fault this_words this_towns this_op this_arg this_codes this_names this_readNames this_namesMany this_readMany this_once this_lines this_facts this_pile this_state (upd this_state_f ((q1 + 1) + q2).toNatClampNeg r2) this_undos this_isMarked this_weight this_rounding this_lacks this_alikes this_g) H := hP
  have hD : va_D A (wd_X12_loses k this this_thrown this_tape this_taped this_size this_sort this_place this_value this_at this_fault this_words this_towns this_op this_arg this_codes this_names this_readNames this_namesMany this_readMany this_once this_lines this_facts this_pile this_state (upd this_state_f ((q1 + 1) + q2).toNatClampNeg r2) this_undos this_isMarked this_weight this_rounding this_lacks this_alikes this_g) := hD
  rw [← Option.some.inj hm]
  exact W.vret hx hb hr (fun t ht _ => hq _ _ H t ht hP hD locs hS) hS.2.2 dX12_loses_28 hlocks
theorem dX12_doesFeel_0 : decode cX12_doesFeel 0 = .ok (.aload_n 0, 1) := by decide +kernel
theorem dX12_doesFeel_1 : decode cX12_doesFeel 1 = .ok (.getfield 113, 3) := by decide +kernel
theorem dX12_doesFeel_4 : decode cX12_doesFeel 4 = .ok (.iload_n 1, 1) := by decide +kernel
theorem dX12_doesFeel_5 : decode cX12_doesFeel 5 = .ok (.bipush 7, 2) := by decide +kernel
theorem dX12_doesFeel_7 : decode cX12_doesFeel 7 = .ok (.iadd, 1) := by decide +kernel
theorem dX12_doesFeel_8 : decode cX12_doesFeel 8 = .ok (.iload_n 2, 1) := by decide +kernel
theorem dX12_doesFeel_9 : decode cX12_doesFeel 9 = .ok (.iadd, 1) := by decide +kernel
theorem dX12_doesFeel_10 : decode cX12_doesFeel 10 = .ok (.iaload, 1) := by decide +kernel
theorem dX12_doesFeel_11 : decode cX12_doesFeel 11 = .ok (.iload_n 3, 1) := by decide +kernel
theorem dX12_doesFeel_12 : decode cX12_doesFeel 12 = .ok (.ishr, 1) := by decide +kernel
theorem dX12_doesFeel_13 : decode cX12_doesFeel 13 = .ok (.iconst 1, 1) := by decide +kernel
theorem dX12_doesFeel_14 : decode cX12_doesFeel 14 = .ok (.iand, 1) := by decide +kernel
theorem dX12_doesFeel_15 : decode cX12_doesFeel 15 = .ok (.iconst 1, 1) := by decide +kernel
theorem dX12_doesFeel_16 : decode cX12_doesFeel 16 = .ok (.if_icmp .ne 7, 3) := by decide +kernel
theorem dX12_doesFeel_19 : decode cX12_doesFeel 19 = .ok (.iconst 1, 1) := by decide +kernel
theorem dX12_doesFeel_20 : decode cX12_doesFeel 20 = .ok (.goto 4, 3) := by decide +kernel
theorem dX12_doesFeel_23 : decode cX12_doesFeel 23 = .ok (.iconst 0, 1) := by decide +kernel
theorem dX12_doesFeel_24 : decode cX12_doesFeel 24 = .ok (.ireturn, 1) := by decide +kernel
abbrev wd_X12_doesFeel (k : Nat → ClassId) (this : Nat) (this_thrown : Int32) (this_tape : Nat) (this_taped : Int32) (this_size : Int32) (this_sort : Nat) (this_place : Nat) (this_value : Nat) (this_at : Int32) (this_fault : Int32) (this_words : Nat) (this_towns : Nat) (this_op : Nat) (this_arg : Nat) (this_codes : Int32) (this_names : Nat) (this_readNames : Nat) (this_namesMany : Int32) (this_readMany : Int32) (this_once : Int32) (this_lines : Nat) (this_facts : Nat) (this_pile : Nat) (this_state : Nat) (this_state_f : Nat → Int32) (this_undos : Int32) (this_isMarked : Nat) (this_weight : Int32) (this_rounding : Int32) (this_lacks : Nat) (this_alikes : Nat) (this_g : Int64) : va_W := [(this, .inr (10, [.int this_thrown, .ref this_tape, .int this_taped, .int this_size, .ref this_sort, .ref this_place, .ref this_value, .int this_at, .int this_fault, .ref this_words, .ref this_towns, .ref this_op, .ref this_arg, .int this_codes, .ref this_names, .ref this_readNames, .int this_namesMany, .int this_readMany, .int this_once, .ref this_lines, .ref this_facts, .ref this_pile, .ref this_state, .int this_undos, .ref this_isMarked, .int this_weight, .int this_rounding, .ref this_lacks, .ref this_alikes, .long this_g])), (this_state, .inl (k 0, 1104, .inl this_state_f))]
set_option maxHeartbeats 4000000 in
set_option maxRecDepth 100000 in
theorem c_X12_doesFeel (l : Launch) (D : va_G) (k : Nat → ClassId) (this : Nat) (this_thrown : Int32) (this_tape : Nat) (this_taped : Int32) (this_size : Int32) (this_sort : Nat) (this_place : Nat) (this_value : Nat) (this_at : Int32) (this_fault : Int32) (this_words : Nat) (this_towns : Nat) (this_op : Nat) (this_arg : Nat) (this_codes : Int32) (this_names : Nat) (this_readNames : Nat) (this_namesMany : Int32) (this_readMany : Int32) (this_once : Int32) (this_lines : Nat) (this_facts : Nat) (this_pile : Nat) (this_state : Nat) (this_state_f : Nat → Int32) (this_undos : Int32) (this_isMarked : Nat) (this_weight : Int32) (this_rounding : Int32) (this_lacks : Nat) (this_alikes : Nat) (this_g : Int64) (q1 : Int32) (q2 : Int32) (q3 : Int32) (R0 : Int32) (hm : m_X12_doesFeel this_state_f q1 q2 q3 = some R0) : CR l D (TY k) yX12_doesFeel cX12_doesFeel 4 (some .boolean) 0 0 [.ref this, .int q1, .int q2, .int q3] (wd_X12_doesFeel k this this_thrown this_tape this_taped this_size this_sort this_place this_value this_at this_fault this_words this_towns this_op this_arg this_codes this_names this_readNames this_namesMany this_readMany this_once this_lines this_facts this_pile this_state this_state_f this_undos this_isMarked this_weight this_rounding this_lacks this_alikes this_g) (some (.int R0)) := by
  refine CR.mk (by decide) (Nat.le_of_ble_eq_true rfl) ?_
  intro p e s m args below meth c ls ⟨hx, hb, hr, hts, hown, hlocks, hml⟩ hP hG hl
  have hl : lv_has ls 4 [(0, .ref this), (1, .int q1), (2, .int q2), (3, .int q3)] := hl
  unfold m_X12_doesFeel at hm
  refine lv_aload_n (pc := 0) hx hb dX12_doesFeel_0 rfl (lv_at hl 0 rfl) ?_
  refine va_get (pc := 1) (D := D) (ci := 10) (C := RX12) (T := TX12) (N := 30) hx hb hts hiX12 hown hG.1 hP 0 rfl rfl 22 (Nat.le_of_ble_eq_true rfl) (hts _ kw_1279) (fun _ h9 => h9) rfl dX12_doesFeel_1 ?_
  refine lv_iload_n (pc := 4) hx hb dX12_doesFeel_4 rfl (lv_at hl 1 rfl) ?_
  refine lv_bipush (v := 7) (pc := 5) hx hb dX12_doesFeel_5 (by decide) ?_
  refine lv_iadd (pc := 7) hx hb dX12_doesFeel_7 ?_
  refine lv_iload_n (pc := 8) hx hb dX12_doesFeel_8 rfl (lv_at hl 2 rfl) ?_
  refine lv_iadd (pc := 9) hx hb dX12_doesFeel_9 ?_
  obtain ⟨hin, hm⟩ := gd hm
  refine va_iald (pc := 10) (D := D) hx hb hG.1 hP 1 0 rfl rfl hin dX12_doesFeel_10 ?_
  refine lv_iload_n (pc := 11) hx hb dX12_doesFeel_11 rfl (lv_at hl 3 rfl) ?_
  refine lv_ishr (pc := 12) hx hb dX12_doesFeel_12 ?_
  refine lv_iconst (v := 1) (pc := 13) hx hb dX12_doesFeel_13 (by decide) ?_
  refine lv_iand (pc := 14) hx hb dX12_doesFeel_14 ?_
  refine lv_iconst (v := 1) (pc := 15) hx hb dX12_doesFeel_15 (by decide) ?_
  refine lv_icmp_ne (tgt := 23) (pc := 16) hx hb dX12_doesFeel_16 (by decide) (fun hc => ?_) (fun hc => ?_)
  · rw [if_neg hc] at hm
    refine lv_iconst (v := 0) (pc := 23) hx hb dX12_doesFeel_23 (by decide) ?_
    rw [← Option.some.inj hm]
    exact W.zret hx hb hr (nar_bool (Or.inl rfl)) (fun t ht _ => ⟨rfl, ht⟩) (fun _ h => by cases h) dX12_doesFeel_24 hlocks
  · rw [if_pos hc] at hm
    refine lv_iconst (v := 1) (pc := 19) hx hb dX12_doesFeel_19 (by decide) ?_
    refine lv_goto (tgt := 24) (pc := 20) hx hb dX12_doesFeel_20 (by decide) ?_
    rw [← Option.some.inj hm]
    exact W.zret hx hb hr (nar_bool (Or.inr rfl)) (fun t ht _ => ⟨rfl, ht⟩) (fun _ h => by cases h) dX12_doesFeel_24 hlocks
theorem dX12_passes_0 : decode cX12_passes 0 = .ok (.aload_n 0, 1) := by decide +kernel
theorem dX12_passes_1 : decode cX12_passes 1 = .ok (.iload_n 1, 1) := by decide +kernel
theorem dX12_passes_2 : decode cX12_passes 2 = .ok (.invokevirtual 293, 3) := by decide +kernel
theorem dX12_passes_5 : decode cX12_passes 5 = .ok (.istore_n 2, 1) := by decide +kernel
theorem dX12_passes_6 : decode cX12_passes 6 = .ok (.iconst 0, 1) := by decide +kernel
theorem dX12_passes_7 : decode cX12_passes 7 = .ok (.istore_n 3, 1) := by decide +kernel
theorem dX12_passes_8 : decode cX12_passes 8 = .ok (.iconst 0, 1) := by decide +kernel
theorem dX12_passes_9 : decode cX12_passes 9 = .ok (.istore 4, 2) := by decide +kernel
theorem dX12_passes_11 : decode cX12_passes 11 = .ok (.iload 4, 2) := by decide +kernel
theorem dX12_passes_13 : decode cX12_passes 13 = .ok (.aload_n 0, 1) := by decide +kernel
theorem dX12_passes_14 : decode cX12_passes 14 = .ok (.invokevirtual 255, 3) := by decide +kernel
theorem dX12_passes_17 : decode cX12_passes 17 = .ok (.if_icmp .ge 189, 3) := by decide +kernel
theorem dX12_passes_20 : decode cX12_passes 20 = .ok (.aload_n 0, 1) := by decide +kernel
theorem dX12_passes_21 : decode cX12_passes 21 = .ok (.getfield 113, 3) := by decide +kernel
theorem dX12_passes_24 : decode cX12_passes 24 = .ok (.iload_n 1, 1) := by decide +kernel
theorem dX12_passes_25 : decode cX12_passes 25 = .ok (.iconst 1, 1) := by decide +kernel
theorem dX12_passes_26 : decode cX12_passes 26 = .ok (.iadd, 1) := by decide +kernel
theorem dX12_passes_27 : decode cX12_passes 27 = .ok (.iload 4, 2) := by decide +kernel
theorem dX12_passes_29 : decode cX12_passes 29 = .ok (.iadd, 1) := by decide +kernel
theorem dX12_passes_30 : decode cX12_passes 30 = .ok (.iaload, 1) := by decide +kernel
theorem dX12_passes_31 : decode cX12_passes 31 = .ok (.istore 5, 2) := by decide +kernel
theorem dX12_passes_33 : decode cX12_passes 33 = .ok (.iconst 0, 1) := by decide +kernel
theorem dX12_passes_34 : decode cX12_passes 34 = .ok (.istore 6, 2) := by decide +kernel
theorem dX12_passes_36 : decode cX12_passes 36 = .ok (.iconst 0, 1) := by decide +kernel
theorem dX12_passes_37 : decode cX12_passes 37 = .ok (.istore 7, 2) := by decide +kernel
theorem dX12_passes_39 : decode cX12_passes 39 = .ok (.iload 7, 2) := by decide +kernel
theorem dX12_passes_41 : decode cX12_passes 41 = .ok (.aload_n 0, 1) := by decide +kernel
theorem dX12_passes_42 : decode cX12_passes 42 = .ok (.invokevirtual 255, 3) := by decide +kernel
theorem dX12_passes_45 : decode cX12_passes 45 = .ok (.if_icmp .ge 47, 3) := by decide +kernel
theorem dX12_passes_48 : decode cX12_passes 48 = .ok (.iload 6, 2) := by decide +kernel
theorem dX12_passes_50 : decode cX12_passes 50 = .ok (.aload_n 0, 1) := by decide +kernel
theorem dX12_passes_51 : decode cX12_passes 51 = .ok (.iload_n 1, 1) := by decide +kernel
theorem dX12_passes_52 : decode cX12_passes 52 = .ok (.iload 4, 2) := by decide +kernel
theorem dX12_passes_54 : decode cX12_passes 54 = .ok (.iload 7, 2) := by decide +kernel
theorem dX12_passes_56 : decode cX12_passes 56 = .ok (.invokevirtual 296, 3) := by decide +kernel
theorem dX12_passes_59 : decode cX12_passes 59 = .ok (.ifCond .eq 23, 3) := by decide +kernel
theorem dX12_passes_62 : decode cX12_passes 62 = .ok (.aload_n 0, 1) := by decide +kernel
theorem dX12_passes_63 : decode cX12_passes 63 = .ok (.getfield 113, 3) := by decide +kernel
theorem dX12_passes_66 : decode cX12_passes 66 = .ok (.iload_n 1, 1) := by decide +kernel
theorem dX12_passes_67 : decode cX12_passes 67 = .ok (.iconst 1, 1) := by decide +kernel
theorem dX12_passes_68 : decode cX12_passes 68 = .ok (.iadd, 1) := by decide +kernel
theorem dX12_passes_69 : decode cX12_passes 69 = .ok (.iload 7, 2) := by decide +kernel
theorem dX12_passes_71 : decode cX12_passes 71 = .ok (.iadd, 1) := by decide +kernel
theorem dX12_passes_72 : decode cX12_passes 72 = .ok (.iaload, 1) := by decide +kernel
theorem dX12_passes_73 : decode cX12_passes 73 = .ok (.iload 5, 2) := by decide +kernel
theorem dX12_passes_75 : decode cX12_passes 75 = .ok (.if_icmp .le 7, 3) := by decide +kernel
theorem dX12_passes_78 : decode cX12_passes 78 = .ok (.iconst 1, 1) := by decide +kernel
theorem dX12_passes_79 : decode cX12_passes 79 = .ok (.goto 4, 3) := by decide +kernel
theorem dX12_passes_82 : decode cX12_passes 82 = .ok (.iconst 0, 1) := by decide +kernel
theorem dX12_passes_83 : decode cX12_passes 83 = .ok (.iadd, 1) := by decide +kernel
theorem dX12_passes_84 : decode cX12_passes 84 = .ok (.istore 6, 2) := by decide +kernel
theorem dX12_passes_86 : decode cX12_passes 86 = .ok (.iinc 7 1, 3) := by decide +kernel
theorem dX12_passes_89 : decode cX12_passes 89 = .ok (.goto (-50), 3) := by decide +kernel
theorem dX12_passes_92 : decode cX12_passes 92 = .ok (.aload_n 0, 1) := by decide +kernel
theorem dX12_passes_93 : decode cX12_passes 93 = .ok (.getfield 107, 3) := by decide +kernel
theorem dX12_passes_96 : decode cX12_passes 96 = .ok (.iconst 0, 1) := by decide +kernel
theorem dX12_passes_97 : decode cX12_passes 97 = .ok (.iload 5, 2) := by decide +kernel
theorem dX12_passes_99 : decode cX12_passes 99 = .ok (.iastore, 1) := by decide +kernel
theorem dX12_passes_100 : decode cX12_passes 100 = .ok (.aload_n 0, 1) := by decide +kernel
theorem dX12_passes_101 : decode cX12_passes 101 = .ok (.getfield 107, 3) := by decide +kernel
theorem dX12_passes_104 : decode cX12_passes 104 = .ok (.iconst 1, 1) := by decide +kernel
theorem dX12_passes_105 : decode cX12_passes 105 = .ok (.iload_n 2, 1) := by decide +kernel
theorem dX12_passes_106 : decode cX12_passes 106 = .ok (.iastore, 1) := by decide +kernel
theorem dX12_passes_107 : decode cX12_passes 107 = .ok (.aload_n 0, 1) := by decide +kernel
theorem dX12_passes_108 : decode cX12_passes 108 = .ok (.getfield 107, 3) := by decide +kernel
theorem dX12_passes_111 : decode cX12_passes 111 = .ok (.iconst 2, 1) := by decide +kernel
theorem dX12_passes_112 : decode cX12_passes 112 = .ok (.iload 6, 2) := by decide +kernel
theorem dX12_passes_114 : decode cX12_passes 114 = .ok (.iastore, 1) := by decide +kernel
theorem dX12_passes_115 : decode cX12_passes 115 = .ok (.aload_n 0, 1) := by decide +kernel
theorem dX12_passes_116 : decode cX12_passes 116 = .ok (.getfield 107, 3) := by decide +kernel
theorem dX12_passes_119 : decode cX12_passes 119 = .ok (.iconst 3, 1) := by decide +kernel
theorem dX12_passes_120 : decode cX12_passes 120 = .ok (.aload_n 0, 1) := by decide +kernel
theorem dX12_passes_121 : decode cX12_passes 121 = .ok (.getfield 113, 3) := by decide +kernel
theorem dX12_passes_124 : decode cX12_passes 124 = .ok (.iload_n 1, 1) := by decide +kernel
theorem dX12_passes_125 : decode cX12_passes 125 = .ok (.iconst 0, 1) := by decide +kernel
theorem dX12_passes_126 : decode cX12_passes 126 = .ok (.iadd, 1) := by decide +kernel
theorem dX12_passes_127 : decode cX12_passes 127 = .ok (.iaload, 1) := by decide +kernel
theorem dX12_passes_128 : decode cX12_passes 128 = .ok (.iastore, 1) := by decide +kernel
theorem dX12_passes_129 : decode cX12_passes 129 = .ok (.aload_n 0, 1) := by decide +kernel
theorem dX12_passes_130 : decode cX12_passes 130 = .ok (.getfield 120, 3) := by decide +kernel
theorem dX12_passes_133 : decode cX12_passes 133 = .ok (.iload 4, 2) := by decide +kernel
theorem dX12_passes_135 : decode cX12_passes 135 = .ok (.iload 5, 2) := by decide +kernel
theorem dX12_passes_137 : decode cX12_passes 137 = .ok (.aload_n 0, 1) := by decide +kernel
theorem dX12_passes_138 : decode cX12_passes 138 = .ok (.getfield 89, 3) := by decide +kernel
theorem dX12_passes_141 : decode cX12_passes 141 = .ok (.iconst 4, 1) := by decide +kernel
theorem dX12_passes_142 : decode cX12_passes 142 = .ok (.iaload, 1) := by decide +kernel
theorem dX12_passes_143 : decode cX12_passes 143 = .ok (.ifCond .ge 10, 3) := by decide +kernel
theorem dX12_passes_146 : decode cX12_passes 146 = .ok (.iload 6, 2) := by decide +kernel
theorem dX12_passes_148 : decode cX12_passes 148 = .ok (.iconst 1, 1) := by decide +kernel
theorem dX12_passes_149 : decode cX12_passes 149 = .ok (.isub, 1) := by decide +kernel
theorem dX12_passes_150 : decode cX12_passes 150 = .ok (.goto 13, 3) := by decide +kernel
theorem dX12_passes_153 : decode cX12_passes 153 = .ok (.aload_n 0, 1) := by decide +kernel
theorem dX12_passes_154 : decode cX12_passes 154 = .ok (.aload_n 0, 1) := by decide +kernel
theorem dX12_passes_155 : decode cX12_passes 155 = .ok (.getfield 89, 3) := by decide +kernel
theorem dX12_passes_158 : decode cX12_passes 158 = .ok (.iconst 4, 1) := by decide +kernel
theorem dX12_passes_159 : decode cX12_passes 159 = .ok (.iaload, 1) := by decide +kernel
theorem dX12_passes_160 : decode cX12_passes 160 = .ok (.invokevirtual 300, 3) := by decide +kernel
theorem dX12_passes_163 : decode cX12_passes 163 = .ok (.bipush (-9), 2) := by decide +kernel
theorem dX12_passes_165 : decode cX12_passes 165 = .ok (.bipush 9, 2) := by decide +kernel
theorem dX12_passes_167 : decode cX12_passes 167 = .ok (.invokestatic 284, 3) := by decide +kernel
theorem dX12_passes_170 : decode cX12_passes 170 = .ok (.iadd, 1) := by decide +kernel
theorem dX12_passes_171 : decode cX12_passes 171 = .ok (.iconst 0, 1) := by decide +kernel
theorem dX12_passes_172 : decode cX12_passes 172 = .ok (.bipush 60, 2) := by decide +kernel
theorem dX12_passes_174 : decode cX12_passes 174 = .ok (.invokestatic 284, 3) := by decide +kernel
theorem dX12_passes_177 : decode cX12_passes 177 = .ok (.iastore, 1) := by decide +kernel
theorem dX12_passes_178 : decode cX12_passes 178 = .ok (.iload_n 3, 1) := by decide +kernel
theorem dX12_passes_179 : decode cX12_passes 179 = .ok (.ifCond .ne 15, 3) := by decide +kernel
theorem dX12_passes_182 : decode cX12_passes 182 = .ok (.aload_n 0, 1) := by decide +kernel
theorem dX12_passes_183 : decode cX12_passes 183 = .ok (.getfield 120, 3) := by decide +kernel
theorem dX12_passes_186 : decode cX12_passes 186 = .ok (.iload 4, 2) := by decide +kernel
theorem dX12_passes_188 : decode cX12_passes 188 = .ok (.iaload, 1) := by decide +kernel
theorem dX12_passes_189 : decode cX12_passes 189 = .ok (.iload 5, 2) := by decide +kernel
theorem dX12_passes_191 : decode cX12_passes 191 = .ok (.if_icmp .eq 7, 3) := by decide +kernel
theorem dX12_passes_194 : decode cX12_passes 194 = .ok (.iconst 1, 1) := by decide +kernel
theorem dX12_passes_195 : decode cX12_passes 195 = .ok (.goto 4, 3) := by decide +kernel
theorem dX12_passes_198 : decode cX12_passes 198 = .ok (.iconst 0, 1) := by decide +kernel
theorem dX12_passes_199 : decode cX12_passes 199 = .ok (.istore_n 3, 1) := by decide +kernel
theorem dX12_passes_200 : decode cX12_passes 200 = .ok (.iinc 4 1, 3) := by decide +kernel
theorem dX12_passes_203 : decode cX12_passes 203 = .ok (.goto (-192), 3) := by decide +kernel
theorem dX12_passes_206 : decode cX12_passes 206 = .ok (.iconst 0, 1) := by decide +kernel
theorem dX12_passes_207 : decode cX12_passes 207 = .ok (.istore 4, 2) := by decide +kernel
theorem dX12_passes_209 : decode cX12_passes 209 = .ok (.iload 4, 2) := by decide +kernel
theorem dX12_passes_211 : decode cX12_passes 211 = .ok (.aload_n 0, 1) := by decide +kernel
theorem dX12_passes_212 : decode cX12_passes 212 = .ok (.invokevirtual 255, 3) := by decide +kernel
theorem dX12_passes_215 : decode cX12_passes 215 = .ok (.if_icmp .ge 27, 3) := by decide +kernel
theorem dX12_passes_218 : decode cX12_passes 218 = .ok (.aload_n 0, 1) := by decide +kernel
theorem dX12_passes_219 : decode cX12_passes 219 = .ok (.getfield 113, 3) := by decide +kernel
theorem dX12_passes_222 : decode cX12_passes 222 = .ok (.iload_n 1, 1) := by decide +kernel
theorem dX12_passes_223 : decode cX12_passes 223 = .ok (.iconst 1, 1) := by decide +kernel
theorem dX12_passes_224 : decode cX12_passes 224 = .ok (.iadd, 1) := by decide +kernel
theorem dX12_passes_225 : decode cX12_passes 225 = .ok (.iload 4, 2) := by decide +kernel
theorem dX12_passes_227 : decode cX12_passes 227 = .ok (.iadd, 1) := by decide +kernel
theorem dX12_passes_228 : decode cX12_passes 228 = .ok (.aload_n 0, 1) := by decide +kernel
theorem dX12_passes_229 : decode cX12_passes 229 = .ok (.getfield 120, 3) := by decide +kernel
theorem dX12_passes_232 : decode cX12_passes 232 = .ok (.iload 4, 2) := by decide +kernel
theorem dX12_passes_234 : decode cX12_passes 234 = .ok (.iaload, 1) := by decide +kernel
theorem dX12_passes_235 : decode cX12_passes 235 = .ok (.iastore, 1) := by decide +kernel
theorem dX12_passes_236 : decode cX12_passes 236 = .ok (.iinc 4 1, 3) := by decide +kernel
theorem dX12_passes_239 : decode cX12_passes 239 = .ok (.goto (-30), 3) := by decide +kernel
theorem dX12_passes_242 : decode cX12_passes 242 = .ok (.aload_n 0, 1) := by decide +kernel
theorem dX12_passes_243 : decode cX12_passes 243 = .ok (.getfield 113, 3) := by decide +kernel
theorem dX12_passes_246 : decode cX12_passes 246 = .ok (.iload_n 1, 1) := by decide +kernel
theorem dX12_passes_247 : decode cX12_passes 247 = .ok (.iconst 0, 1) := by decide +kernel
theorem dX12_passes_248 : decode cX12_passes 248 = .ok (.iadd, 1) := by decide +kernel
theorem dX12_passes_249 : decode cX12_passes 249 = .ok (.dup2, 1) := by decide +kernel
theorem dX12_passes_250 : decode cX12_passes 250 = .ok (.iaload, 1) := by decide +kernel
theorem dX12_passes_251 : decode cX12_passes 251 = .ok (.iconst 1, 1) := by decide +kernel
theorem dX12_passes_252 : decode cX12_passes 252 = .ok (.iadd, 1) := by decide +kernel
theorem dX12_passes_253 : decode cX12_passes 253 = .ok (.iastore, 1) := by decide +kernel
theorem dX12_passes_254 : decode cX12_passes 254 = .ok (.iload_n 3, 1) := by decide +kernel
theorem dX12_passes_255 : decode cX12_passes 255 = .ok (.ireturn, 1) := by decide +kernel
abbrev wd_X12_passes (k : Nat → ClassId) (this : Nat) (this_thrown : Int32) (this_tape : Nat) (this_taped : Int32) (this_size : Int32) (this_sort : Nat) (this_place : Nat) (this_value : Nat) (this_at : Int32) (this_fault : Int32) (this_words : Nat) (this_towns : Nat) (this_towns_f : Nat → Int32) (this_op : Nat) (this_op_f : Nat → Int32) (this_arg : Nat) (this_arg_f : Nat → Int32) (this_codes : Int32) (this_names : Nat) (this_readNames : Nat) (this_namesMany : Int32) (this_readMany : Int32) (this_once : Int32) (this_lines : Nat) (this_facts : Nat) (this_facts_f : Nat → Int32) (this_pile : Nat) (this_pile_f : Nat → Int32) (this_state : Nat) (this_state_f : Nat → Int32) (this_undos : Int32) (this_isMarked : Nat) (this_weight : Int32) (this_rounding : Int32) (this_lacks : Nat) (this_lacks_f : Nat → Int32) (this_alikes : Nat) (this_g : Int64) : va_W := [(this, .inr (10, [.int this_thrown, .ref this_tape, .int this_taped, .int this_size, .ref this_sort, .ref this_place, .ref this_value, .int this_at, .int this_fault, .ref this_words, .ref this_towns, .ref this_op, .ref this_arg, .int this_codes, .ref this_names, .ref this_readNames, .int this_namesMany, .int this_readMany, .int this_once, .ref this_lines, .ref this_facts, .ref this_pile, .ref this_state, .int this_undos, .ref this_isMarked, .int this_weight, .int this_rounding, .ref this_lacks, .ref this_alikes, .long this_g])), (this_towns, .inl (k 0, 60, .inl this_towns_f)), (this_op, .inl (k 0, 2200, .inl this_op_f)), (this_arg, .inl (k 0, 2200, .inl this_arg_f)), (this_facts, .inl (k 0, 4, .inl this_facts_f)), (this_pile, .inl (k 0, 1100, .inl this_pile_f)), (this_state, .inl (k 0, 1104, .inl this_state_f)), (this_lacks, .inl (k 0, 6, .inl this_lacks_f))]
set_option maxHeartbeats 4000000 in
set_option maxRecDepth 100000 in
theorem c_X12_passes (l : Launch) (D : va_G) (k : Nat → ClassId) (this : Nat) (this_thrown : Int32) (this_tape : Nat) (this_taped : Int32) (this_size : Int32) (this_sort : Nat) (this_place : Nat) (this_value : Nat) (this_at : Int32) (this_fault : Int32) (this_words : Nat) (this_towns : Nat) (this_towns_f : Nat → Int32) (this_op : Nat) (this_op_f : Nat → Int32) (this_arg : Nat) (this_arg_f : Nat → Int32) (this_codes : Int32) (this_names : Nat) (this_readNames : Nat) (this_namesMany : Int32) (this_readMany : Int32) (this_once : Int32) (this_lines : Nat) (this_facts : Nat) (this_facts_f : Nat → Int32) (this_pile : Nat) (this_pile_f : Nat → Int32) (this_state : Nat) (this_state_f : Nat → Int32) (this_undos : Int32) (this_isMarked : Nat) (this_weight : Int32) (this_rounding : Int32) (this_lacks : Nat) (this_lacks_f : Nat → Int32) (this_alikes : Nat) (this_g : Int64) (q1 : Int32) (R0 : Int32 × (Nat → Int32) × (Nat → Int32) × (Nat → Int32) × (Nat → Int32)) (hm : m_X12_passes this_towns_f this_op_f this_arg_f this_facts_f this_pile_f this_state_f this_weight this_rounding this_lacks_f q1 = some R0) : CW l D (TY k) yX12_passes cX12_passes 8 (some .boolean) 4 90 [.ref this, .int q1] (wd_X12_passes k this this_thrown this_tape this_taped this_size this_sort this_place this_value this_at this_fault this_words this_towns this_towns_f this_op this_op_f this_arg this_arg_f this_codes this_names this_readNames this_namesMany this_readMany this_once this_lines this_facts this_facts_f this_pile this_pile_f this_state this_state_f this_undos this_isMarked this_weight this_rounding this_lacks this_lacks_f this_alikes this_g) (some (.int R0.1)) (wd_X12_passes k this this_thrown this_tape this_taped this_size this_sort this_place this_value this_at this_fault this_words this_towns this_towns_f this_op this_op_f this_arg this_arg_f this_codes this_names this_readNames this_namesMany this_readMany this_once this_lines this_facts R0.2.1 this_pile R0.2.2.1 this_state R0.2.2.2.1 this_undos this_isMarked this_weight this_rounding this_lacks R0.2.2.2.2 this_alikes this_g) := by
  refine CW.mk (by decide) (Nat.le_of_ble_eq_true rfl) ?_
  intro p e s m args below meth c ls A ⟨hx, hb, hr, hts, hown, hlocks, hml⟩ hP hG hD hA hl hS hq
  have hl : lv_has ls 8 [(0, .ref this), (1, .int q1)] := hl
  have h_209 : ∀ (n : Nat), ∀ (x3 : Int32) (x4 : Int32) (u_this_facts_f : Nat → Int32) (u_this_pile_f : Nat → Int32) (u_this_state_f : Nat → Int32) (u_this_lacks_f : Nat → Int32) (H : Heap) (locs : List Loc) (ls : Array Slot), va_P D vwCl (wd_X12_passes k this this_thrown this_tape this_taped this_size this_sort this_place this_value this_at this_fault this_words this_towns this_towns_f this_op this_op_f this_arg this_arg_f this_codes this_names this_readNames this_namesMany this_readMany this_once this_lines this_facts u_this_facts_f this_pile u_this_pile_f this_state u_this_state_f this_undos this_isMarked this_weight this_rounding this_lacks u_this_lacks_f this_alikes this_g) H → va_D A (wd_X12_passes k this this_thrown this_tape this_taped this_size this_sort this_place this_value this_at this_fault this_words this_towns this_towns_f this_op this_op_f this_arg this_arg_f this_codes this_names this_readNames this_namesMany this_readMany this_once this_lines this_facts u_this_facts_f this_pile u_this_pile_f this_state u_this_state_f this_undos this_isMarked this_weight this_rounding this_lacks u_this_lacks_f this_alikes this_g) → va_S A s.heap H locs → lv_has ls 8 [(0, .ref this), (1, .int q1), (3, .int x3), (4, .int x4)] → m_X12_passes_209 this_towns_f this_op_f this_arg_f this_weight this_rounding q1 n x3 x4 u_this_facts_f u_this_pile_f u_this_state_f u_this_lacks_f = some R0 → W p l e (Rm 4 90) s m args below meth c H locs 0 0 (MQ below (QW D (some (.int R0.1)) (wd_X12_passes k this this_thrown this_tape this_taped this_size this_sort this_place this_value this_at this_fault this_words this_towns this_towns_f this_op this_op_f this_arg this_arg_f this_codes this_names this_readNames this_namesMany this_readMany this_once this_lines this_facts this_facts_f this_pile this_pile_f this_state this_state_f this_undos this_isMarked this_weight this_rounding this_lacks this_lacks_f this_alikes this_g) (wd_X12_passes k this this_thrown this_tape this_taped this_size this_sort this_place this_value this_at this_fault this_words this_towns this_towns_f this_op this_op_f this_arg this_arg_f this_codes this_names this_readNames this_namesMany this_readMany this_once this_lines this_facts R0.2.1 this_pile R0.2.2.1 this_state R0.2.2.2.1 this_undos this_isMarked this_weight this_rounding this_lacks R0.2.2.2.2 this_alikes this_g) s.heap.size) args s 0 0 A) (F0 m 209 ls []) := by
    intro n
    induction n with
    | zero => intro x3 x4 u_this_facts_f u_this_pile_f u_this_state_f u_this_lacks_f H locs ls hP hD hS hl hm; cases hm
    | succ n ih =>
      intro x3 x4 u_this_facts_f u_this_pile_f u_this_state_f u_this_lacks_f H locs ls hP hD hS hl hm
      unfold m_X12_passes_209 at hm
      refine lv_iload (pc := 209) hx hb dX12_passes_209 (lv_at hl 3 rfl) ?_
      refine lv_aload_n (pc := 211) hx hb dX12_passes_211 rfl (lv_at hl 0 rfl) ?_
      obtain ⟨r10, hcl, hm⟩ := bd hm
      refine cr_back (run_V (pc := 212) (n := 0) (As := []) (rest := [.int x4]) ⟨hx, hb, hml, hown, hts⟩ (c_X12_persons l D k this this_thrown this_tape this_taped this_size this_sort this_place this_value this_at this_fault this_words this_towns this_towns_f this_op this_arg this_codes this_names this_readNames this_namesMany this_readMany this_once this_lines this_facts this_pile this_state this_undos this_isMarked this_weight this_rounding this_lacks this_alikes this_g r10 hcl) ⟨kw_1252, kw_16, by decide +kernel⟩ kw_1249 kw_1251 ks_97 ⟨Nat.le_of_ble_eq_true rfl, Nat.le_of_ble_eq_true rfl⟩ pr_blind (prR (hP.sub [0, 1] rfl) hG) (va_recv hG.1 hP (ci := 10) (q0 := 0) rfl rfl) rfl hl.1 rfl (Nat.le_of_ble_eq_true rfl) dX12_passes_212 ⟨Nat.zero_le _, Nat.zero_le _⟩) ?_
      refine lv_icmp_ge (tgt := 242) (pc := 215) hx hb dX12_passes_215 (by decide) (fun hc => ?_) (fun hc => ?_)
      · rw [if_pos hc] at hm
        refine lv_aload_n (pc := 242) hx hb dX12_passes_242 rfl (lv_at hl 0 rfl) ?_
        refine va_get (pc := 243) (D := D) (ci := 10) (C := RX12) (T := TX12) (N := 30) hx hb hts hiX12 hown hG.1 hP 0 rfl rfl 22 (Nat.le_of_ble_eq_true rfl) (hts _ kw_1279) (fun _ h9 => h9) rfl dX12_passes_243 ?_
        refine lv_iload_n (pc := 246) hx hb dX12_passes_246 rfl (lv_at hl 1 rfl) ?_
        refine lv_iconst (v := 0) (pc := 247) hx hb dX12_passes_247 (by decide) ?_
        refine lv_iadd (pc := 248) hx hb dX12_passes_248 ?_
        refine lv_dup2_11 (pc := 249) hx hb dX12_passes_249 rfl rfl ?_
        obtain ⟨hin, hm⟩ := gd hm
        refine va_iald (pc := 250) (D := D) hx hb hG.1 hP 6 0 rfl rfl hin dX12_passes_250 ?_
        refine lv_iconst (v := 1) (pc := 251) hx hb dX12_passes_251 (by decide) ?_
        refine lv_iadd (pc := 252) hx hb dX12_passes_252 ?_
        obtain ⟨hin, hm⟩ := gd hm
        refine va_iast (pc := 253) (D := D) hx hb hG.1 hP hD hS 6 0 rfl rfl hin dX12_passes_253 (fun H locs hP hD hS => ?_)
        have hP : va_P D vwCl (wd_X12_passes k this this_thrown this_tape this_taped this_size this_sort this_place this_value this_at this_fault this_words this_towns this_towns_f this_op this_op_f this_arg this_arg_f this_codes this_names this_readNames this_namesMany this_readMany this_once this_lines this_facts u_this_facts_f this_pile u_this_pile_f this_state (upd u_this_state_f (q1 + 0).toNatClampNeg ((u_this_state_f (q1 + 0).toNatClampNeg) + 1)) this_undos this_isMarked this_weight this_rounding this_lacks u_this_lacks_f this_alikes this_g) H := hP
        have hD : va_D A (wd_X12_passes k this this_thrown this_tape this_taped this_size this_sort this_place this_value this_at this_fault this_words this_towns this_towns_f this_op this_op_f this_arg this_arg_f this_codes this_names this_readNames this_namesMany this_readMany this_once this_lines this_facts u_this_facts_f this_pile u_this_pile_f this_state (upd u_this_state_f (q1 + 0).toNatClampNeg ((u_this_state_f (q1 + 0).toNatClampNeg) + 1)) this_undos this_isMarked this_weight this_rounding this_lacks u_this_lacks_f this_alikes this_g) := hD
        refine lv_iload_n (pc := 254) hx hb dX12_passes_254 rfl (lv_at hl 2 rfl) ?_
        obtain ⟨hz, hm⟩ := gd hm
        rw [← Option.some.inj hm]
        exact W.zret hx hb hr (nar_bool hz) (fun t ht _ => hq _ _ H t ht hP hD locs hS) hS.2.2 dX12_passes_255 hlocks
      · rw [if_neg hc] at hm
        refine lv_aload_n (pc := 218) hx hb dX12_passes_218 rfl (lv_at hl 0 rfl) ?_
        refine va_get (pc := 219) (D := D) (ci := 10) (C := RX12) (T := TX12) (N := 30) hx hb hts hiX12 hown hG.1 hP 0 rfl rfl 22 (Nat.le_of_ble_eq_true rfl) (hts _ kw_1279) (fun _ h9 => h9) rfl dX12_passes_219 ?_
        refine lv_iload_n (pc := 222) hx hb dX12_passes_222 rfl (lv_at hl 1 rfl) ?_
        refine lv_iconst (v := 1) (pc := 223) hx hb dX12_passes_223 (by decide) ?_
        refine lv_iadd (pc := 224) hx hb dX12_passes_224 ?_
        refine lv_iload (pc := 225) hx hb dX12_passes_225 (lv_at hl 3 rfl) ?_
        refine lv_iadd (pc := 227) hx hb dX12_passes_227 ?_
        refine lv_aload_n (pc := 228) hx hb dX12_passes_228 rfl (lv_at hl 0 rfl) ?_
        refine va_get (pc := 229) (D := D) (ci := 10) (C := RX12) (T := TX12) (N := 30) hx hb hts hiX12 hown hG.1 hP 0 rfl rfl 27 (Nat.le_of_ble_eq_true rfl) (hts _ kw_1284) (fun _ h9 => h9) rfl dX12_passes_229 ?_
        refine lv_iload (pc := 232) hx hb dX12_passes_232 (lv_at hl 3 rfl) ?_
        obtain ⟨hin, hm⟩ := gd hm
        refine va_iald (pc := 234) (D := D) hx hb hG.1 hP 7 0 rfl rfl hin dX12_passes_234 ?_
        obtain ⟨hin, hm⟩ := gd hm
        refine va_iast (pc := 235) (D := D) hx hb hG.1 hP hD hS 6 0 rfl rfl hin dX12_passes_235 (fun H locs hP hD hS => ?_)
        have hP : va_P D vwCl (wd_X12_passes k this this_thrown this_tape this_taped this_size this_sort this_place this_value this_at this_fault this_words this_towns this_towns_f this_op this_op_f this_arg this_arg_f this_codes this_names this_readNames this_namesMany this_readMany this_once this_lines this_facts u_this_facts_f this_pile u_this_pile_f this_state (upd u_this_state_f ((q1 + 1) + x4).toNatClampNeg (u_this_lacks_f x4.toNatClampNeg)) this_undos this_isMarked this_weight this_rounding this_lacks u_this_lacks_f this_alikes this_g) H := hP
        have hD : va_D A (wd_X12_passes k this this_thrown this_tape this_taped this_size this_sort this_place this_value this_at this_fault this_words this_towns this_towns_f this_op this_op_f this_arg this_arg_f this_codes this_names this_readNames this_namesMany this_readMany this_once this_lines this_facts u_this_facts_f this_pile u_this_pile_f this_state (upd u_this_state_f ((q1 + 1) + x4).toNatClampNeg (u_this_lacks_f x4.toNatClampNeg)) this_undos this_isMarked this_weight this_rounding this_lacks u_this_lacks_f this_alikes this_g) := hD
        refine lv_iinc (k := 3) (v := x4 + 1) (lv' := [(4, .int (x4 + 1)), (0, .ref this), (1, .int q1), (3, .int x3)]) (pc := 236) hx hb dX12_passes_236 hl rfl rfl (Nat.le_of_ble_eq_true rfl) rfl (fun ls hl => ?_)
        refine lv_goto (tgt := 209) (pc := 239) hx hb dX12_passes_239 (by decide) ?_
        exact ih x3 (x4 + 1) u_this_facts_f u_this_pile_f (upd u_this_state_f ((q1 + 1) + x4).toNatClampNeg (u_this_lacks_f x4.toNatClampNeg)) u_this_lacks_f H locs ls hP hD hS (lv_sub hl [1, 2, 3, 0] rfl) hm
  have h_163 : ∀ (K11 : Int32 → Int32 → Int32 → (Nat → Int32) → (Nat → Int32) → (Nat → Int32) → (Nat → Int32) → Option (Int32 × (Nat → Int32) × (Nat → Int32) × (Nat → Int32) × (Nat → Int32))) (hK11 : ∀ (x2 : Int32) (x3 : Int32) (x4 : Int32) (u_this_facts_f : Nat → Int32) (u_this_pile_f : Nat → Int32) (u_this_state_f : Nat → Int32) (u_this_lacks_f : Nat → Int32) (H : Heap) (locs : List Loc) (ls : Array Slot), va_P D vwCl (wd_X12_passes k this this_thrown this_tape this_taped this_size this_sort this_place this_value this_at this_fault this_words this_towns this_towns_f this_op this_op_f this_arg this_arg_f this_codes this_names this_readNames this_namesMany this_readMany this_once this_lines this_facts u_this_facts_f this_pile u_this_pile_f this_state u_this_state_f this_undos this_isMarked this_weight this_rounding this_lacks u_this_lacks_f this_alikes this_g) H → va_D A (wd_X12_passes k this this_thrown this_tape this_taped this_size this_sort this_place this_value this_at this_fault this_words this_towns this_towns_f this_op this_op_f this_arg this_arg_f this_codes this_names this_readNames this_namesMany this_readMany this_once this_lines this_facts u_this_facts_f this_pile u_this_pile_f this_state u_this_state_f this_undos this_isMarked this_weight this_rounding this_lacks u_this_lacks_f this_alikes this_g) → va_S A s.heap H locs → lv_has ls 8 [(0, .ref this), (1, .int q1), (2, .int x2), (3, .int x3), (4, .int x4)] → K11 x2 x3 x4 u_this_facts_f u_this_pile_f u_this_state_f u_this_lacks_f = some R0 → W p l e (Rm 4 90) s m args below meth c H locs 0 0 (MQ below (QW D (some (.int R0.1)) (wd_X12_passes k this this_thrown this_tape this_taped this_size this_sort this_place this_value this_at this_fault this_words this_towns this_towns_f this_op this_op_f this_arg this_arg_f this_codes this_names this_readNames this_namesMany this_readMany this_once this_lines this_facts this_facts_f this_pile this_pile_f this_state this_state_f this_undos this_isMarked this_weight this_rounding this_lacks this_lacks_f this_alikes this_g) (wd_X12_passes k this this_thrown this_tape this_taped this_size this_sort this_place this_value this_at this_fault this_words this_towns this_towns_f this_op this_op_f this_arg this_arg_f this_codes this_names this_readNames this_namesMany this_readMany this_once this_lines this_facts R0.2.1 this_pile R0.2.2.1 this_state R0.2.2.2.1 this_undos this_isMarked this_weight this_rounding this_lacks R0.2.2.2.2 this_alikes this_g) s.heap.size) args s 0 0 A) (F0 m 11 ls [])), ∀ (x2 : Int32) (x3 : Int32) (x4 : Int32) (x5 : Int32) (t0 : Int32) (t1 : Int32) (t2 : Int32) (u_this_facts_f : Nat → Int32) (u_this_pile_f : Nat → Int32) (u_this_state_f : Nat → Int32) (u_this_lacks_f : Nat → Int32) (H : Heap) (locs : List Loc) (ls : Array Slot), va_P D vwCl (wd_X12_passes k this this_thrown this_tape this_taped this_size this_sort this_place this_value this_at this_fault this_words this_towns this_towns_f this_op this_op_f this_arg this_arg_f this_codes this_names this_readNames this_namesMany this_readMany this_once this_lines this_facts u_this_facts_f this_pile u_this_pile_f this_state u_this_state_f this_undos this_isMarked this_weight this_rounding this_lacks u_this_lacks_f this_alikes this_g) H → va_D A (wd_X12_passes k this this_thrown this_tape this_taped this_size this_sort this_place this_value this_at this_fault this_words this_towns this_towns_f this_op this_op_f this_arg this_arg_f this_codes this_names this_readNames this_namesMany this_readMany this_once this_lines this_facts u_this_facts_f this_pile u_this_pile_f this_state u_this_state_f this_undos this_isMarked this_weight this_rounding this_lacks u_this_lacks_f this_alikes this_g) → va_S A s.heap H locs → lv_has ls 8 [(0, .ref this), (1, .int q1), (2, .int x2), (3, .int x3), (4, .int x4), (5, .int x5)] → m_X12_passes_163 this_towns_f this_op_f this_arg_f this_weight this_rounding q1 K11 x2 x3 x4 x5 t0 t1 t2 u_this_facts_f u_this_pile_f u_this_state_f u_this_lacks_f = some R0 → W p l e (Rm 4 90) s m args below meth c H locs 0 0 (MQ below (QW D (some (.int R0.1)) (wd_X12_passes k this this_thrown this_tape this_taped this_size this_sort this_place this_value this_at this_fault this_words this_towns this_towns_f this_op this_op_f this_arg this_arg_f this_codes this_names this_readNames this_namesMany this_readMany this_once this_lines this_facts this_facts_f this_pile this_pile_f this_state this_state_f this_undos this_isMarked this_weight this_rounding this_lacks this_lacks_f this_alikes this_g) (wd_X12_passes k this this_thrown this_tape this_taped this_size this_sort this_place this_value this_at this_fault this_words this_towns this_towns_f this_op this_op_f this_arg this_arg_f this_codes this_names this_readNames this_namesMany this_readMany this_once this_lines this_facts R0.2.1 this_pile R0.2.2.1 this_state R0.2.2.2.1 this_undos this_isMarked this_weight this_rounding this_lacks R0.2.2.2.2 this_alikes this_g) s.heap.size) args s 0 0 A) (F0 m 163 ls [.int t0, .int t1, .int t2, .ref this_lacks]) := by
    intro K11 hK11 x2 x3 x4 x5 t0 t1 t2 u_this_facts_f u_this_pile_f u_this_state_f u_this_lacks_f H locs ls hP hD hS hl hm
    unfold m_X12_passes_163 at hm
    refine lv_bipush (v := (-9)) (pc := 163) hx hb dX12_passes_163 (by decide) ?_
    refine lv_bipush (v := 9) (pc := 165) hx hb dX12_passes_165 (by decide) ?_
    obtain ⟨r11, hcl, hm⟩ := bd hm
    refine cr_back (run_S (pc := 167) (n := 3) (As := [.int t0, .int (-9), .int 9]) (rest := [.int t1, .int t2, .ref this_lacks]) ⟨hx, hb, hml, hown, hts⟩ (c_X12_kept l D k t0 (-9) 9 r11 hcl) ⟨kw_1490, kw_16, by decide +kernel⟩ kw_1488 kw_1489 ⟨Nat.le_of_ble_eq_true rfl, Nat.le_of_ble_eq_true rfl⟩ pr_blind (prR (hP.sub [] rfl) hG) rfl hl.1 rfl (Nat.le_of_ble_eq_true rfl) dX12_passes_167 ⟨Nat.zero_le _, Nat.zero_le _⟩) ?_
    refine lv_iadd (pc := 170) hx hb dX12_passes_170 ?_
    refine lv_iconst (v := 0) (pc := 171) hx hb dX12_passes_171 (by decide) ?_
    refine lv_bipush (v := 60) (pc := 172) hx hb dX12_passes_172 (by decide) ?_
    obtain ⟨r12, hcl, hm⟩ := bd hm
    refine cr_back (run_S (pc := 174) (n := 3) (As := [.int (t1 + r11), .int 0, .int 60]) (rest := [.int t2, .ref this_lacks]) ⟨hx, hb, hml, hown, hts⟩ (c_X12_kept l D k (t1 + r11) 0 60 r12 hcl) ⟨kw_1490, kw_16, by decide +kernel⟩ kw_1488 kw_1489 ⟨Nat.le_of_ble_eq_true rfl, Nat.le_of_ble_eq_true rfl⟩ pr_blind (prR (hP.sub [] rfl) hG) rfl hl.1 rfl (Nat.le_of_ble_eq_true rfl) dX12_passes_174 ⟨Nat.zero_le _, Nat.zero_le _⟩) ?_
    obtain ⟨hin, hm⟩ := gd hm
    refine va_iast (pc := 177) (D := D) hx hb hG.1 hP hD hS 7 0 rfl rfl hin dX12_passes_177 (fun H locs hP hD hS => ?_)
    have hP : va_P D vwCl (wd_X12_passes k this this_thrown this_tape this_taped this_size this_sort this_place this_value this_at this_fault this_words this_towns this_towns_f this_op this_op_f this_arg this_arg_f this_codes this_names this_readNames this_namesMany this_readMany this_once this_lines this_facts u_this_facts_f this_pile u_this_pile_f this_state u_this_state_f this_undos this_isMarked this_weight this_rounding this_lacks (upd u_this_lacks_f t2.toNatClampNeg r12) this_alikes this_g) H := hP
    have hD : va_D A (wd_X12_passes k this this_thrown this_tape this_taped this_size this_sort this_place this_value this_at this_fault this_words this_towns this_towns_f this_op this_op_f this_arg this_arg_f this_codes this_names this_readNames this_namesMany this_readMany this_once this_lines this_facts u_this_facts_f this_pile u_this_pile_f this_state u_this_state_f this_undos this_isMarked this_weight this_rounding this_lacks (upd u_this_lacks_f t2.toNatClampNeg r12) this_alikes this_g) := hD
    refine lv_iload_n (pc := 178) hx hb dX12_passes_178 rfl (lv_at hl 3 rfl) ?_
    refine lv_if_ne (tgt := 194) (pc := 179) hx hb dX12_passes_179 (by decide) (fun hc => ?_) (fun hc => ?_)
    · rw [if_neg hc] at hm
      refine lv_iconst (v := 1) (pc := 194) hx hb dX12_passes_194 (by decide) ?_
      refine lv_goto (tgt := 199) (pc := 195) hx hb dX12_passes_195 (by decide) ?_
      refine lv_istore_n (lv' := [(3, .int 1), (0, .ref this), (1, .int q1), (2, .int x2), (4, .int x4), (5, .int x5)]) (pc := 199) hx hb dX12_passes_199 rfl hl (Nat.le_of_ble_eq_true rfl) rfl (fun ls hl => ?_)
      refine lv_iinc (k := 4) (v := x4 + 1) (lv' := [(4, .int (x4 + 1)), (3, .int 1), (0, .ref this), (1, .int q1), (2, .int x2), (5, .int x5)]) (pc := 200) hx hb dX12_passes_200 hl rfl rfl (Nat.le_of_ble_eq_true rfl) rfl (fun ls hl => ?_)
      refine lv_goto (tgt := 11) (pc := 203) hx hb dX12_passes_203 (by decide) ?_
      exact hK11 x2 1 (x4 + 1) u_this_facts_f u_this_pile_f u_this_state_f (upd u_this_lacks_f t2.toNatClampNeg r12) H locs ls hP hD hS (lv_sub hl [2, 3, 4, 1, 0] rfl) hm
    · rw [if_pos hc] at hm
      refine lv_aload_n (pc := 182) hx hb dX12_passes_182 rfl (lv_at hl 0 rfl) ?_
      refine va_get (pc := 183) (D := D) (ci := 10) (C := RX12) (T := TX12) (N := 30) hx hb hts hiX12 hown hG.1 hP 0 rfl rfl 27 (Nat.le_of_ble_eq_true rfl) (hts _ kw_1284) (fun _ h9 => h9) rfl dX12_passes_183 ?_
      refine lv_iload (pc := 186) hx hb dX12_passes_186 (lv_at hl 4 rfl) ?_
      obtain ⟨hin, hm⟩ := gd hm
      refine va_iald (pc := 188) (D := D) hx hb hG.1 hP 7 0 rfl rfl hin dX12_passes_188 ?_
      refine lv_iload (pc := 189) hx hb dX12_passes_189 (lv_at hl 5 rfl) ?_
      refine lv_icmp_eq (tgt := 198) (pc := 191) hx hb dX12_passes_191 (by decide) (fun hc => ?_) (fun hc => ?_)
      · rw [if_pos hc] at hm
        refine lv_iconst (v := 0) (pc := 198) hx hb dX12_passes_198 (by decide) ?_
        refine lv_istore_n (lv' := [(3, .int 0), (0, .ref this), (1, .int q1), (2, .int x2), (4, .int x4), (5, .int x5)]) (pc := 199) hx hb dX12_passes_199 rfl hl (Nat.le_of_ble_eq_true rfl) rfl (fun ls hl => ?_)
        refine lv_iinc (k := 4) (v := x4 + 1) (lv' := [(4, .int (x4 + 1)), (3, .int 0), (0, .ref this), (1, .int q1), (2, .int x2), (5, .int x5)]) (pc := 200) hx hb dX12_passes_200 hl rfl rfl (Nat.le_of_ble_eq_true rfl) rfl (fun ls hl => ?_)
        refine lv_goto (tgt := 11) (pc := 203) hx hb dX12_passes_203 (by decide) ?_
        exact hK11 x2 0 (x4 + 1) u_this_facts_f u_this_pile_f u_this_state_f (upd u_this_lacks_f t2.toNatClampNeg r12) H locs ls hP hD hS (lv_sub hl [2, 3, 4, 1, 0] rfl) hm
      · rw [if_neg hc] at hm
        refine lv_iconst (v := 1) (pc := 194) hx hb dX12_passes_194 (by decide) ?_
        refine lv_goto (tgt := 199) (pc := 195) hx hb dX12_passes_195 (by decide) ?_
        refine lv_istore_n (lv' := [(3, .int 1), (0, .ref this), (1, .int q1), (2, .int x2), (4, .int x4), (5, .int x5)]) (pc := 199) hx hb dX12_passes_199 rfl hl (Nat.le_of_ble_eq_true rfl) rfl (fun ls hl => ?_)
        refine lv_iinc (k := 4) (v := x4 + 1) (lv' := [(4, .int (x4 + 1)), (3, .int 1), (0, .ref this), (1, .int q1), (2, .int x2), (5, .int x5)]) (pc := 200) hx hb dX12_passes_200 hl rfl rfl (Nat.le_of_ble_eq_true rfl) rfl (fun ls hl => ?_)
        refine lv_goto (tgt := 11) (pc := 203) hx hb dX12_passes_203 (by decide) ?_
        exact hK11 x2 1 (x4 + 1) u_this_facts_f u_this_pile_f u_this_state_f (upd u_this_lacks_f t2.toNatClampNeg r12) H locs ls hP hD hS (lv_sub hl [2, 3, 4, 1, 0] rfl) hm
  have h_39 : ∀ (K11 : Int32 → Int32 → Int32 → (Nat → Int32) → (Nat → Int32) → (Nat → Int32) → (Nat → Int32) → Option (Int32 × (Nat → Int32) × (Nat → Int32) × (Nat → Int32) × (Nat → Int32))) (hK11 : ∀ (x2 : Int32) (x3 : Int32) (x4 : Int32) (u_this_facts_f : Nat → Int32) (u_this_pile_f : Nat → Int32) (u_this_state_f : Nat → Int32) (u_this_lacks_f : Nat → Int32) (H : Heap) (locs : List Loc) (ls : Array Slot), va_P D vwCl (wd_X12_passes k this this_thrown this_tape this_taped this_size this_sort this_place this_value this_at this_fault this_words this_towns this_towns_f this_op this_op_f this_arg this_arg_f this_codes this_names this_readNames this_namesMany this_readMany this_once this_lines this_facts u_this_facts_f this_pile u_this_pile_f this_state u_this_state_f this_undos this_isMarked this_weight this_rounding this_lacks u_this_lacks_f this_alikes this_g) H → va_D A (wd_X12_passes k this this_thrown this_tape this_taped this_size this_sort this_place this_value this_at this_fault this_words this_towns this_towns_f this_op this_op_f this_arg this_arg_f this_codes this_names this_readNames this_namesMany this_readMany this_once this_lines this_facts u_this_facts_f this_pile u_this_pile_f this_state u_this_state_f this_undos this_isMarked this_weight this_rounding this_lacks u_this_lacks_f this_alikes this_g) → va_S A s.heap H locs → lv_has ls 8 [(0, .ref this), (1, .int q1), (2, .int x2), (3, .int x3), (4, .int x4)] → K11 x2 x3 x4 u_this_facts_f u_this_pile_f u_this_state_f u_this_lacks_f = some R0 → W p l e (Rm 4 90) s m args below meth c H locs 0 0 (MQ below (QW D (some (.int R0.1)) (wd_X12_passes k this this_thrown this_tape this_taped this_size this_sort this_place this_value this_at this_fault this_words this_towns this_towns_f this_op this_op_f this_arg this_arg_f this_codes this_names this_readNames this_namesMany this_readMany this_once this_lines this_facts this_facts_f this_pile this_pile_f this_state this_state_f this_undos this_isMarked this_weight this_rounding this_lacks this_lacks_f this_alikes this_g) (wd_X12_passes k this this_thrown this_tape this_taped this_size this_sort this_place this_value this_at this_fault this_words this_towns this_towns_f this_op this_op_f this_arg this_arg_f this_codes this_names this_readNames this_namesMany this_readMany this_once this_lines this_facts R0.2.1 this_pile R0.2.2.1 this_state R0.2.2.2.1 this_undos this_isMarked this_weight this_rounding this_lacks R0.2.2.2.2 this_alikes this_g) s.heap.size) args s 0 0 A) (F0 m 11 ls [])), ∀ (n : Nat), ∀ (x2 : Int32) (x3 : Int32) (x4 : Int32) (x5 : Int32) (x6 : Int32) (x7 : Int32) (u_this_facts_f : Nat → Int32) (u_this_pile_f : Nat → Int32) (u_this_state_f : Nat → Int32) (u_this_lacks_f : Nat → Int32) (H : Heap) (locs : List Loc) (ls : Array Slot), va_P D vwCl (wd_X12_passes k this this_thrown this_tape this_taped this_size this_sort this_place this_value this_at this_fault this_words this_towns this_towns_f this_op this_op_f this_arg this_arg_f this_codes this_names this_readNames this_namesMany this_readMany this_once this_lines this_facts u_this_facts_f this_pile u_this_pile_f this_state u_this_state_f this_undos this_isMarked this_weight this_rounding this_lacks u_this_lacks_f this_alikes this_g) H → va_D A (wd_X12_passes k this this_thrown this_tape this_taped this_size this_sort this_place this_value this_at this_fault this_words this_towns this_towns_f this_op this_op_f this_arg this_arg_f this_codes this_names this_readNames this_namesMany this_readMany this_once this_lines this_facts u_this_facts_f this_pile u_this_pile_f this_state u_this_state_f this_undos this_isMarked this_weight this_rounding this_lacks u_this_lacks_f this_alikes this_g) → va_S A s.heap H locs → lv_has ls 8 [(0, .ref this), (1, .int q1), (2, .int x2), (3, .int x3), (4, .int x4), (5, .int x5), (6, .int x6), (7, .int x7)] → m_X12_passes_39 this_towns_f this_op_f this_arg_f this_weight this_rounding q1 K11 n x2 x3 x4 x5 x6 x7 u_this_facts_f u_this_pile_f u_this_state_f u_this_lacks_f = some R0 → W p l e (Rm 4 90) s m args below meth c H locs 0 0 (MQ below (QW D (some (.int R0.1)) (wd_X12_passes k this this_thrown this_tape this_taped this_size this_sort this_place this_value this_at this_fault this_words this_towns this_towns_f this_op this_op_f this_arg this_arg_f this_codes this_names this_readNames this_namesMany this_readMany this_once this_lines this_facts this_facts_f this_pile this_pile_f this_state this_state_f this_undos this_isMarked this_weight this_rounding this_lacks this_lacks_f this_alikes this_g) (wd_X12_passes k this this_thrown this_tape this_taped this_size this_sort this_place this_value this_at this_fault this_words this_towns this_towns_f this_op this_op_f this_arg this_arg_f this_codes this_names this_readNames this_namesMany this_readMany this_once this_lines this_facts R0.2.1 this_pile R0.2.2.1 this_state R0.2.2.2.1 this_undos this_isMarked this_weight this_rounding this_lacks R0.2.2.2.2 this_alikes this_g) s.heap.size) args s 0 0 A) (F0 m 39 ls []) := by
    intro K11 hK11
    intro n
    induction n with
    | zero => intro x2 x3 x4 x5 x6 x7 u_this_facts_f u_this_pile_f u_this_state_f u_this_lacks_f H locs ls hP hD hS hl hm; cases hm
    | succ n ih =>
      intro x2 x3 x4 x5 x6 x7 u_this_facts_f u_this_pile_f u_this_state_f u_this_lacks_f H locs ls hP hD hS hl hm
      unfold m_X12_passes_39 at hm
      refine lv_iload (pc := 39) hx hb dX12_passes_39 (lv_at hl 7 rfl) ?_
      refine lv_aload_n (pc := 41) hx hb dX12_passes_41 rfl (lv_at hl 0 rfl) ?_
      obtain ⟨r13, hcl, hm⟩ := bd hm
      refine cr_back (run_V (pc := 42) (n := 0) (As := []) (rest := [.int x7]) ⟨hx, hb, hml, hown, hts⟩ (c_X12_persons l D k this this_thrown this_tape this_taped this_size this_sort this_place this_value this_at this_fault this_words this_towns this_towns_f this_op this_arg this_codes this_names this_readNames this_namesMany this_readMany this_once this_lines this_facts this_pile this_state this_undos this_isMarked this_weight this_rounding this_lacks this_alikes this_g r13 hcl) ⟨kw_1252, kw_16, by decide +kernel⟩ kw_1249 kw_1251 ks_97 ⟨Nat.le_of_ble_eq_true rfl, Nat.le_of_ble_eq_true rfl⟩ pr_blind (prR (hP.sub [0, 1] rfl) hG) (va_recv hG.1 hP (ci := 10) (q0 := 0) rfl rfl) rfl hl.1 rfl (Nat.le_of_ble_eq_true rfl) dX12_passes_42 ⟨Nat.zero_le _, Nat.zero_le _⟩) ?_
      refine lv_icmp_ge (tgt := 92) (pc := 45) hx hb dX12_passes_45 (by decide) (fun hc => ?_) (fun hc => ?_)
      · rw [if_pos hc] at hm
        refine lv_aload_n (pc := 92) hx hb dX12_passes_92 rfl (lv_at hl 0 rfl) ?_
        refine va_get (pc := 93) (D := D) (ci := 10) (C := RX12) (T := TX12) (N := 30) hx hb hts hiX12 hown hG.1 hP 0 rfl rfl 20 (Nat.le_of_ble_eq_true rfl) (hts _ kw_1277) (fun _ h9 => h9) rfl dX12_passes_93 ?_
        refine lv_iconst (v := 0) (pc := 96) hx hb dX12_passes_96 (by decide) ?_
        refine lv_iload (pc := 97) hx hb dX12_passes_97 (lv_at hl 5 rfl) ?_
        refine va_iast (pc := 99) (D := D) hx hb hG.1 hP hD hS 4 0 rfl rfl (pn_in (Nat.le_of_ble_eq_true rfl) (Nat.le_of_ble_eq_true rfl)) dX12_passes_99 (fun H locs hP hD hS => ?_)
        have hP : va_P D vwCl (wd_X12_passes k this this_thrown this_tape this_taped this_size this_sort this_place this_value this_at this_fault this_words this_towns this_towns_f this_op this_op_f this_arg this_arg_f this_codes this_names this_readNames this_namesMany this_readMany this_once this_lines this_facts (upd u_this_facts_f (0 : Int32).toNatClampNeg x5) this_pile u_this_pile_f this_state u_this_state_f this_undos this_isMarked this_weight this_rounding this_lacks u_this_lacks_f this_alikes this_g) H := hP
        have hD : va_D A (wd_X12_passes k this this_thrown this_tape this_taped this_size this_sort this_place this_value this_at this_fault this_words this_towns this_towns_f this_op this_op_f this_arg this_arg_f this_codes this_names this_readNames this_namesMany this_readMany this_once this_lines this_facts (upd u_this_facts_f (0 : Int32).toNatClampNeg x5) this_pile u_this_pile_f this_state u_this_state_f this_undos this_isMarked this_weight this_rounding this_lacks u_this_lacks_f this_alikes this_g) := hD
        refine lv_aload_n (pc := 100) hx hb dX12_passes_100 rfl (lv_at hl 0 rfl) ?_
        refine va_get (pc := 101) (D := D) (ci := 10) (C := RX12) (T := TX12) (N := 30) hx hb hts hiX12 hown hG.1 hP 0 rfl rfl 20 (Nat.le_of_ble_eq_true rfl) (hts _ kw_1277) (fun _ h9 => h9) rfl dX12_passes_101 ?_
        refine lv_iconst (v := 1) (pc := 104) hx hb dX12_passes_104 (by decide) ?_
        refine lv_iload_n (pc := 105) hx hb dX12_passes_105 rfl (lv_at hl 2 rfl) ?_
        refine va_iast (pc := 106) (D := D) hx hb hG.1 hP hD hS 4 0 rfl rfl (pn_in (Nat.le_of_ble_eq_true rfl) (Nat.le_of_ble_eq_true rfl)) dX12_passes_106 (fun H locs hP hD hS => ?_)
        have hP : va_P D vwCl (wd_X12_passes k this this_thrown this_tape this_taped this_size this_sort this_place this_value this_at this_fault this_words this_towns this_towns_f this_op this_op_f this_arg this_arg_f this_codes this_names this_readNames this_namesMany this_readMany this_once this_lines this_facts (upd (upd u_this_facts_f (0 : Int32).toNatClampNeg x5) (1 : Int32).toNatClampNeg x2) this_pile u_this_pile_f this_state u_this_state_f this_undos this_isMarked this_weight this_rounding this_lacks u_this_lacks_f this_alikes this_g) H := hP
        have hD : va_D A (wd_X12_passes k this this_thrown this_tape this_taped this_size this_sort this_place this_value this_at this_fault this_words this_towns this_towns_f this_op this_op_f this_arg this_arg_f this_codes this_names this_readNames this_namesMany this_readMany this_once this_lines this_facts (upd (upd u_this_facts_f (0 : Int32).toNatClampNeg x5) (1 : Int32).toNatClampNeg x2) this_pile u_this_pile_f this_state u_this_state_f this_undos this_isMarked this_weight this_rounding this_lacks u_this_lacks_f this_alikes this_g) := hD
        refine lv_aload_n (pc := 107) hx hb dX12_passes_107 rfl (lv_at hl 0 rfl) ?_
        refine va_get (pc := 108) (D := D) (ci := 10) (C := RX12) (T := TX12) (N := 30) hx hb hts hiX12 hown hG.1 hP 0 rfl rfl 20 (Nat.le_of_ble_eq_true rfl) (hts _ kw_1277) (fun _ h9 => h9) rfl dX12_passes_108 ?_
        refine lv_iconst (v := 2) (pc := 111) hx hb dX12_passes_111 (by decide) ?_
        refine lv_iload (pc := 112) hx hb dX12_passes_112 (lv_at hl 6 rfl) ?_
        refine va_iast (pc := 114) (D := D) hx hb hG.1 hP hD hS 4 0 rfl rfl (pn_in (Nat.le_of_ble_eq_true rfl) (Nat.le_of_ble_eq_true rfl)) dX12_passes_114 (fun H locs hP hD hS => ?_)
        have hP : va_P D vwCl (wd_X12_passes k this this_thrown this_tape this_taped this_size this_sort this_place this_value this_at this_fault this_words this_towns this_towns_f this_op this_op_f this_arg this_arg_f this_codes this_names this_readNames this_namesMany this_readMany this_once this_lines this_facts (upd (upd (upd u_this_facts_f (0 : Int32).toNatClampNeg x5) (1 : Int32).toNatClampNeg x2) (2 : Int32).toNatClampNeg x6) this_pile u_this_pile_f this_state u_this_state_f this_undos this_isMarked this_weight this_rounding this_lacks u_this_lacks_f this_alikes this_g) H := hP
        have hD : va_D A (wd_X12_passes k this this_thrown this_tape this_taped this_size this_sort this_place this_value this_at this_fault this_words this_towns this_towns_f this_op this_op_f this_arg this_arg_f this_codes this_names this_readNames this_namesMany this_readMany this_once this_lines this_facts (upd (upd (upd u_this_facts_f (0 : Int32).toNatClampNeg x5) (1 : Int32).toNatClampNeg x2) (2 : Int32).toNatClampNeg x6) this_pile u_this_pile_f this_state u_this_state_f this_undos this_isMarked this_weight this_rounding this_lacks u_this_lacks_f this_alikes this_g) := hD
        refine lv_aload_n (pc := 115) hx hb dX12_passes_115 rfl (lv_at hl 0 rfl) ?_
        refine va_get (pc := 116) (D := D) (ci := 10) (C := RX12) (T := TX12) (N := 30) hx hb hts hiX12 hown hG.1 hP 0 rfl rfl 20 (Nat.le_of_ble_eq_true rfl) (hts _ kw_1277) (fun _ h9 => h9) rfl dX12_passes_116 ?_
        refine lv_iconst (v := 3) (pc := 119) hx hb dX12_passes_119 (by decide) ?_
        refine lv_aload_n (pc := 120) hx hb dX12_passes_120 rfl (lv_at hl 0 rfl) ?_
        refine va_get (pc := 121) (D := D) (ci := 10) (C := RX12) (T := TX12) (N := 30) hx hb hts hiX12 hown hG.1 hP 0 rfl rfl 22 (Nat.le_of_ble_eq_true rfl) (hts _ kw_1279) (fun _ h9 => h9) rfl dX12_passes_121 ?_
        refine lv_iload_n (pc := 124) hx hb dX12_passes_124 rfl (lv_at hl 1 rfl) ?_
        refine lv_iconst (v := 0) (pc := 125) hx hb dX12_passes_125 (by decide) ?_
        refine lv_iadd (pc := 126) hx hb dX12_passes_126 ?_
        obtain ⟨hin, hm⟩ := gd hm
        refine va_iald (pc := 127) (D := D) hx hb hG.1 hP 6 0 rfl rfl hin dX12_passes_127 ?_
        refine va_iast (pc := 128) (D := D) hx hb hG.1 hP hD hS 4 0 rfl rfl (pn_in (Nat.le_of_ble_eq_true rfl) (Nat.le_of_ble_eq_true rfl)) dX12_passes_128 (fun H locs hP hD hS => ?_)
        have hP : va_P D vwCl (wd_X12_passes k this this_thrown this_tape this_taped this_size this_sort this_place this_value this_at this_fault this_words this_towns this_towns_f this_op this_op_f this_arg this_arg_f this_codes this_names this_readNames this_namesMany this_readMany this_once this_lines this_facts (upd (upd (upd (upd u_this_facts_f (0 : Int32).toNatClampNeg x5) (1 : Int32).toNatClampNeg x2) (2 : Int32).toNatClampNeg x6) (3 : Int32).toNatClampNeg (u_this_state_f (q1 + 0).toNatClampNeg)) this_pile u_this_pile_f this_state u_this_state_f this_undos this_isMarked this_weight this_rounding this_lacks u_this_lacks_f this_alikes this_g) H := hP
        have hD : va_D A (wd_X12_passes k this this_thrown this_tape this_taped this_size this_sort this_place this_value this_at this_fault this_words this_towns this_towns_f this_op this_op_f this_arg this_arg_f this_codes this_names this_readNames this_namesMany this_readMany this_once this_lines this_facts (upd (upd (upd (upd u_this_facts_f (0 : Int32).toNatClampNeg x5) (1 : Int32).toNatClampNeg x2) (2 : Int32).toNatClampNeg x6) (3 : Int32).toNatClampNeg (u_this_state_f (q1 + 0).toNatClampNeg)) this_pile u_this_pile_f this_state u_this_state_f this_undos this_isMarked this_weight this_rounding this_lacks u_this_lacks_f this_alikes this_g) := hD
        refine lv_aload_n (pc := 129) hx hb dX12_passes_129 rfl (lv_at hl 0 rfl) ?_
        refine va_get (pc := 130) (D := D) (ci := 10) (C := RX12) (T := TX12) (N := 30) hx hb hts hiX12 hown hG.1 hP 0 rfl rfl 27 (Nat.le_of_ble_eq_true rfl) (hts _ kw_1284) (fun _ h9 => h9) rfl dX12_passes_130 ?_
        refine lv_iload (pc := 133) hx hb dX12_passes_133 (lv_at hl 4 rfl) ?_
        refine lv_iload (pc := 135) hx hb dX12_passes_135 (lv_at hl 5 rfl) ?_
        refine lv_aload_n (pc := 137) hx hb dX12_passes_137 rfl (lv_at hl 0 rfl) ?_
        refine va_get (pc := 138) (D := D) (ci := 10) (C := RX12) (T := TX12) (N := 30) hx hb hts hiX12 hown hG.1 hP 0 rfl rfl 10 (Nat.le_of_ble_eq_true rfl) (hts _ kw_1267) (fun _ h9 => h9) rfl dX12_passes_138 ?_
        refine lv_iconst (v := 4) (pc := 141) hx hb dX12_passes_141 (by decide) ?_
        refine va_iald (pc := 142) (D := D) hx hb hG.1 hP 1 0 rfl rfl (pn_in (Nat.le_of_ble_eq_true rfl) (Nat.le_of_ble_eq_true rfl)) dX12_passes_142 ?_
        refine lv_if_ge (tgt := 153) (pc := 143) hx hb dX12_passes_143 (by decide) (fun hc => ?_) (fun hc => ?_)
        · rw [if_pos hc] at hm
          refine lv_aload_n (pc := 153) hx hb dX12_passes_153 rfl (lv_at hl 0 rfl) ?_
          refine lv_aload_n (pc := 154) hx hb dX12_passes_154 rfl (lv_at hl 0 rfl) ?_
          refine va_get (pc := 155) (D := D) (ci := 10) (C := RX12) (T := TX12) (N := 30) hx hb hts hiX12 hown hG.1 hP 0 rfl rfl 10 (Nat.le_of_ble_eq_true rfl) (hts _ kw_1267) (fun _ h9 => h9) rfl dX12_passes_155 ?_
          refine lv_iconst (v := 4) (pc := 158) hx hb dX12_passes_158 (by decide) ?_
          refine va_iald (pc := 159) (D := D) hx hb hG.1 hP 1 0 rfl rfl (pn_in (Nat.le_of_ble_eq_true rfl) (Nat.le_of_ble_eq_true rfl)) dX12_passes_159 ?_
          obtain ⟨r14, hcl, hm⟩ := bd hm
          refine cw_mask (ws' := (wd_X12_passes k this this_thrown this_tape this_taped this_size this_sort this_place this_value this_at this_fault this_words this_towns this_towns_f this_op this_op_f this_arg this_arg_f this_codes this_names this_readNames this_namesMany this_readMany this_once this_lines this_facts (upd (upd (upd (upd u_this_facts_f (0 : Int32).toNatClampNeg x5) (1 : Int32).toNatClampNeg x2) (2 : Int32).toNatClampNeg x6) (3 : Int32).toNatClampNeg (u_this_state_f (q1 + 0).toNatClampNeg)) this_pile r14.2 this_state u_this_state_f this_undos this_isMarked this_weight this_rounding this_lacks u_this_lacks_f this_alikes this_g)) (run_V (pc := 160) (n := 1) (As := [.int (this_towns_f (4 : Int32).toNatClampNeg)]) (rest := [.int x5, .int x4, .ref this_lacks]) ⟨hx, hb, hml, hown, hts⟩ ((c_X12_worthAt l D k this this_thrown this_tape this_taped this_size this_sort this_place this_value this_at this_fault this_words this_towns this_op this_op_f this_arg this_arg_f this_codes this_names this_readNames this_namesMany this_readMany this_once this_lines this_facts (upd (upd (upd (upd u_this_facts_f (0 : Int32).toNatClampNeg x5) (1 : Int32).toNatClampNeg x2) (2 : Int32).toNatClampNeg x6) (3 : Int32).toNatClampNeg (u_this_state_f (q1 + 0).toNatClampNeg)) this_pile u_this_pile_f this_state this_undos this_isMarked this_weight this_rounding this_lacks this_alikes this_g (this_towns_f (4 : Int32).toNatClampNeg) r14 hcl) H.size) ⟨kw_1545, kw_16, by decide +kernel⟩ kw_1542 kw_1544 ks_133 ⟨Nat.le_of_ble_eq_true rfl, Nat.le_of_ble_eq_true rfl⟩ pw_blind (prW (P_pick [true, false, true, true, true, true] rfl hP) hG (D_pick [true, false, true, true, true, true] rfl hD)) (va_recv hG.1 hP (ci := 10) (q0 := 0) rfl rfl) rfl hl.1 rfl (Nat.le_of_ble_eq_true rfl) dX12_passes_160 ⟨Nat.zero_le _, Nat.zero_le _⟩) hP hD hS hA [true, false, true, true, true, true] rfl rfl rfl (fun H locs hP hD hS => ?_)
          exact h_163 K11 hK11 x2 x3 x4 x5 r14.1 x5 x4 (upd (upd (upd (upd u_this_facts_f (0 : Int32).toNatClampNeg x5) (1 : Int32).toNatClampNeg x2) (2 : Int32).toNatClampNeg x6) (3 : Int32).toNatClampNeg (u_this_state_f (q1 + 0).toNatClampNeg)) r14.2 u_this_state_f u_this_lacks_f H locs ls hP hD hS (lv_sub hl [0, 1, 2, 3, 4, 5] rfl) hm
        · rw [if_neg hc] at hm
          refine lv_iload (pc := 146) hx hb dX12_passes_146 (lv_at hl 6 rfl) ?_
          refine lv_iconst (v := 1) (pc := 148) hx hb dX12_passes_148 (by decide) ?_
          refine lv_isub (pc := 149) hx hb dX12_passes_149 ?_
          refine lv_goto (tgt := 163) (pc := 150) hx hb dX12_passes_150 (by decide) ?_
          exact h_163 K11 hK11 x2 x3 x4 x5 (x6 - 1) x5 x4 (upd (upd (upd (upd u_this_facts_f (0 : Int32).toNatClampNeg x5) (1 : Int32).toNatClampNeg x2) (2 : Int32).toNatClampNeg x6) (3 : Int32).toNatClampNeg (u_this_state_f (q1 + 0).toNatClampNeg)) u_this_pile_f u_this_state_f u_this_lacks_f H locs ls hP hD hS (lv_sub hl [0, 1, 2, 3, 4, 5] rfl) hm
      · rw [if_neg hc] at hm
        refine lv_iload (pc := 48) hx hb dX12_passes_48 (lv_at hl 6 rfl) ?_
        refine lv_aload_n (pc := 50) hx hb dX12_passes_50 rfl (lv_at hl 0 rfl) ?_
        refine lv_iload_n (pc := 51) hx hb dX12_passes_51 rfl (lv_at hl 1 rfl) ?_
        refine lv_iload (pc := 52) hx hb dX12_passes_52 (lv_at hl 4 rfl) ?_
        refine lv_iload (pc := 54) hx hb dX12_passes_54 (lv_at hl 7 rfl) ?_
        obtain ⟨r15, hcl, hm⟩ := bd hm
        refine cr_back (run_V (pc := 56) (n := 3) (As := [.int q1, .int x4, .int x7]) (rest := [.int x6]) ⟨hx, hb, hml, hown, hts⟩ (c_X12_doesFeel l D k this this_thrown this_tape this_taped this_size this_sort this_place this_value this_at this_fault this_words this_towns this_op this_arg this_codes this_names this_readNames this_namesMany this_readMany this_once this_lines this_facts this_pile this_state u_this_state_f this_undos this_isMarked this_weight this_rounding this_lacks this_alikes this_g q1 x4 x7 r15 hcl) ⟨kw_1541, kw_16, by decide +kernel⟩ kw_1538 kw_1540 ks_132 ⟨Nat.le_of_ble_eq_true rfl, Nat.le_of_ble_eq_true rfl⟩ pr_blind (prR (hP.sub [0, 6] rfl) hG) (va_recv hG.1 hP (ci := 10) (q0 := 0) rfl rfl) rfl hl.1 rfl (Nat.le_of_ble_eq_true rfl) dX12_passes_56 ⟨Nat.zero_le _, Nat.zero_le _⟩) ?_
        refine lv_if_eq (tgt := 82) (pc := 59) hx hb dX12_passes_59 (by decide) (fun hc => ?_) (fun hc => ?_)
        · rw [if_pos hc] at hm
          refine lv_iconst (v := 0) (pc := 82) hx hb dX12_passes_82 (by decide) ?_
          refine lv_iadd (pc := 83) hx hb dX12_passes_83 ?_
          refine lv_istore (lv' := [(6, .int (x6 + 0)), (0, .ref this), (1, .int q1), (2, .int x2), (3, .int x3), (4, .int x4), (5, .int x5), (7, .int x7)]) (pc := 84) hx hb dX12_passes_84 hl (Nat.le_of_ble_eq_true rfl) rfl (fun ls hl => ?_)
          refine lv_iinc (k := 7) (v := x7 + 1) (lv' := [(7, .int (x7 + 1)), (6, .int (x6 + 0)), (0, .ref this), (1, .int q1), (2, .int x2), (3, .int x3), (4, .int x4), (5, .int x5)]) (pc := 86) hx hb dX12_passes_86 hl rfl rfl (Nat.le_of_ble_eq_true rfl) rfl (fun ls hl => ?_)
          refine lv_goto (tgt := 39) (pc := 89) hx hb dX12_passes_89 (by decide) ?_
          exact ih x2 x3 x4 x5 (x6 + 0) (x7 + 1) u_this_facts_f u_this_pile_f u_this_state_f u_this_lacks_f H locs ls hP hD hS (lv_sub hl [2, 3, 4, 5, 6, 7, 1, 0] rfl) hm
        · rw [if_neg hc] at hm
          refine lv_aload_n (pc := 62) hx hb dX12_passes_62 rfl (lv_at hl 0 rfl) ?_
          refine va_get (pc := 63) (D := D) (ci := 10) (C := RX12) (T := TX12) (N := 30) hx hb hts hiX12 hown hG.1 hP 0 rfl rfl 22 (Nat.le_of_ble_eq_true rfl) (hts _ kw_1279) (fun _ h9 => h9) rfl dX12_passes_63 ?_
          refine lv_iload_n (pc := 66) hx hb dX12_passes_66 rfl (lv_at hl 1 rfl) ?_
          refine lv_iconst (v := 1) (pc := 67) hx hb dX12_passes_67 (by decide) ?_
          refine lv_iadd (pc := 68) hx hb dX12_passes_68 ?_
          refine lv_iload (pc := 69) hx hb dX12_passes_69 (lv_at hl 7 rfl) ?_
          refine lv_iadd (pc := 71) hx hb dX12_passes_71 ?_
          obtain ⟨hin, hm⟩ := gd hm
          refine va_iald (pc := 72) (D := D) hx hb hG.1 hP 6 0 rfl rfl hin dX12_passes_72 ?_
          refine lv_iload (pc := 73) hx hb dX12_passes_73 (lv_at hl 5 rfl) ?_
          refine lv_icmp_le (tgt := 82) (pc := 75) hx hb dX12_passes_75 (by decide) (fun hc => ?_) (fun hc => ?_)
          · rw [if_pos hc] at hm
            refine lv_iconst (v := 0) (pc := 82) hx hb dX12_passes_82 (by decide) ?_
            refine lv_iadd (pc := 83) hx hb dX12_passes_83 ?_
            refine lv_istore (lv' := [(6, .int (x6 + 0)), (0, .ref this), (1, .int q1), (2, .int x2), (3, .int x3), (4, .int x4), (5, .int x5), (7, .int x7)]) (pc := 84) hx hb dX12_passes_84 hl (Nat.le_of_ble_eq_true rfl) rfl (fun ls hl => ?_)
            refine lv_iinc (k := 7) (v := x7 + 1) (lv' := [(7, .int (x7 + 1)), (6, .int (x6 + 0)), (0, .ref this), (1, .int q1), (2, .int x2), (3, .int x3), (4, .int x4), (5, .int x5)]) (pc := 86) hx hb dX12_passes_86 hl rfl rfl (Nat.le_of_ble_eq_true rfl) rfl (fun ls hl => ?_)
            refine lv_goto (tgt := 39) (pc := 89) hx hb dX12_passes_89 (by decide) ?_
            exact ih x2 x3 x4 x5 (x6 + 0) (x7 + 1) u_this_facts_f u_this_pile_f u_this_state_f u_this_lacks_f H locs ls hP hD hS (lv_sub hl [2, 3, 4, 5, 6, 7, 1, 0] rfl) hm
          · rw [if_neg hc] at hm
            refine lv_iconst (v := 1) (pc := 78) hx hb dX12_passes_78 (by decide) ?_
            refine lv_goto (tgt := 83) (pc := 79) hx hb dX12_passes_79 (by decide) ?_
            refine lv_iadd (pc := 83) hx hb dX12_passes_83 ?_
            refine lv_istore (lv' := [(6, .int (x6 + 1)), (0, .ref this), (1, .int q1), (2, .int x2), (3, .int x3), (4, .int x4), (5, .int x5), (7, .int x7)]) (pc := 84) hx hb dX12_passes_84 hl (Nat.le_of_ble_eq_true rfl) rfl (fun ls hl => ?_)
            refine lv_iinc (k := 7) (v := x7 + 1) (lv' := [(7, .int (x7 + 1)), (6, .int (x6 + 1)), (0, .ref this), (1, .int q1), (2, .int x2), (3, .int x3), (4, .int x4), (5, .int x5)]) (pc := 86) hx hb dX12_passes_86 hl rfl rfl (Nat.le_of_ble_eq_true rfl) rfl (fun ls hl => ?_)
            refine lv_goto (tgt := 39) (pc := 89) hx hb dX12_passes_89 (by decide) ?_
            exact ih x2 x3 x4 x5 (x6 + 1) (x7 + 1) u_this_facts_f u_this_pile_f u_this_state_f u_this_lacks_f H locs ls hP hD hS (lv_sub hl [2, 3, 4, 5, 6, 7, 1, 0] rfl) hm
  have h_11 : ∀ (n : Nat), ∀ (x2 : Int32) (x3 : Int32) (x4 : Int32) (u_this_facts_f : Nat → Int32) (u_this_pile_f : Nat → Int32) (u_this_state_f : Nat → Int32) (u_this_lacks_f : Nat → Int32) (H : Heap) (locs : List Loc) (ls : Array Slot), va_P D vwCl (wd_X12_passes k this this_thrown this_tape this_taped this_size this_sort this_place this_value this_at this_fault this_words this_towns this_towns_f this_op this_op_f this_arg this_arg_f this_codes this_names this_readNames this_namesMany this_readMany this_once this_lines this_facts u_this_facts_f this_pile u_this_pile_f this_state u_this_state_f this_undos this_isMarked this_weight this_rounding this_lacks u_this_lacks_f this_alikes this_g) H → va_D A (wd_X12_passes k this this_thrown this_tape this_taped this_size this_sort this_place this_value this_at this_fault this_words this_towns this_towns_f this_op this_op_f this_arg this_arg_f this_codes this_names this_readNames this_namesMany this_readMany this_once this_lines this_facts u_this_facts_f this_pile u_this_pile_f this_state u_this_state_f this_undos this_isMarked this_weight this_rounding this_lacks u_this_lacks_f this_alikes this_g) → va_S A s.heap H locs → lv_has ls 8 [(0, .ref this), (1, .int q1), (2, .int x2), (3, .int x3), (4, .int x4)] → m_X12_passes_11 this_towns_f this_op_f this_arg_f this_weight this_rounding q1 n x2 x3 x4 u_this_facts_f u_this_pile_f u_this_state_f u_this_lacks_f = some R0 → W p l e (Rm 4 90) s m args below meth c H locs 0 0 (MQ below (QW D (some (.int R0.1)) (wd_X12_passes k this this_thrown this_tape this_taped this_size this_sort this_place this_value this_at this_fault this_words this_towns this_towns_f this_op this_op_f this_arg this_arg_f this_codes this_names this_readNames this_namesMany this_readMany this_once this_lines this_facts this_facts_f this_pile this_pile_f this_state this_state_f this_undos this_isMarked this_weight this_rounding this_lacks this_lacks_f this_alikes this_g) (wd_X12_passes k this this_thrown this_tape this_taped this_size this_sort this_place this_value this_at this_fault this_words this_towns this_towns_f this_op this_op_f this_arg this_arg_f this_codes this_names this_readNames this_namesMany this_readMany this_once this_lines this_facts R0.2.1 this_pile R0.2.2.1 this_state R0.2.2.2.1 this_undos this_isMarked this_weight this_rounding this_lacks R0.2.2.2.2 this_alikes this_g) s.heap.size) args s 0 0 A) (F0 m 11 ls []) := by
    intro n
    induction n with
    | zero => intro x2 x3 x4 u_this_facts_f u_this_pile_f u_this_state_f u_this_lacks_f H locs ls hP hD hS hl hm; cases hm
    | succ n ih =>
      intro x2 x3 x4 u_this_facts_f u_this_pile_f u_this_state_f u_this_lacks_f H locs ls hP hD hS hl hm
      unfold m_X12_passes_11 at hm
      refine lv_iload (pc := 11) hx hb dX12_passes_11 (lv_at hl 4 rfl) ?_
      refine lv_aload_n (pc := 13) hx hb dX12_passes_13 rfl (lv_at hl 0 rfl) ?_
      obtain ⟨r16, hcl, hm⟩ := bd hm
      refine cr_back (run_V (pc := 14) (n := 0) (As := []) (rest := [.int x4]) ⟨hx, hb, hml, hown, hts⟩ (c_X12_persons l D k this this_thrown this_tape this_taped this_size this_sort this_place this_value this_at this_fault this_words this_towns this_towns_f this_op this_arg this_codes this_names this_readNames this_namesMany this_readMany this_once this_lines this_facts this_pile this_state this_undos this_isMarked this_weight this_rounding this_lacks this_alikes this_g r16 hcl) ⟨kw_1252, kw_16, by decide +kernel⟩ kw_1249 kw_1251 ks_97 ⟨Nat.le_of_ble_eq_true rfl, Nat.le_of_ble_eq_true rfl⟩ pr_blind (prR (hP.sub [0, 1] rfl) hG) (va_recv hG.1 hP (ci := 10) (q0 := 0) rfl rfl) rfl hl.1 rfl (Nat.le_of_ble_eq_true rfl) dX12_passes_14 ⟨Nat.zero_le _, Nat.zero_le _⟩) ?_
      refine lv_icmp_ge (tgt := 206) (pc := 17) hx hb dX12_passes_17 (by decide) (fun hc => ?_) (fun hc => ?_)
      · rw [if_pos hc] at hm
        refine lv_iconst (v := 0) (pc := 206) hx hb dX12_passes_206 (by decide) ?_
        refine lv_istore (lv' := [(4, .int 0), (0, .ref this), (1, .int q1), (2, .int x2), (3, .int x3)]) (pc := 207) hx hb dX12_passes_207 hl (Nat.le_of_ble_eq_true rfl) rfl (fun ls hl => ?_)
        exact h_209 FU x3 0 u_this_facts_f u_this_pile_f u_this_state_f u_this_lacks_f H locs ls hP hD hS (lv_sub hl [1, 2, 4, 0] rfl) hm
      · rw [if_neg hc] at hm
        refine lv_aload_n (pc := 20) hx hb dX12_passes_20 rfl (lv_at hl 0 rfl) ?_
        refine va_get (pc := 21) (D := D) (ci := 10) (C := RX12) (T := TX12) (N := 30) hx hb hts hiX12 hown hG.1 hP 0 rfl rfl 22 (Nat.le_of_ble_eq_true rfl) (hts _ kw_1279) (fun _ h9 => h9) rfl dX12_passes_21 ?_
        refine lv_iload_n (pc := 24) hx hb dX12_passes_24 rfl (lv_at hl 1 rfl) ?_
        refine lv_iconst (v := 1) (pc := 25) hx hb dX12_passes_25 (by decide) ?_
        refine lv_iadd (pc := 26) hx hb dX12_passes_26 ?_
        refine lv_iload (pc := 27) hx hb dX12_passes_27 (lv_at hl 4 rfl) ?_
        refine lv_iadd (pc := 29) hx hb dX12_passes_29 ?_
        obtain ⟨hin, hm⟩ := gd hm
        refine va_iald (pc := 30) (D := D) hx hb hG.1 hP 6 0 rfl rfl hin dX12_passes_30 ?_
        obtain ⟨z17, hv, hm⟩ := bd hm
        refine lv_topi (fun w ew => ?_)
        obtain rfl : z17 = w := (Option.some.inj hv).symm.trans ew.symm
        refine lv_istore (lv' := [(5, .int z17), (0, .ref this), (1, .int q1), (2, .int x2), (3, .int x3), (4, .int x4)]) (pc := 31) hx hb dX12_passes_31 hl (Nat.le_of_ble_eq_true rfl) rfl (fun ls hl => ?_)
        refine lv_iconst (v := 0) (pc := 33) hx hb dX12_passes_33 (by decide) ?_
        refine lv_istore (lv' := [(6, .int 0), (5, .int z17), (0, .ref this), (1, .int q1), (2, .int x2), (3, .int x3), (4, .int x4)]) (pc := 34) hx hb dX12_passes_34 hl (Nat.le_of_ble_eq_true rfl) rfl (fun ls hl => ?_)
        refine lv_iconst (v := 0) (pc := 36) hx hb dX12_passes_36 (by decide) ?_
        refine lv_istore (lv' := [(7, .int 0), (6, .int 0), (5, .int z17), (0, .ref this), (1, .int q1), (2, .int x2), (3, .int x3), (4, .int x4)]) (pc := 37) hx hb dX12_passes_37 hl (Nat.le_of_ble_eq_true rfl) rfl (fun ls hl => ?_)
        exact h_39 (m_X12_passes_11 this_towns_f this_op_f this_arg_f this_weight this_rounding q1 n) ih FU x2 x3 x4 z17 0 0 u_this_facts_f u_this_pile_f u_this_state_f u_this_lacks_f H locs ls hP hD hS (lv_sub hl [3, 4, 5, 6, 7, 2, 1, 0] rfl) hm
  unfold m_X12_passes at hm
  suffices hgo : ∀ (H : Heap) (locs : List Loc), va_P D vwCl (wd_X12_passes k this this_thrown this_tape this_taped this_size this_sort this_place this_value this_at this_fault this_words this_towns this_towns_f this_op this_op_f this_arg this_arg_f this_codes this_names this_readNames this_namesMany this_readMany this_once this_lines this_facts this_facts_f this_pile this_pile_f this_state this_state_f this_undos this_isMarked this_weight this_rounding this_lacks this_lacks_f this_alikes this_g) H → va_D A (wd_X12_passes k this this_thrown this_tape this_taped this_size this_sort this_place this_value this_at this_fault this_words this_towns this_towns_f this_op this_op_f this_arg this_arg_f this_codes this_names this_readNames this_namesMany this_readMany this_once this_lines this_facts this_facts_f this_pile this_pile_f this_state this_state_f this_undos this_isMarked this_weight this_rounding this_lacks this_lacks_f this_alikes this_g) → va_S A s.heap H locs → W p l e (Rm 4 90) s m args below meth c H locs 0 0 (MQ below (QW D (some (.int R0.1)) (wd_X12_passes k this this_thrown this_tape this_taped this_size this_sort this_place this_value this_at this_fault this_words this_towns this_towns_f this_op this_op_f this_arg this_arg_f this_codes this_names this_readNames this_namesMany this_readMany this_once this_lines this_facts this_facts_f this_pile this_pile_f this_state this_state_f this_undos this_isMarked this_weight this_rounding this_lacks this_lacks_f this_alikes this_g) (wd_X12_passes k this this_thrown this_tape this_taped this_size this_sort this_place this_value this_at this_fault this_words this_towns this_towns_f this_op this_op_f this_arg this_arg_f this_codes this_names this_readNames this_namesMany this_readMany this_once this_lines this_facts R0.2.1 this_pile R0.2.2.1 this_state R0.2.2.2.1 this_undos this_isMarked this_weight this_rounding this_lacks R0.2.2.2.2 this_alikes this_g) s.heap.size) args s 0 0 A) (F0 m 0 ls []) from hgo _ _ hP hD hS
  clear hP hD hS
  intro H locs hP hD hS
  refine lv_aload_n (pc := 0) hx hb dX12_passes_0 rfl (lv_at hl 0 rfl) ?_
  refine lv_iload_n (pc := 1) hx hb dX12_passes_1 rfl (lv_at hl 1 rfl) ?_
  obtain ⟨r18, hcl, hm⟩ := bd hm
  refine cr_back (run_V (pc := 2) (n := 1) (As := [.int q1]) (rest := []) ⟨hx, hb, hml, hown, hts⟩ (c_X12_highOf l D k this this_thrown this_tape this_taped this_size this_sort this_place this_value this_at this_fault this_words this_towns this_towns_f this_op this_arg this_codes this_names this_readNames this_namesMany this_readMany this_once this_lines this_facts this_pile this_state this_state_f this_undos this_isMarked this_weight this_rounding this_lacks this_alikes this_g q1 r18 hcl) ⟨kw_1475, kw_16, by decide +kernel⟩ kw_1472 kw_1474 ks_123 ⟨Nat.le_of_ble_eq_true rfl, Nat.le_of_ble_eq_true rfl⟩ pr_blind (prR (hP.sub [0, 1, 6] rfl) hG) (va_recv hG.1 hP (ci := 10) (q0 := 0) rfl rfl) rfl hl.1 rfl (Nat.le_of_ble_eq_true rfl) dX12_passes_2 ⟨Nat.zero_le _, Nat.zero_le _⟩) ?_
  refine lv_istore_n (lv' := [(2, .int r18), (0, .ref this), (1, .int q1)]) (pc := 5) hx hb dX12_passes_5 rfl hl (Nat.le_of_ble_eq_true rfl) rfl (fun ls hl => ?_)
  refine lv_iconst (v := 0) (pc := 6) hx hb dX12_passes_6 (by decide) ?_
  refine lv_istore_n (lv' := [(3, .int 0), (2, .int r18), (0, .ref this), (1, .int q1)]) (pc := 7) hx hb dX12_passes_7 rfl hl (Nat.le_of_ble_eq_true rfl) rfl (fun ls hl => ?_)
  refine lv_iconst (v := 0) (pc := 8) hx hb dX12_passes_8 (by decide) ?_
  refine lv_istore (lv' := [(4, .int 0), (3, .int 0), (2, .int r18), (0, .ref this), (1, .int q1)]) (pc := 9) hx hb dX12_passes_9 hl (Nat.le_of_ble_eq_true rfl) rfl (fun ls hl => ?_)
  exact h_11 FU r18 0 0 this_facts_f this_pile_f this_state_f this_lacks_f H locs ls hP hD hS (lv_sub hl [3, 4, 2, 1, 0] rfl) hm
