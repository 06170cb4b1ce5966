theorem dX12_takeTold_0 : decode cX12_takeTold 0 = .ok (.aload_n 0, 1) := by decide +kernel
theorem dX12_takeTold_1 : decode cX12_takeTold 1 = .ok (.getfield 159, 3) := by decide +kernel
theorem dX12_takeTold_4 : decode cX12_takeTold 4 = .ok (.ifCond .ne 15, 3) := by decide +kernel
theorem dX12_takeTold_7 : decode cX12_takeTold 7 = .ok (.aload_n 0, 1) := by decide +kernel
theorem dX12_takeTold_8 : decode cX12_takeTold 8 = .ok (.invokevirtual 190, 3) := by decide +kernel
theorem dX12_takeTold_11 : decode cX12_takeTold 11 = .ok (.ifCond .ne 8, 3) := by decide +kernel
theorem dX12_takeTold_14 : decode cX12_takeTold 14 = .ok (.aload_n 0, 1) := by decide +kernel
theorem dX12_takeTold_15 : decode cX12_takeTold 15 = .ok (.iconst 1, 1) := by decide +kernel
theorem dX12_takeTold_16 : decode cX12_takeTold 16 = .ok (.invokevirtual 165, 3) := by decide +kernel
theorem dX12_takeTold_19 : decode cX12_takeTold 19 = .ok (.aload_n 0, 1) := by decide +kernel
theorem dX12_takeTold_20 : decode cX12_takeTold 20 = .ok (.getfield 159, 3) := by decide +kernel
theorem dX12_takeTold_23 : decode cX12_takeTold 23 = .ok (.ifCond .le 7, 3) := by decide +kernel
theorem dX12_takeTold_26 : decode cX12_takeTold 26 = .ok (.iconst (-1), 1) := by decide +kernel
theorem dX12_takeTold_27 : decode cX12_takeTold 27 = .ok (.goto 8, 3) := by decide +kernel
theorem dX12_takeTold_30 : decode cX12_takeTold 30 = .ok (.aload_n 0, 1) := by decide +kernel
theorem dX12_takeTold_31 : decode cX12_takeTold 31 = .ok (.iload_n 1, 1) := by decide +kernel
theorem dX12_takeTold_32 : decode cX12_takeTold 32 = .ok (.invokevirtual 194, 3) := by decide +kernel
theorem dX12_takeTold_35 : decode cX12_takeTold 35 = .ok (.istore_n 3, 1) := by decide +kernel
theorem dX12_takeTold_36 : decode cX12_takeTold 36 = .ok (.aload_n 0, 1) := by decide +kernel
theorem dX12_takeTold_37 : decode cX12_takeTold 37 = .ok (.getfield 159, 3) := by decide +kernel
theorem dX12_takeTold_40 : decode cX12_takeTold 40 = .ok (.ifCond .ne 15, 3) := by decide +kernel
theorem dX12_takeTold_43 : decode cX12_takeTold 43 = .ok (.iload_n 3, 1) := by decide +kernel
theorem dX12_takeTold_44 : decode cX12_takeTold 44 = .ok (.ifCond .ge 11, 3) := by decide +kernel
theorem dX12_takeTold_47 : decode cX12_takeTold 47 = .ok (.aload_n 0, 1) := by decide +kernel
theorem dX12_takeTold_48 : decode cX12_takeTold 48 = .ok (.iconst 2, 1) := by decide +kernel
theorem dX12_takeTold_49 : decode cX12_takeTold 49 = .ok (.invokevirtual 165, 3) := by decide +kernel
theorem dX12_takeTold_52 : decode cX12_takeTold 52 = .ok (.goto 24, 3) := by decide +kernel
theorem dX12_takeTold_55 : decode cX12_takeTold 55 = .ok (.aload_n 0, 1) := by decide +kernel
theorem dX12_takeTold_56 : decode cX12_takeTold 56 = .ok (.getfield 159, 3) := by decide +kernel
theorem dX12_takeTold_59 : decode cX12_takeTold 59 = .ok (.ifCond .ne 17, 3) := by decide +kernel
theorem dX12_takeTold_62 : decode cX12_takeTold 62 = .ok (.iload_n 2, 1) := by decide +kernel
theorem dX12_takeTold_63 : decode cX12_takeTold 63 = .ok (.iload_n 3, 1) := by decide +kernel
theorem dX12_takeTold_64 : decode cX12_takeTold 64 = .ok (.ishr, 1) := by decide +kernel
theorem dX12_takeTold_65 : decode cX12_takeTold 65 = .ok (.iconst 1, 1) := by decide +kernel
theorem dX12_takeTold_66 : decode cX12_takeTold 66 = .ok (.iand, 1) := by decide +kernel
theorem dX12_takeTold_67 : decode cX12_takeTold 67 = .ok (.iconst 1, 1) := by decide +kernel
theorem dX12_takeTold_68 : decode cX12_takeTold 68 = .ok (.if_icmp .ne 8, 3) := by decide +kernel
theorem dX12_takeTold_71 : decode cX12_takeTold 71 = .ok (.aload_n 0, 1) := by decide +kernel
theorem dX12_takeTold_72 : decode cX12_takeTold 72 = .ok (.iconst 3, 1) := by decide +kernel
theorem dX12_takeTold_73 : decode cX12_takeTold 73 = .ok (.invokevirtual 165, 3) := by decide +kernel
theorem dX12_takeTold_76 : decode cX12_takeTold 76 = .ok (.aload_n 0, 1) := by decide +kernel
theorem dX12_takeTold_77 : decode cX12_takeTold 77 = .ok (.dup, 1) := by decide +kernel
theorem dX12_takeTold_78 : decode cX12_takeTold 78 = .ok (.getfield 156, 3) := by decide +kernel
theorem dX12_takeTold_81 : decode cX12_takeTold 81 = .ok (.aload_n 0, 1) := by decide +kernel
theorem dX12_takeTold_82 : decode cX12_takeTold 82 = .ok (.getfield 159, 3) := by decide +kernel
theorem dX12_takeTold_85 : decode cX12_takeTold 85 = .ok (.ifCond .le 7, 3) := by decide +kernel
theorem dX12_takeTold_88 : decode cX12_takeTold 88 = .ok (.iconst 0, 1) := by decide +kernel
theorem dX12_takeTold_89 : decode cX12_takeTold 89 = .ok (.goto 4, 3) := by decide +kernel
theorem dX12_takeTold_92 : decode cX12_takeTold 92 = .ok (.iconst 1, 1) := by decide +kernel
theorem dX12_takeTold_93 : decode cX12_takeTold 93 = .ok (.iadd, 1) := by decide +kernel
theorem dX12_takeTold_94 : decode cX12_takeTold 94 = .ok (.putfield 156, 3) := by decide +kernel
theorem dX12_takeTold_97 : decode cX12_takeTold 97 = .ok (.aload_n 0, 1) := by decide +kernel
theorem dX12_takeTold_98 : decode cX12_takeTold 98 = .ok (.getfield 159, 3) := by decide +kernel
theorem dX12_takeTold_101 : decode cX12_takeTold 101 = .ok (.ifCond .le 7, 3) := by decide +kernel
theorem dX12_takeTold_104 : decode cX12_takeTold 104 = .ok (.iconst 0, 1) := by decide +kernel
theorem dX12_takeTold_105 : decode cX12_takeTold 105 = .ok (.goto 4, 3) := by decide +kernel
theorem dX12_takeTold_108 : decode cX12_takeTold 108 = .ok (.iload_n 3, 1) := by decide +kernel
theorem dX12_takeTold_109 : decode cX12_takeTold 109 = .ok (.ireturn, 1) := by decide +kernel
abbrev wd_X12_takeTold (k : Nat → ClassId) (this : Nat) (this_thrown : Int32) (this_tape : Nat) (this_taped : Int32) (this_size : Int32) (this_sort : Nat) (this_sort_f : Nat → Int32) (this_place : Nat) (this_place_f : Nat → Int32) (this_value : Nat) (this_value_f : Nat → Int64) (this_at : Int32) (this_fault : Int32) (this_words : Nat) (this_words_f : Nat → Int64) (this_towns : Nat) (this_op : Nat) (this_arg : Nat) (this_codes : Int32) (this_names : Nat) (this_names_f : Nat → Int64) (this_readNames : Nat) (this_readNames_f : Nat → Int64) (this_namesMany : Int32) (this_readMany : Int32) (this_once : Int32) (this_lines : Nat) (this_facts : Nat) (this_pile : Nat) (this_state : Nat) (this_undos : Int32) (this_isMarked : Nat) (this_weight : Int32) (this_rounding : Int32) (this_lacks : Nat) (this_alikes : Nat) (this_g : Int64) : va_W := [(this, .inr (10, [.int this_thrown, .ref this_tape, .int this_taped, .int this_size, .ref this_sort, .ref this_place, .ref this_value, .int this_at, .int this_fault, .ref this_words, .ref this_towns, .ref this_op, .ref this_arg, .int this_codes, .ref this_names, .ref this_readNames, .int this_namesMany, .int this_readMany, .int this_once, .ref this_lines, .ref this_facts, .ref this_pile, .ref this_state, .int this_undos, .ref this_isMarked, .int this_weight, .int this_rounding, .ref this_lacks, .ref this_alikes, .long this_g])), (this_sort, .inl (k 0, 1002, .inl this_sort_f)), (this_place, .inl (k 0, 1002, .inl this_place_f)), (this_value, .inl (k 1, 1002, .inr (.inl this_value_f))), (this_words, .inl (k 1, 26, .inr (.inl this_words_f))), (this_names, .inl (k 1, 6, .inr (.inl this_names_f))), (this_readNames, .inl (k 1, 6, .inr (.inl this_readNames_f)))]
set_option maxHeartbeats 4000000 in
set_option maxRecDepth 100000 in
theorem c_X12_takeTold (l : Launch) (D : va_G) (k : Nat → ClassId) (this : Nat) (this_thrown : Int32) (this_tape : Nat) (this_taped : Int32) (this_size : Int32) (this_sort : Nat) (this_sort_f : Nat → Int32) (this_place : Nat) (this_place_f : Nat → Int32) (this_value : Nat) (this_value_f : Nat → Int64) (this_at : Int32) (this_fault : Int32) (this_words : Nat) (this_words_f : Nat → Int64) (this_towns : Nat) (this_op : Nat) (this_arg : Nat) (this_codes : Int32) (this_names : Nat) (this_names_f : Nat → Int64) (this_readNames : Nat) (this_readNames_f : Nat → Int64) (this_namesMany : Int32) (this_readMany : Int32) (this_once : Int32) (this_lines : Nat) (this_facts : Nat) (this_pile : Nat) (this_state : Nat) (this_undos : Int32) (this_isMarked : Nat) (this_weight : Int32) (this_rounding : Int32) (this_lacks : Nat) (this_alikes : Nat) (this_g : Int64) (q1 : Int32) (q2 : Int32) (R0 : Int32 × Int32 × Int32) (hm : m_X12_takeTold this_sort_f this_place_f this_value_f this_at this_fault this_words_f this_names_f this_readNames_f this_namesMany this_readMany q1 q2 = some R0) : CW l D (TY k) yX12_takeTold cX12_takeTold 4 (some .int) 3 65 [.ref this, .int q1, .int q2] (wd_X12_takeTold k this this_thrown this_tape this_taped this_size this_sort this_sort_f this_place this_place_f this_value this_value_f this_at this_fault this_words this_words_f this_towns this_op this_arg this_codes this_names this_names_f this_readNames this_readNames_f this_namesMany this_readMany this_once this_lines this_facts this_pile this_state this_undos this_isMarked this_weight this_rounding this_lacks this_alikes this_g) (some (.int R0.1)) (wd_X12_takeTold k this this_thrown this_tape this_taped this_size this_sort this_sort_f this_place this_place_f this_value this_value_f R0.2.1 R0.2.2 this_words this_words_f this_towns this_op this_arg this_codes this_names this_names_f this_readNames this_readNames_f this_namesMany this_readMany this_once this_lines this_facts this_pile this_state this_undos this_isMarked this_weight this_rounding this_lacks this_alikes this_g) := by
  refine CW.mk (by decide) (Nat.le_of_ble_eq_true rfl) ?_
  intro p e s m args below meth c ls A ⟨hx, hb, hr, hts, hown, hlocks, hml⟩ hP hG hD hA hl hS hq
  have hl : lv_has ls 4 [(0, .ref this), (1, .int q1), (2, .int q2)] := hl
  have h_93 : ∀ (x3 : Int32) (t0 : Int32) (t1 : Int32) (u_this_at : Int32) (u_this_fault : Int32) (H : Heap) (locs : List Loc) (ls : Array Slot), va_P D vwCl (wd_X12_takeTold k this this_thrown this_tape this_taped this_size this_sort this_sort_f this_place this_place_f this_value this_value_f u_this_at u_this_fault this_words this_words_f this_towns this_op this_arg this_codes this_names this_names_f this_readNames this_readNames_f this_namesMany this_readMany this_once this_lines this_facts this_pile this_state this_undos this_isMarked this_weight this_rounding this_lacks this_alikes this_g) H → va_D A (wd_X12_takeTold k this this_thrown this_tape this_taped this_size this_sort this_sort_f this_place this_place_f this_value this_value_f u_this_at u_this_fault this_words this_words_f this_towns this_op this_arg this_codes this_names this_names_f this_readNames this_readNames_f this_namesMany this_readMany this_once this_lines this_facts this_pile this_state this_undos this_isMarked this_weight this_rounding this_lacks this_alikes this_g) → va_S A s.heap H locs → lv_has ls 4 [(0, .ref this), (3, .int x3)] → m_X12_takeTold_93 this_sort_f this_place_f this_value_f this_words_f this_names_f this_readNames_f this_namesMany this_readMany q1 q2 x3 t0 t1 u_this_at u_this_fault = some R0 → W p l e (Rm 3 65) s m args below meth c H locs 0 0 (MQ below (QW D (some (.int R0.1)) (wd_X12_takeTold k this this_thrown this_tape this_taped this_size this_sort this_sort_f this_place this_place_f this_value this_value_f this_at this_fault this_words this_words_f this_towns this_op this_arg this_codes this_names this_names_f this_readNames this_readNames_f this_namesMany this_readMany this_once this_lines this_facts this_pile this_state this_undos this_isMarked this_weight this_rounding this_lacks this_alikes this_g) (wd_X12_takeTold k this this_thrown this_tape this_taped this_size this_sort this_sort_f this_place this_place_f this_value this_value_f R0.2.1 R0.2.2 this_words this_words_f this_towns this_op this_arg this_codes this_names this_names_f this_readNames this_readNames_f this_namesMany this_readMany this_once this_lines this_facts this_pile this_state this_undos this_isMarked this_weight this_rounding this_lacks this_alikes this_g) s.heap.size) args s 0 0 A) (F0 m 93 ls [.int t0, .int t1, .ref this]) := by
    intro  x3 t0 t1 u_this_at u_this_fault H locs ls hP hD hS hl hm
    unfold m_X12_takeTold_93 at hm
    refine lv_iadd (pc := 93) hx hb dX12_takeTold_93 ?_
    refine va_put (pc := 94) (D := D) (ci := 10) (v := .int (t1 + t0)) (ty := .int) (C := RX12) (T := TX12) (N := 30) hx hb hts hiX12 tyX12 tyX12_ok nmX12 hown hG.1 hP hD hS 0 rfl rfl 7 (Nat.le_of_ble_eq_true rfl) (hts _ kw_1264) (fun _ h9 => h9) rfl (by decide +kernel) rfl rfl (Nat.le_of_ble_eq_true rfl) dX12_takeTold_94 (fun H locs hP hD hS => ?_)
    have hP : va_P D vwCl (wd_X12_takeTold k this this_thrown this_tape this_taped this_size this_sort this_sort_f this_place this_place_f this_value this_value_f (t1 + t0) u_this_fault this_words this_words_f this_towns this_op this_arg this_codes this_names this_names_f this_readNames this_readNames_f this_namesMany this_readMany this_once this_lines this_facts this_pile this_state this_undos this_isMarked this_weight this_rounding this_lacks this_alikes this_g) H := hP
    have hD : va_D A (wd_X12_takeTold k this this_thrown this_tape this_taped this_size this_sort this_sort_f this_place this_place_f this_value this_value_f (t1 + t0) u_this_fault this_words this_words_f this_towns this_op this_arg this_codes this_names this_names_f this_readNames this_readNames_f this_namesMany this_readMany this_once this_lines this_facts this_pile this_state this_undos this_isMarked this_weight this_rounding this_lacks this_alikes this_g) := hD
    refine lv_aload_n (pc := 97) hx hb dX12_takeTold_97 rfl (lv_at hl 0 rfl) ?_
    refine va_get (pc := 98) (D := D) (ci := 10) (C := RX12) (T := TX12) (N := 30) hx hb hts hiX12 hown hG.1 hP 0 rfl rfl 8 (Nat.le_of_ble_eq_true rfl) (hts _ kw_1265) (fun _ h9 => h9) rfl dX12_takeTold_98 ?_
    refine lv_if_le (tgt := 108) (pc := 101) hx hb dX12_takeTold_101 (by decide) (fun hc => ?_) (fun hc => ?_)
    · rw [if_pos hc] at hm
      refine lv_iload_n (pc := 108) hx hb dX12_takeTold_108 rfl (lv_at hl 1 rfl) ?_
      rw [← Option.some.inj hm]
      exact W.iret hx hb hr (fun t ht _ => hq _ _ H t ht hP hD locs hS) hS.2.2 dX12_takeTold_109 hlocks
    · rw [if_neg hc] at hm
      refine lv_iconst (v := 0) (pc := 104) hx hb dX12_takeTold_104 (by decide) ?_
      refine lv_goto (tgt := 109) (pc := 105) hx hb dX12_takeTold_105 (by decide) ?_
      rw [← Option.some.inj hm]
      exact W.iret hx hb hr (fun t ht _ => hq _ _ H t ht hP hD locs hS) hS.2.2 dX12_takeTold_109 hlocks
  have h_76 : ∀ (x3 : Int32) (u_this_at : Int32) (u_this_fault : Int32) (H : Heap) (locs : List Loc) (ls : Array Slot), va_P D vwCl (wd_X12_takeTold k this this_thrown this_tape this_taped this_size this_sort this_sort_f this_place this_place_f this_value this_value_f u_this_at u_this_fault this_words this_words_f this_towns this_op this_arg this_codes this_names this_names_f this_readNames this_readNames_f this_namesMany this_readMany this_once this_lines this_facts this_pile this_state this_undos this_isMarked this_weight this_rounding this_lacks this_alikes this_g) H → va_D A (wd_X12_takeTold k this this_thrown this_tape this_taped this_size this_sort this_sort_f this_place this_place_f this_value this_value_f u_this_at u_this_fault this_words this_words_f this_towns this_op this_arg this_codes this_names this_names_f this_readNames this_readNames_f this_namesMany this_readMany this_once this_lines this_facts this_pile this_state this_undos this_isMarked this_weight this_rounding this_lacks this_alikes this_g) → va_S A s.heap H locs → lv_has ls 4 [(0, .ref this), (3, .int x3)] → m_X12_takeTold_76 this_sort_f this_place_f this_value_f this_words_f this_names_f this_readNames_f this_namesMany this_readMany q1 q2 x3 u_this_at u_this_fault = some R0 → W p l e (Rm 3 65) s m args below meth c H locs 0 0 (MQ below (QW D (some (.int R0.1)) (wd_X12_takeTold k this this_thrown this_tape this_taped this_size this_sort this_sort_f this_place this_place_f this_value this_value_f this_at this_fault this_words this_words_f this_towns this_op this_arg this_codes this_names this_names_f this_readNames this_readNames_f this_namesMany this_readMany this_once this_lines this_facts this_pile this_state this_undos this_isMarked this_weight this_rounding this_lacks this_alikes this_g) (wd_X12_takeTold k this this_thrown this_tape this_taped this_size this_sort this_sort_f this_place this_place_f this_value this_value_f R0.2.1 R0.2.2 this_words this_words_f this_towns this_op this_arg this_codes this_names this_names_f this_readNames this_readNames_f this_namesMany this_readMany this_once this_lines this_facts this_pile this_state this_undos this_isMarked this_weight this_rounding this_lacks this_alikes this_g) s.heap.size) args s 0 0 A) (F0 m 76 ls []) := by
    intro  x3 u_this_at u_this_fault H locs ls hP hD hS hl hm
    unfold m_X12_takeTold_76 at hm
    refine lv_aload_n (pc := 76) hx hb dX12_takeTold_76 rfl (lv_at hl 0 rfl) ?_
    refine lv_dup (pc := 77) hx hb dX12_takeTold_77 rfl ?_
    refine va_get (pc := 78) (D := D) (ci := 10) (C := RX12) (T := TX12) (N := 30) hx hb hts hiX12 hown hG.1 hP 0 rfl rfl 7 (Nat.le_of_ble_eq_true rfl) (hts _ kw_1264) (fun _ h9 => h9) rfl dX12_takeTold_78 ?_
    refine lv_aload_n (pc := 81) hx hb dX12_takeTold_81 rfl (lv_at hl 0 rfl) ?_
    refine va_get (pc := 82) (D := D) (ci := 10) (C := RX12) (T := TX12) (N := 30) hx hb hts hiX12 hown hG.1 hP 0 rfl rfl 8 (Nat.le_of_ble_eq_true rfl) (hts _ kw_1265) (fun _ h9 => h9) rfl dX12_takeTold_82 ?_
    refine lv_if_le (tgt := 92) (pc := 85) hx hb dX12_takeTold_85 (by decide) (fun hc => ?_) (fun hc => ?_)
    · rw [if_pos hc] at hm
      refine lv_iconst (v := 1) (pc := 92) hx hb dX12_takeTold_92 (by decide) ?_
      exact h_93 x3 1 u_this_at u_this_at u_this_fault H locs ls hP hD hS (lv_sub hl [0, 1] rfl) hm
    · rw [if_neg hc] at hm
      refine lv_iconst (v := 0) (pc := 88) hx hb dX12_takeTold_88 (by decide) ?_
      refine lv_goto (tgt := 93) (pc := 89) hx hb dX12_takeTold_89 (by decide) ?_
      exact h_93 x3 0 u_this_at u_this_at u_this_fault H locs ls hP hD hS (lv_sub hl [0, 1] rfl) hm
  have h_55 : ∀ (x3 : Int32) (u_this_at : Int32) (u_this_fault : Int32) (H : Heap) (locs : List Loc) (ls : Array Slot), va_P D vwCl (wd_X12_takeTold k this this_thrown this_tape this_taped this_size this_sort this_sort_f this_place this_place_f this_value this_value_f u_this_at u_this_fault this_words this_words_f this_towns this_op this_arg this_codes this_names this_names_f this_readNames this_readNames_f this_namesMany this_readMany this_once this_lines this_facts this_pile this_state this_undos this_isMarked this_weight this_rounding this_lacks this_alikes this_g) H → va_D A (wd_X12_takeTold k this this_thrown this_tape this_taped this_size this_sort this_sort_f this_place this_place_f this_value this_value_f u_this_at u_this_fault this_words this_words_f this_towns this_op this_arg this_codes this_names this_names_f this_readNames this_readNames_f this_namesMany this_readMany this_once this_lines this_facts this_pile this_state this_undos this_isMarked this_weight this_rounding this_lacks this_alikes this_g) → va_S A s.heap H locs → lv_has ls 4 [(0, .ref this), (2, .int q2), (3, .int x3)] → m_X12_takeTold_55 this_sort_f this_place_f this_value_f this_words_f this_names_f this_readNames_f this_namesMany this_readMany q1 q2 x3 u_this_at u_this_fault = some R0 → W p l e (Rm 3 65) s m args below meth c H locs 0 0 (MQ below (QW D (some (.int R0.1)) (wd_X12_takeTold k this this_thrown this_tape this_taped this_size this_sort this_sort_f this_place this_place_f this_value this_value_f this_at this_fault this_words this_words_f this_towns this_op this_arg this_codes this_names this_names_f this_readNames this_readNames_f this_namesMany this_readMany this_once this_lines this_facts this_pile this_state this_undos this_isMarked this_weight this_rounding this_lacks this_alikes this_g) (wd_X12_takeTold k this this_thrown this_tape this_taped this_size this_sort this_sort_f this_place this_place_f this_value this_value_f R0.2.1 R0.2.2 this_words this_words_f this_towns this_op this_arg this_codes this_names this_names_f this_readNames this_readNames_f this_namesMany this_readMany this_once this_lines this_facts this_pile this_state this_undos this_isMarked this_weight this_rounding this_lacks this_alikes this_g) s.heap.size) args s 0 0 A) (F0 m 55 ls []) := by
    intro  x3 u_this_at u_this_fault H locs ls hP hD hS hl hm
    unfold m_X12_takeTold_55 at hm
    refine lv_aload_n (pc := 55) hx hb dX12_takeTold_55 rfl (lv_at hl 0 rfl) ?_
    refine va_get (pc := 56) (D := D) (ci := 10) (C := RX12) (T := TX12) (N := 30) hx hb hts hiX12 hown hG.1 hP 0 rfl rfl 8 (Nat.le_of_ble_eq_true rfl) (hts _ kw_1265) (fun _ h9 => h9) rfl dX12_takeTold_56 ?_
    refine lv_if_ne (tgt := 76) (pc := 59) hx hb dX12_takeTold_59 (by decide) (fun hc => ?_) (fun hc => ?_)
    · rw [if_neg hc] at hm
      exact h_76 x3 u_this_at u_this_fault H locs ls hP hD hS (lv_sub hl [0, 2] rfl) hm
    · rw [if_pos hc] at hm
      refine lv_iload_n (pc := 62) hx hb dX12_takeTold_62 rfl (lv_at hl 1 rfl) ?_
      refine lv_iload_n (pc := 63) hx hb dX12_takeTold_63 rfl (lv_at hl 2 rfl) ?_
      refine lv_ishr (pc := 64) hx hb dX12_takeTold_64 ?_
      refine lv_iconst (v := 1) (pc := 65) hx hb dX12_takeTold_65 (by decide) ?_
      refine lv_iand (pc := 66) hx hb dX12_takeTold_66 ?_
      refine lv_iconst (v := 1) (pc := 67) hx hb dX12_takeTold_67 (by decide) ?_
      refine lv_icmp_ne (tgt := 76) (pc := 68) hx hb dX12_takeTold_68 (by decide) (fun hc => ?_) (fun hc => ?_)
      · rw [if_neg hc] at hm
        exact h_76 x3 u_this_at u_this_fault H locs ls hP hD hS (lv_sub hl [0, 2] rfl) hm
      · rw [if_pos hc] at hm
        refine lv_aload_n (pc := 71) hx hb dX12_takeTold_71 rfl (lv_at hl 0 rfl) ?_
        refine lv_iconst (v := 3) (pc := 72) hx hb dX12_takeTold_72 (by decide) ?_
        obtain ⟨r6, hcl, hm⟩ := bd hm
        refine cw_mask (ws' := (wd_X12_takeTold k this this_thrown this_tape this_taped this_size this_sort this_sort_f this_place this_place_f this_value this_value_f u_this_at r6 this_words this_words_f this_towns this_op this_arg this_codes this_names this_names_f this_readNames this_readNames_f this_namesMany this_readMany this_once this_lines this_facts this_pile this_state this_undos this_isMarked this_weight this_rounding this_lacks this_alikes this_g)) (run_V (pc := 73) (n := 1) (As := [.int 3]) (rest := []) ⟨hx, hb, hml, hown, hts⟩ ((c_X12_wrong l D k this this_thrown this_tape this_taped this_size this_sort this_place this_place_f this_value u_this_at u_this_fault this_words this_towns this_op this_arg this_codes this_names this_readNames this_namesMany this_readMany this_once this_lines this_facts this_pile this_state this_undos this_isMarked this_weight this_rounding this_lacks this_alikes this_g 3 r6 hcl) H.size) ⟨kw_1387, kw_16, by decide +kernel⟩ kw_1384 kw_1386 ks_103 ⟨Nat.le_of_ble_eq_true rfl, Nat.le_of_ble_eq_true rfl⟩ pw_blind (prW (P_pick [true, false, true] rfl hP) hG (D_pick [true, false, true] rfl hD)) (va_recv hG.1 hP (ci := 10) (q0 := 0) rfl rfl) rfl hl.1 rfl (Nat.le_of_ble_eq_true rfl) dX12_takeTold_73 ⟨Nat.zero_le _, Nat.zero_le _⟩) hP hD hS hA [true, false, true] rfl rfl rfl (fun H locs hP hD hS => ?_)
        exact h_76 x3 u_this_at r6 H locs ls hP hD hS (lv_sub hl [0, 2] rfl) hm
  have h_35 : ∀ (t0 : Int32) (u_this_at : Int32) (u_this_fault : Int32) (H : Heap) (locs : List Loc) (ls : Array Slot), va_P D vwCl (wd_X12_takeTold k this this_thrown this_tape this_taped this_size this_sort this_sort_f this_place this_place_f this_value this_value_f u_this_at u_this_fault this_words this_words_f this_towns this_op this_arg this_codes this_names this_names_f this_readNames this_readNames_f this_namesMany this_readMany this_once this_lines this_facts this_pile this_state this_undos this_isMarked this_weight this_rounding this_lacks this_alikes this_g) H → va_D A (wd_X12_takeTold k this this_thrown this_tape this_taped this_size this_sort this_sort_f this_place this_place_f this_value this_value_f u_this_at u_this_fault this_words this_words_f this_towns this_op this_arg this_codes this_names this_names_f this_readNames this_readNames_f this_namesMany this_readMany this_once this_lines this_facts this_pile this_state this_undos this_isMarked this_weight this_rounding this_lacks this_alikes this_g) → va_S A s.heap H locs → lv_has ls 4 [(0, .ref this), (2, .int q2)] → m_X12_takeTold_35 this_sort_f this_place_f this_value_f this_words_f this_names_f this_readNames_f this_namesMany this_readMany q1 q2 t0 u_this_at u_this_fault = some R0 → W p l e (Rm 3 65) s m args below meth c H locs 0 0 (MQ below (QW D (some (.int R0.1)) (wd_X12_takeTold k this this_thrown this_tape this_taped this_size this_sort this_sort_f this_place this_place_f this_value this_value_f this_at this_fault this_words this_words_f this_towns this_op this_arg this_codes this_names this_names_f this_readNames this_readNames_f this_namesMany this_readMany this_once this_lines this_facts this_pile this_state this_undos this_isMarked this_weight this_rounding this_lacks this_alikes this_g) (wd_X12_takeTold k this this_thrown this_tape this_taped this_size this_sort this_sort_f this_place this_place_f this_value this_value_f R0.2.1 R0.2.2 this_words this_words_f this_towns this_op this_arg this_codes this_names this_names_f this_readNames this_readNames_f this_namesMany this_readMany this_once this_lines this_facts this_pile this_state this_undos this_isMarked this_weight this_rounding this_lacks this_alikes this_g) s.heap.size) args s 0 0 A) (F0 m 35 ls [.int t0]) := by
    intro  t0 u_this_at u_this_fault H locs ls hP hD hS hl hm
    unfold m_X12_takeTold_35 at hm
    refine lv_istore_n (lv' := [(3, .int t0), (0, .ref this), (2, .int q2)]) (pc := 35) hx hb dX12_takeTold_35 rfl hl (Nat.le_of_ble_eq_true rfl) rfl (fun ls hl => ?_)
    refine lv_aload_n (pc := 36) hx hb dX12_takeTold_36 rfl (lv_at hl 1 rfl) ?_
    refine va_get (pc := 37) (D := D) (ci := 10) (C := RX12) (T := TX12) (N := 30) hx hb hts hiX12 hown hG.1 hP 0 rfl rfl 8 (Nat.le_of_ble_eq_true rfl) (hts _ kw_1265) (fun _ h9 => h9) rfl dX12_takeTold_37 ?_
    refine lv_if_ne (tgt := 55) (pc := 40) hx hb dX12_takeTold_40 (by decide) (fun hc => ?_) (fun hc => ?_)
    · rw [if_neg hc] at hm
      exact h_55 t0 u_this_at u_this_fault H locs ls hP hD hS (lv_sub hl [1, 2, 0] rfl) hm
    · rw [if_pos hc] at hm
      refine lv_iload_n (pc := 43) hx hb dX12_takeTold_43 rfl (lv_at hl 0 rfl) ?_
      refine lv_if_ge (tgt := 55) (pc := 44) hx hb dX12_takeTold_44 (by decide) (fun hc => ?_) (fun hc => ?_)
      · rw [if_pos hc] at hm
        exact h_55 t0 u_this_at u_this_fault H locs ls hP hD hS (lv_sub hl [1, 2, 0] rfl) hm
      · rw [if_neg hc] at hm
        refine lv_aload_n (pc := 47) hx hb dX12_takeTold_47 rfl (lv_at hl 1 rfl) ?_
        refine lv_iconst (v := 2) (pc := 48) hx hb dX12_takeTold_48 (by decide) ?_
        obtain ⟨r7, hcl, hm⟩ := bd hm
        refine cw_mask (ws' := (wd_X12_takeTold k this this_thrown this_tape this_taped this_size this_sort this_sort_f this_place this_place_f this_value this_value_f u_this_at r7 this_words this_words_f this_towns this_op this_arg this_codes this_names this_names_f this_readNames this_readNames_f this_namesMany this_readMany this_once this_lines this_facts this_pile this_state this_undos this_isMarked this_weight this_rounding this_lacks this_alikes this_g)) (run_V (pc := 49) (n := 1) (As := [.int 2]) (rest := []) ⟨hx, hb, hml, hown, hts⟩ ((c_X12_wrong l D k this this_thrown this_tape this_taped this_size this_sort this_place this_place_f this_value u_this_at u_this_fault this_words this_towns this_op this_arg this_codes this_names this_readNames this_namesMany this_readMany this_once this_lines this_facts this_pile this_state this_undos this_isMarked this_weight this_rounding this_lacks this_alikes this_g 2 r7 hcl) H.size) ⟨kw_1387, kw_16, by decide +kernel⟩ kw_1384 kw_1386 ks_103 ⟨Nat.le_of_ble_eq_true rfl, Nat.le_of_ble_eq_true rfl⟩ pw_blind (prW (P_pick [true, false, true] rfl hP) hG (D_pick [true, false, true] rfl hD)) (va_recv hG.1 hP (ci := 10) (q0 := 0) rfl rfl) rfl hl.1 rfl (Nat.le_of_ble_eq_true rfl) dX12_takeTold_49 ⟨Nat.zero_le _, Nat.zero_le _⟩) hP hD hS hA [true, false, true] rfl rfl rfl (fun H locs hP hD hS => ?_)
        refine lv_goto (tgt := 76) (pc := 52) hx hb dX12_takeTold_52 (by decide) ?_
        exact h_76 t0 u_this_at r7 H locs ls hP hD hS (lv_sub hl [1, 0] rfl) hm
  have h_19 : ∀ (u_this_at : Int32) (u_this_fault : Int32) (H : Heap) (locs : List Loc) (ls : Array Slot), va_P D vwCl (wd_X12_takeTold k this this_thrown this_tape this_taped this_size this_sort this_sort_f this_place this_place_f this_value this_value_f u_this_at u_this_fault this_words this_words_f this_towns this_op this_arg this_codes this_names this_names_f this_readNames this_readNames_f this_namesMany this_readMany this_once this_lines this_facts this_pile this_state this_undos this_isMarked this_weight this_rounding this_lacks this_alikes this_g) H → va_D A (wd_X12_takeTold k this this_thrown this_tape this_taped this_size this_sort this_sort_f this_place this_place_f this_value this_value_f u_this_at u_this_fault this_words this_words_f this_towns this_op this_arg this_codes this_names this_names_f this_readNames this_readNames_f this_namesMany this_readMany this_once this_lines this_facts this_pile this_state this_undos this_isMarked this_weight this_rounding this_lacks this_alikes this_g) → va_S A s.heap H locs → lv_has ls 4 [(0, .ref this), (1, .int q1), (2, .int q2)] → m_X12_takeTold_19 this_sort_f this_place_f this_value_f this_words_f this_names_f this_readNames_f this_namesMany this_readMany q1 q2 u_this_at u_this_fault = some R0 → W p l e (Rm 3 65) s m args below meth c H locs 0 0 (MQ below (QW D (some (.int R0.1)) (wd_X12_takeTold k this this_thrown this_tape this_taped this_size this_sort this_sort_f this_place this_place_f this_value this_value_f this_at this_fault this_words this_words_f this_towns this_op this_arg this_codes this_names this_names_f this_readNames this_readNames_f this_namesMany this_readMany this_once this_lines this_facts this_pile this_state this_undos this_isMarked this_weight this_rounding this_lacks this_alikes this_g) (wd_X12_takeTold k this this_thrown this_tape this_taped this_size this_sort this_sort_f this_place this_place_f this_value this_value_f R0.2.1 R0.2.2 this_words this_words_f this_towns this_op this_arg this_codes this_names this_names_f this_readNames this_readNames_f this_namesMany this_readMany this_once this_lines this_facts this_pile this_state this_undos this_isMarked this_weight this_rounding this_lacks this_alikes this_g) s.heap.size) args s 0 0 A) (F0 m 19 ls []) := by
    intro  u_this_at u_this_fault H locs ls hP hD hS hl hm
    unfold m_X12_takeTold_19 at hm
    refine lv_aload_n (pc := 19) hx hb dX12_takeTold_19 rfl (lv_at hl 0 rfl) ?_
    refine va_get (pc := 20) (D := D) (ci := 10) (C := RX12) (T := TX12) (N := 30) hx hb hts hiX12 hown hG.1 hP 0 rfl rfl 8 (Nat.le_of_ble_eq_true rfl) (hts _ kw_1265) (fun _ h9 => h9) rfl dX12_takeTold_20 ?_
    refine lv_if_le (tgt := 30) (pc := 23) hx hb dX12_takeTold_23 (by decide) (fun hc => ?_) (fun hc => ?_)
    · rw [if_pos hc] at hm
      refine lv_aload_n (pc := 30) hx hb dX12_takeTold_30 rfl (lv_at hl 0 rfl) ?_
      refine lv_iload_n (pc := 31) hx hb dX12_takeTold_31 rfl (lv_at hl 1 rfl) ?_
      obtain ⟨r8, hcl, hm⟩ := bd hm
      refine cr_back (run_V (pc := 32) (n := 1) (As := [.int q1]) (rest := []) ⟨hx, hb, hml, hown, hts⟩ (c_X12_nameAt l D k this this_thrown this_tape this_taped this_size this_sort this_place this_value this_value_f u_this_at u_this_fault this_words this_towns this_op this_arg this_codes this_names this_names_f this_readNames this_readNames_f this_namesMany this_readMany this_once this_lines this_facts this_pile this_state this_undos this_isMarked this_weight this_rounding this_lacks this_alikes this_g q1 r8 hcl) ⟨kw_1399, kw_16, by decide +kernel⟩ kw_1396 kw_1398 ks_106 ⟨Nat.le_of_ble_eq_true rfl, Nat.le_of_ble_eq_true rfl⟩ pr_blind (prR (hP.sub [0, 3, 5, 6] rfl) hG) (va_recv hG.1 hP (ci := 10) (q0 := 0) rfl rfl) rfl hl.1 rfl (Nat.le_of_ble_eq_true rfl) dX12_takeTold_32 ⟨Nat.zero_le _, Nat.zero_le _⟩) ?_
      exact h_35 r8 u_this_at u_this_fault H locs ls hP hD hS (lv_sub hl [0, 2] rfl) hm
    · rw [if_neg hc] at hm
      refine lv_iconst (v := (-1)) (pc := 26) hx hb dX12_takeTold_26 (by decide) ?_
      refine lv_goto (tgt := 35) (pc := 27) hx hb dX12_takeTold_27 (by decide) ?_
      exact h_35 (-1) u_this_at u_this_fault H locs ls hP hD hS (lv_sub hl [0, 2] rfl) hm
  unfold m_X12_takeTold at hm
  suffices hgo : ∀ (H : Heap) (locs : List Loc), va_P D vwCl (wd_X12_takeTold k this this_thrown this_tape this_taped this_size this_sort this_sort_f this_place this_place_f this_value this_value_f this_at this_fault this_words this_words_f this_towns this_op this_arg this_codes this_names this_names_f this_readNames this_readNames_f this_namesMany this_readMany this_once this_lines this_facts this_pile this_state this_undos this_isMarked this_weight this_rounding this_lacks this_alikes this_g) H → va_D A (wd_X12_takeTold k this this_thrown this_tape this_taped this_size this_sort this_sort_f this_place this_place_f this_value this_value_f this_at this_fault this_words this_words_f this_towns this_op this_arg this_codes this_names this_names_f this_readNames this_readNames_f this_namesMany this_readMany this_once this_lines this_facts this_pile this_state this_undos this_isMarked this_weight this_rounding this_lacks this_alikes this_g) → va_S A s.heap H locs → W p l e (Rm 3 65) s m args below meth c H locs 0 0 (MQ below (QW D (some (.int R0.1)) (wd_X12_takeTold k this this_thrown this_tape this_taped this_size this_sort this_sort_f this_place this_place_f this_value this_value_f this_at this_fault this_words this_words_f this_towns this_op this_arg this_codes this_names this_names_f this_readNames this_readNames_f this_namesMany this_readMany this_once this_lines this_facts this_pile this_state this_undos this_isMarked this_weight this_rounding this_lacks this_alikes this_g) (wd_X12_takeTold k this this_thrown this_tape this_taped this_size this_sort this_sort_f this_place this_place_f this_value this_value_f R0.2.1 R0.2.2 this_words this_words_f this_towns this_op this_arg this_codes this_names this_names_f this_readNames this_readNames_f this_namesMany this_readMany this_once this_lines this_facts this_pile this_state this_undos this_isMarked this_weight this_rounding this_lacks this_alikes this_g) s.heap.size) args s 0 0 A) (F0 m 0 ls []) from hgo _ _ hP hD hS
  clear hP hD hS
  intro H locs hP hD hS
  refine lv_aload_n (pc := 0) hx hb dX12_takeTold_0 rfl (lv_at hl 0 rfl) ?_
  refine va_get (pc := 1) (D := D) (ci := 10) (C := RX12) (T := TX12) (N := 30) hx hb hts hiX12 hown hG.1 hP 0 rfl rfl 8 (Nat.le_of_ble_eq_true rfl) (hts _ kw_1265) (fun _ h9 => h9) rfl dX12_takeTold_1 ?_
  refine lv_if_ne (tgt := 19) (pc := 4) hx hb dX12_takeTold_4 (by decide) (fun hc => ?_) (fun hc => ?_)
  · rw [if_neg hc] at hm
    exact h_19 this_at this_fault H locs ls hP hD hS (lv_sub hl [0, 1, 2] rfl) hm
  · rw [if_pos hc] at hm
    refine lv_aload_n (pc := 7) hx hb dX12_takeTold_7 rfl (lv_at hl 0 rfl) ?_
    obtain ⟨r9, hcl, hm⟩ := bd hm
    refine cr_back (run_V (pc := 8) (n := 0) (As := []) (rest := []) ⟨hx, hb, hml, hown, hts⟩ (c_X12_isName l D k this this_thrown this_tape this_taped this_size this_sort this_sort_f this_place this_value this_value_f this_at this_fault this_words this_words_f this_towns this_op this_arg this_codes this_names this_readNames this_namesMany this_readMany this_once this_lines this_facts this_pile this_state this_undos this_isMarked this_weight this_rounding this_lacks this_alikes this_g r9 hcl) ⟨kw_1391, kw_16, by decide +kernel⟩ kw_1388 kw_1390 ks_104 ⟨Nat.le_of_ble_eq_true rfl, Nat.le_of_ble_eq_true rfl⟩ pr_blind (prR (hP.sub [0, 1, 3, 4] rfl) hG) (va_recv hG.1 hP (ci := 10) (q0 := 0) rfl rfl) rfl hl.1 rfl (Nat.le_of_ble_eq_true rfl) dX12_takeTold_8 ⟨Nat.zero_le _, Nat.zero_le _⟩) ?_
    refine lv_if_ne (tgt := 19) (pc := 11) hx hb dX12_takeTold_11 (by decide) (fun hc => ?_) (fun hc => ?_)
    · rw [if_neg hc] at hm
      exact h_19 this_at this_fault H locs ls hP hD hS (lv_sub hl [0, 1, 2] rfl) hm
    · rw [if_pos hc] at hm
      refine lv_aload_n (pc := 14) hx hb dX12_takeTold_14 rfl (lv_at hl 0 rfl) ?_
      refine lv_iconst (v := 1) (pc := 15) hx hb dX12_takeTold_15 (by decide) ?_
      obtain ⟨r10, hcl, hm⟩ := bd hm
      refine cw_mask (ws' := (wd_X12_takeTold k this this_thrown this_tape this_taped this_size this_sort this_sort_f this_place this_place_f this_value this_value_f this_at r10 this_words this_words_f this_towns this_op this_arg this_codes this_names this_names_f this_readNames this_readNames_f this_namesMany this_readMany this_once this_lines this_facts this_pile this_state this_undos this_isMarked this_weight this_rounding this_lacks this_alikes this_g)) (run_V (pc := 16) (n := 1) (As := [.int 1]) (rest := []) ⟨hx, hb, hml, hown, hts⟩ ((c_X12_wrong l D k this this_thrown this_tape this_taped this_size this_sort this_place this_place_f this_value this_at this_fault this_words this_towns this_op this_arg this_codes this_names this_readNames this_namesMany this_readMany this_once this_lines this_facts this_pile this_state this_undos this_isMarked this_weight this_rounding this_lacks this_alikes this_g 1 r10 hcl) H.size) ⟨kw_1387, kw_16, by decide +kernel⟩ kw_1384 kw_1386 ks_103 ⟨Nat.le_of_ble_eq_true rfl, Nat.le_of_ble_eq_true rfl⟩ pw_blind (prW (P_pick [true, false, true] rfl hP) hG (D_pick [true, false, true] rfl hD)) (va_recv hG.1 hP (ci := 10) (q0 := 0) rfl rfl) rfl hl.1 rfl (Nat.le_of_ble_eq_true rfl) dX12_takeTold_16 ⟨Nat.zero_le _, Nat.zero_le _⟩) hP hD hS hA [true, false, true] rfl rfl rfl (fun H locs hP hD hS => ?_)
      exact h_19 this_at r10 H locs ls hP hD hS (lv_sub hl [0, 1, 2] rfl) hm
theorem dX12_readPerson_0 : decode cX12_readPerson 0 = .ok (.aload_n 0, 1) := by decide +kernel
theorem dX12_readPerson_1 : decode cX12_readPerson 1 = .ok (.getfield 184, 3) := by decide +kernel
theorem dX12_readPerson_4 : decode cX12_readPerson 4 = .ok (.bipush 6, 2) := by decide +kernel
theorem dX12_readPerson_6 : decode cX12_readPerson 6 = .ok (.if_icmp .ne 9, 3) := by decide +kernel
theorem dX12_readPerson_9 : decode cX12_readPerson 9 = .ok (.aload_n 0, 1) := by decide +kernel
theorem dX12_readPerson_10 : decode cX12_readPerson 10 = .ok (.iconst 5, 1) := by decide +kernel
theorem dX12_readPerson_11 : decode cX12_readPerson 11 = .ok (.invokevirtual 165, 3) := by decide +kernel
theorem dX12_readPerson_14 : decode cX12_readPerson 14 = .ok (.return_, 1) := by decide +kernel
theorem dX12_readPerson_15 : decode cX12_readPerson 15 = .ok (.aload_n 0, 1) := by decide +kernel
theorem dX12_readPerson_16 : decode cX12_readPerson 16 = .ok (.dup, 1) := by decide +kernel
theorem dX12_readPerson_17 : decode cX12_readPerson 17 = .ok (.getfield 156, 3) := by decide +kernel
theorem dX12_readPerson_20 : decode cX12_readPerson 20 = .ok (.iconst 1, 1) := by decide +kernel
theorem dX12_readPerson_21 : decode cX12_readPerson 21 = .ok (.iadd, 1) := by decide +kernel
theorem dX12_readPerson_22 : decode cX12_readPerson 22 = .ok (.putfield 156, 3) := by decide +kernel
theorem dX12_readPerson_25 : decode cX12_readPerson 25 = .ok (.aload_n 0, 1) := by decide +kernel
theorem dX12_readPerson_26 : decode cX12_readPerson 26 = .ok (.invokevirtual 190, 3) := by decide +kernel
theorem dX12_readPerson_29 : decode cX12_readPerson 29 = .ok (.ifCond .ne 11, 3) := by decide +kernel
theorem dX12_readPerson_32 : decode cX12_readPerson 32 = .ok (.aload_n 0, 1) := by decide +kernel
theorem dX12_readPerson_33 : decode cX12_readPerson 33 = .ok (.iconst 1, 1) := by decide +kernel
theorem dX12_readPerson_34 : decode cX12_readPerson 34 = .ok (.invokevirtual 165, 3) := by decide +kernel
theorem dX12_readPerson_37 : decode cX12_readPerson 37 = .ok (.goto 16, 3) := by decide +kernel
theorem dX12_readPerson_40 : decode cX12_readPerson 40 = .ok (.aload_n 0, 1) := by decide +kernel
theorem dX12_readPerson_41 : decode cX12_readPerson 41 = .ok (.iconst 1, 1) := by decide +kernel
theorem dX12_readPerson_42 : decode cX12_readPerson 42 = .ok (.invokevirtual 194, 3) := by decide +kernel
theorem dX12_readPerson_45 : decode cX12_readPerson 45 = .ok (.ifCond .lt 8, 3) := by decide +kernel
theorem dX12_readPerson_48 : decode cX12_readPerson 48 = .ok (.aload_n 0, 1) := by decide +kernel
theorem dX12_readPerson_49 : decode cX12_readPerson 49 = .ok (.iconst 3, 1) := by decide +kernel
theorem dX12_readPerson_50 : decode cX12_readPerson 50 = .ok (.invokevirtual 165, 3) := by decide +kernel
theorem dX12_readPerson_53 : decode cX12_readPerson 53 = .ok (.aload_n 0, 1) := by decide +kernel
theorem dX12_readPerson_54 : decode cX12_readPerson 54 = .ok (.getfield 159, 3) := by decide +kernel
theorem dX12_readPerson_57 : decode cX12_readPerson 57 = .ok (.ifCond .le 4, 3) := by decide +kernel
theorem dX12_readPerson_60 : decode cX12_readPerson 60 = .ok (.return_, 1) := by decide +kernel
theorem dX12_readPerson_61 : decode cX12_readPerson 61 = .ok (.aload_n 0, 1) := by decide +kernel
theorem dX12_readPerson_62 : decode cX12_readPerson 62 = .ok (.getfield 30, 3) := by decide +kernel
theorem dX12_readPerson_65 : decode cX12_readPerson 65 = .ok (.aload_n 0, 1) := by decide +kernel
theorem dX12_readPerson_66 : decode cX12_readPerson 66 = .ok (.getfield 156, 3) := by decide +kernel
theorem dX12_readPerson_69 : decode cX12_readPerson 69 = .ok (.laload, 1) := by decide +kernel
theorem dX12_readPerson_70 : decode cX12_readPerson 70 = .ok (.lstore_n 1, 1) := by decide +kernel
theorem dX12_readPerson_71 : decode cX12_readPerson 71 = .ok (.aload_n 0, 1) := by decide +kernel
theorem dX12_readPerson_72 : decode cX12_readPerson 72 = .ok (.dup, 1) := by decide +kernel
theorem dX12_readPerson_73 : decode cX12_readPerson 73 = .ok (.getfield 156, 3) := by decide +kernel
theorem dX12_readPerson_76 : decode cX12_readPerson 76 = .ok (.iconst 1, 1) := by decide +kernel
theorem dX12_readPerson_77 : decode cX12_readPerson 77 = .ok (.iadd, 1) := by decide +kernel
theorem dX12_readPerson_78 : decode cX12_readPerson 78 = .ok (.putfield 156, 3) := by decide +kernel
theorem dX12_readPerson_81 : decode cX12_readPerson 81 = .ok (.aload_n 0, 1) := by decide +kernel
theorem dX12_readPerson_82 : decode cX12_readPerson 82 = .ok (.bipush 15, 2) := by decide +kernel
theorem dX12_readPerson_84 : decode cX12_readPerson 84 = .ok (.iconst 4, 1) := by decide +kernel
theorem dX12_readPerson_85 : decode cX12_readPerson 85 = .ok (.invokevirtual 223, 3) := by decide +kernel
theorem dX12_readPerson_88 : decode cX12_readPerson 88 = .ok (.istore_n 3, 1) := by decide +kernel
theorem dX12_readPerson_89 : decode cX12_readPerson 89 = .ok (.aload_n 0, 1) := by decide +kernel
theorem dX12_readPerson_90 : decode cX12_readPerson 90 = .ok (.iconst 1, 1) := by decide +kernel
theorem dX12_readPerson_91 : decode cX12_readPerson 91 = .ok (.iconst 0, 1) := by decide +kernel
theorem dX12_readPerson_92 : decode cX12_readPerson 92 = .ok (.bipush 60, 2) := by decide +kernel
theorem dX12_readPerson_94 : decode cX12_readPerson 94 = .ok (.invokevirtual 226, 3) := by decide +kernel
theorem dX12_readPerson_97 : decode cX12_readPerson 97 = .ok (.istore 4, 2) := by decide +kernel
theorem dX12_readPerson_99 : decode cX12_readPerson 99 = .ok (.aload_n 0, 1) := by decide +kernel
theorem dX12_readPerson_100 : decode cX12_readPerson 100 = .ok (.getfield 159, 3) := by decide +kernel
theorem dX12_readPerson_103 : decode cX12_readPerson 103 = .ok (.ifCond .ne 64, 3) := by decide +kernel
theorem dX12_readPerson_106 : decode cX12_readPerson 106 = .ok (.bipush 35, 2) := by decide +kernel
theorem dX12_readPerson_108 : decode cX12_readPerson 108 = .ok (.iconst 3, 1) := by decide +kernel
theorem dX12_readPerson_109 : decode cX12_readPerson 109 = .ok (.aload_n 0, 1) := by decide +kernel
theorem dX12_readPerson_110 : decode cX12_readPerson 110 = .ok (.getfield 184, 3) := by decide +kernel
theorem dX12_readPerson_113 : decode cX12_readPerson 113 = .ok (.imul, 1) := by decide +kernel
theorem dX12_readPerson_114 : decode cX12_readPerson 114 = .ok (.iadd, 1) := by decide +kernel
theorem dX12_readPerson_115 : decode cX12_readPerson 115 = .ok (.istore 5, 2) := by decide +kernel
theorem dX12_readPerson_117 : decode cX12_readPerson 117 = .ok (.aload_n 0, 1) := by decide +kernel
theorem dX12_readPerson_118 : decode cX12_readPerson 118 = .ok (.getfield 89, 3) := by decide +kernel
theorem dX12_readPerson_121 : decode cX12_readPerson 121 = .ok (.iload 5, 2) := by decide +kernel
theorem dX12_readPerson_123 : decode cX12_readPerson 123 = .ok (.iload_n 3, 1) := by decide +kernel
theorem dX12_readPerson_124 : decode cX12_readPerson 124 = .ok (.iastore, 1) := by decide +kernel
theorem dX12_readPerson_125 : decode cX12_readPerson 125 = .ok (.aload_n 0, 1) := by decide +kernel
theorem dX12_readPerson_126 : decode cX12_readPerson 126 = .ok (.getfield 89, 3) := by decide +kernel
theorem dX12_readPerson_129 : decode cX12_readPerson 129 = .ok (.iload 5, 2) := by decide +kernel
theorem dX12_readPerson_131 : decode cX12_readPerson 131 = .ok (.iconst 1, 1) := by decide +kernel
theorem dX12_readPerson_132 : decode cX12_readPerson 132 = .ok (.iadd, 1) := by decide +kernel
theorem dX12_readPerson_133 : decode cX12_readPerson 133 = .ok (.iload 4, 2) := by decide +kernel
theorem dX12_readPerson_135 : decode cX12_readPerson 135 = .ok (.iastore, 1) := by decide +kernel
theorem dX12_readPerson_136 : decode cX12_readPerson 136 = .ok (.aload_n 0, 1) := by decide +kernel
theorem dX12_readPerson_137 : decode cX12_readPerson 137 = .ok (.getfield 101, 3) := by decide +kernel
theorem dX12_readPerson_140 : decode cX12_readPerson 140 = .ok (.aload_n 0, 1) := by decide +kernel
theorem dX12_readPerson_141 : decode cX12_readPerson 141 = .ok (.getfield 184, 3) := by decide +kernel
theorem dX12_readPerson_144 : decode cX12_readPerson 144 = .ok (.lload_n 1, 1) := by decide +kernel
theorem dX12_readPerson_145 : decode cX12_readPerson 145 = .ok (.lastore, 1) := by decide +kernel
theorem dX12_readPerson_146 : decode cX12_readPerson 146 = .ok (.aload_n 0, 1) := by decide +kernel
theorem dX12_readPerson_147 : decode cX12_readPerson 147 = .ok (.dup, 1) := by decide +kernel
theorem dX12_readPerson_148 : decode cX12_readPerson 148 = .ok (.getfield 184, 3) := by decide +kernel
theorem dX12_readPerson_151 : decode cX12_readPerson 151 = .ok (.iconst 1, 1) := by decide +kernel
theorem dX12_readPerson_152 : decode cX12_readPerson 152 = .ok (.iadd, 1) := by decide +kernel
theorem dX12_readPerson_153 : decode cX12_readPerson 153 = .ok (.putfield 184, 3) := by decide +kernel
theorem dX12_readPerson_156 : decode cX12_readPerson 156 = .ok (.aload_n 0, 1) := by decide +kernel
theorem dX12_readPerson_157 : decode cX12_readPerson 157 = .ok (.getfield 89, 3) := by decide +kernel
theorem dX12_readPerson_160 : decode cX12_readPerson 160 = .ok (.bipush 30, 2) := by decide +kernel
theorem dX12_readPerson_162 : decode cX12_readPerson 162 = .ok (.aload_n 0, 1) := by decide +kernel
theorem dX12_readPerson_163 : decode cX12_readPerson 163 = .ok (.getfield 184, 3) := by decide +kernel
theorem dX12_readPerson_166 : decode cX12_readPerson 166 = .ok (.iastore, 1) := by decide +kernel
theorem dX12_readPerson_167 : decode cX12_readPerson 167 = .ok (.return_, 1) := by decide +kernel
abbrev wd_X12_readPerson (k : Nat → ClassId) (this : Nat) (this_thrown : Int32) (this_tape : Nat) (this_taped : Int32) (this_size : Int32) (this_sort : Nat) (this_sort_f : Nat → Int32) (this_place : Nat) (this_place_f : Nat → Int32) (this_value : Nat) (this_value_f : Nat → Int64) (this_at : Int32) (this_fault : Int32) (this_words : Nat) (this_words_f : Nat → Int64) (this_towns : Nat) (this_towns_f : Nat → Int32) (this_op : Nat) (this_arg : Nat) (this_codes : Int32) (this_names : Nat) (this_names_f : Nat → Int64) (this_readNames : Nat) (this_readNames_f : Nat → Int64) (this_namesMany : Int32) (this_readMany : Int32) (this_once : Int32) (this_lines : Nat) (this_facts : Nat) (this_pile : Nat) (this_state : Nat) (this_undos : Int32) (this_isMarked : Nat) (this_weight : Int32) (this_rounding : Int32) (this_lacks : Nat) (this_alikes : Nat) (this_g : Int64) : va_W := [(this, .inr (10, [.int this_thrown, .ref this_tape, .int this_taped, .int this_size, .ref this_sort, .ref this_place, .ref this_value, .int this_at, .int this_fault, .ref this_words, .ref this_towns, .ref this_op, .ref this_arg, .int this_codes, .ref this_names, .ref this_readNames, .int this_namesMany, .int this_readMany, .int this_once, .ref this_lines, .ref this_facts, .ref this_pile, .ref this_state, .int this_undos, .ref this_isMarked, .int this_weight, .int this_rounding, .ref this_lacks, .ref this_alikes, .long this_g])), (this_sort, .inl (k 0, 1002, .inl this_sort_f)), (this_place, .inl (k 0, 1002, .inl this_place_f)), (this_value, .inl (k 1, 1002, .inr (.inl this_value_f))), (this_words, .inl (k 1, 26, .inr (.inl this_words_f))), (this_towns, .inl (k 0, 60, .inl this_towns_f)), (this_names, .inl (k 1, 6, .inr (.inl this_names_f))), (this_readNames, .inl (k 1, 6, .inr (.inl this_readNames_f)))]
set_option maxHeartbeats 4000000 in
set_option maxRecDepth 100000 in
theorem c_X12_readPerson (l : Launch) (D : va_G) (k : Nat → ClassId) (this : Nat) (this_thrown : Int32) (this_tape : Nat) (this_taped : Int32) (this_size : Int32) (this_sort : Nat) (this_sort_f : Nat → Int32) (this_place : Nat) (this_place_f : Nat → Int32) (this_value : Nat) (this_value_f : Nat → Int64) (this_at : Int32) (this_fault : Int32) (this_words : Nat) (this_words_f : Nat → Int64) (this_towns : Nat) (this_towns_f : Nat → Int32) (this_op : Nat) (this_arg : Nat) (this_codes : Int32) (this_names : Nat) (this_names_f : Nat → Int64) (this_readNames : Nat) (this_readNames_f : Nat → Int64) (this_namesMany : Int32) (this_readMany : Int32) (this_once : Int32) (this_lines : Nat) (this_facts : Nat) (this_pile : Nat) (this_state : Nat) (this_undos : Int32) (this_isMarked : Nat) (this_weight : Int32) (this_rounding : Int32) (this_lacks : Nat) (this_alikes : Nat) (this_g : Int64) (R0 : Int32 × Int32 × Int32 × (Nat → Int32) × (Nat → Int64)) (hm : m_X12_readPerson this_sort_f this_place_f this_value_f this_at this_fault this_words_f this_towns_f this_names_f this_readNames_f this_namesMany this_readMany = some R0) : CW l D (TY k) yX12_readPerson cX12_readPerson 6 none 4 87 [.ref this] (wd_X12_readPerson k this this_thrown this_tape this_taped this_size this_sort this_sort_f this_place this_place_f this_value this_value_f this_at this_fault this_words this_words_f this_towns this_towns_f this_op this_arg this_codes this_names this_names_f this_readNames this_readNames_f this_namesMany this_readMany this_once this_lines this_facts this_pile this_state this_undos this_isMarked this_weight this_rounding this_lacks this_alikes this_g) none (wd_X12_readPerson k this this_thrown this_tape this_taped this_size this_sort this_sort_f this_place this_place_f this_value this_value_f R0.1 R0.2.1 this_words this_words_f this_towns R0.2.2.2.1 this_op this_arg this_codes this_names this_names_f this_readNames R0.2.2.2.2 this_namesMany R0.2.2.1 this_once this_lines this_facts this_pile this_state this_undos this_isMarked this_weight this_rounding this_lacks this_alikes this_g) := by
  refine CW.mk (by decide) (Nat.le_of_ble_eq_true rfl) ?_
  intro p e s m args below meth c ls A ⟨hx, hb, hr, hts, hown, hlocks, hml⟩ hP hG hD hA hl hS hq
  have hl : lv_has ls 6 [(0, .ref this)] := hl
  have h_53 : ∀ (u_this_at : Int32) (u_this_fault : Int32) (u_this_readMany : Int32) (u_this_towns_f : Nat → Int32) (u_this_readNames_f : Nat → Int64) (H : Heap) (locs : List Loc) (ls : Array Slot), va_P D vwCl (wd_X12_readPerson k this this_thrown this_tape this_taped this_size this_sort this_sort_f this_place this_place_f this_value this_value_f u_this_at u_this_fault this_words this_words_f this_towns u_this_towns_f this_op this_arg this_codes this_names this_names_f this_readNames u_this_readNames_f this_namesMany u_this_readMany this_once this_lines this_facts this_pile this_state this_undos this_isMarked this_weight this_rounding this_lacks this_alikes this_g) H → va_D A (wd_X12_readPerson k this this_thrown this_tape this_taped this_size this_sort this_sort_f this_place this_place_f this_value this_value_f u_this_at u_this_fault this_words this_words_f this_towns u_this_towns_f this_op this_arg this_codes this_names this_names_f this_readNames u_this_readNames_f this_namesMany u_this_readMany this_once this_lines this_facts this_pile this_state this_undos this_isMarked this_weight this_rounding this_lacks this_alikes this_g) → va_S A s.heap H locs → lv_has ls 6 [(0, .ref this)] → m_X12_readPerson_53 this_sort_f this_place_f this_value_f this_words_f this_names_f this_namesMany u_this_at u_this_fault u_this_readMany u_this_towns_f u_this_readNames_f = some R0 → W p l e (Rm 4 87) s m args below meth c H locs 0 0 (MQ below (QW D none (wd_X12_readPerson k this this_thrown this_tape this_taped this_size this_sort this_sort_f this_place this_place_f this_value this_value_f this_at this_fault this_words this_words_f this_towns this_towns_f this_op this_arg this_codes this_names this_names_f this_readNames this_readNames_f this_namesMany this_readMany this_once this_lines this_facts this_pile this_state this_undos this_isMarked this_weight this_rounding this_lacks this_alikes this_g) (wd_X12_readPerson k this this_thrown this_tape this_taped this_size this_sort this_sort_f this_place this_place_f this_value this_value_f R0.1 R0.2.1 this_words this_words_f this_towns R0.2.2.2.1 this_op this_arg this_codes this_names this_names_f this_readNames R0.2.2.2.2 this_namesMany R0.2.2.1 this_once this_lines this_facts this_pile this_state this_undos this_isMarked this_weight this_rounding this_lacks this_alikes this_g) s.heap.size) args s 0 0 A) (F0 m 53 ls []) := by
    intro  u_this_at u_this_fault u_this_readMany u_this_towns_f u_this_readNames_f H locs ls hP hD hS hl hm
    unfold m_X12_readPerson_53 at hm
    refine lv_aload_n (pc := 53) hx hb dX12_readPerson_53 rfl (lv_at hl 0 rfl) ?_
    refine va_get (pc := 54) (D := D) (ci := 10) (C := RX12) (T := TX12) (N := 30) hx hb hts hiX12 hown hG.1 hP 0 rfl rfl 8 (Nat.le_of_ble_eq_true rfl) (hts _ kw_1265) (fun _ h9 => h9) rfl dX12_readPerson_54 ?_
    refine lv_if_le (tgt := 61) (pc := 57) hx hb dX12_readPerson_57 (by decide) (fun hc => ?_) (fun hc => ?_)
    · rw [if_pos hc] at hm
      refine lv_aload_n (pc := 61) hx hb dX12_readPerson_61 rfl (lv_at hl 0 rfl) ?_
      refine va_get (pc := 62) (D := D) (ci := 10) (C := RX12) (T := TX12) (N := 30) hx hb hts hiX12 hown hG.1 hP 0 rfl rfl 6 (Nat.le_of_ble_eq_true rfl) (hts _ kw_1263) (fun _ h9 => h9) rfl dX12_readPerson_62 ?_
      refine lv_aload_n (pc := 65) hx hb dX12_readPerson_65 rfl (lv_at hl 0 rfl) ?_
      refine va_get (pc := 66) (D := D) (ci := 10) (C := RX12) (T := TX12) (N := 30) hx hb hts hiX12 hown hG.1 hP 0 rfl rfl 7 (Nat.le_of_ble_eq_true rfl) (hts _ kw_1264) (fun _ h9 => h9) rfl dX12_readPerson_66 ?_
      obtain ⟨hin, hm⟩ := gd hm
      refine va_lald (pc := 69) (D := D) hx hb hG.1 hP 3 1 rfl rfl hin dX12_readPerson_69 ?_
      refine lv_lstore_n (lv' := [(1, .long (this_value_f u_this_at.toNatClampNeg)), (0, .ref this)]) (pc := 70) hx hb dX12_readPerson_70 rfl hl (Nat.le_of_ble_eq_true rfl) rfl (fun ls hl => ?_)
      refine lv_aload_n (pc := 71) hx hb dX12_readPerson_71 rfl (lv_at hl 1 rfl) ?_
      refine lv_dup (pc := 72) hx hb dX12_readPerson_72 rfl ?_
      refine va_get (pc := 73) (D := D) (ci := 10) (C := RX12) (T := TX12) (N := 30) hx hb hts hiX12 hown hG.1 hP 0 rfl rfl 7 (Nat.le_of_ble_eq_true rfl) (hts _ kw_1264) (fun _ h9 => h9) rfl dX12_readPerson_73 ?_
      refine lv_iconst (v := 1) (pc := 76) hx hb dX12_readPerson_76 (by decide) ?_
      refine lv_iadd (pc := 77) hx hb dX12_readPerson_77 ?_
      refine va_put (pc := 78) (D := D) (ci := 10) (v := .int (u_this_at + 1)) (ty := .int) (C := RX12) (T := TX12) (N := 30) hx hb hts hiX12 tyX12 tyX12_ok nmX12 hown hG.1 hP hD hS 0 rfl rfl 7 (Nat.le_of_ble_eq_true rfl) (hts _ kw_1264) (fun _ h9 => h9) rfl (by decide +kernel) rfl rfl (Nat.le_of_ble_eq_true rfl) dX12_readPerson_78 (fun H locs hP hD hS => ?_)
      have hP : va_P D vwCl (wd_X12_readPerson k this this_thrown this_tape this_taped this_size this_sort this_sort_f this_place this_place_f this_value this_value_f (u_this_at + 1) u_this_fault this_words this_words_f this_towns u_this_towns_f this_op this_arg this_codes this_names this_names_f this_readNames u_this_readNames_f this_namesMany u_this_readMany this_once this_lines this_facts this_pile this_state this_undos this_isMarked this_weight this_rounding this_lacks this_alikes this_g) H := hP
      have hD : va_D A (wd_X12_readPerson k this this_thrown this_tape this_taped this_size this_sort this_sort_f this_place this_place_f this_value this_value_f (u_this_at + 1) u_this_fault this_words this_words_f this_towns u_this_towns_f this_op this_arg this_codes this_names this_names_f this_readNames u_this_readNames_f this_namesMany u_this_readMany this_once this_lines this_facts this_pile this_state this_undos this_isMarked this_weight this_rounding this_lacks this_alikes this_g) := hD
      refine lv_aload_n (pc := 81) hx hb dX12_readPerson_81 rfl (lv_at hl 1 rfl) ?_
      refine lv_bipush (v := 15) (pc := 82) hx hb dX12_readPerson_82 (by decide) ?_
      refine lv_iconst (v := 4) (pc := 84) hx hb dX12_readPerson_84 (by decide) ?_
      obtain ⟨r8, hcl, hm⟩ := bd hm
      refine cw_mask (ws' := (wd_X12_readPerson k this this_thrown this_tape this_taped this_size this_sort this_sort_f this_place this_place_f this_value this_value_f r8.2.1 r8.2.2 this_words this_words_f this_towns u_this_towns_f this_op this_arg this_codes this_names this_names_f this_readNames u_this_readNames_f this_namesMany u_this_readMany this_once this_lines this_facts this_pile this_state this_undos this_isMarked this_weight this_rounding this_lacks this_alikes this_g)) (run_V (pc := 85) (n := 2) (As := [.int 15, .int 4]) (rest := []) ⟨hx, hb, hml, hown, hts⟩ ((c_X12_takeOne l D k this this_thrown this_tape this_taped this_size this_sort this_sort_f this_place this_place_f this_value this_value_f (u_this_at + 1) u_this_fault this_words this_words_f this_towns this_op this_arg this_codes this_names this_readNames this_namesMany u_this_readMany this_once this_lines this_facts this_pile this_state this_undos this_isMarked this_weight this_rounding this_lacks this_alikes this_g 15 4 r8 hcl) H.size) ⟨kw_1403, kw_16, by decide +kernel⟩ kw_1400 kw_1402 ks_107 ⟨Nat.le_of_ble_eq_true rfl, Nat.le_of_ble_eq_true rfl⟩ pw_blind (prW (P_pick [true, true, true, true, true] rfl hP) hG (D_pick [true, true, true, true, true] rfl hD)) (va_recv hG.1 hP (ci := 10) (q0 := 0) rfl rfl) rfl hl.1 rfl (Nat.le_of_ble_eq_true rfl) dX12_readPerson_85 ⟨Nat.zero_le _, Nat.zero_le _⟩) hP hD hS hA [true, true, true, true, true] rfl rfl rfl (fun H locs hP hD hS => ?_)
      refine lv_istore_n (lv' := [(3, .int r8.1), (1, .long (this_value_f u_this_at.toNatClampNeg)), (0, .ref this)]) (pc := 88) hx hb dX12_readPerson_88 rfl hl (Nat.le_of_ble_eq_true rfl) rfl (fun ls hl => ?_)
      refine lv_aload_n (pc := 89) hx hb dX12_readPerson_89 rfl (lv_at hl 2 rfl) ?_
      refine lv_iconst (v := 1) (pc := 90) hx hb dX12_readPerson_90 (by decide) ?_
      refine lv_iconst (v := 0) (pc := 91) hx hb dX12_readPerson_91 (by decide) ?_
      refine lv_bipush (v := 60) (pc := 92) hx hb dX12_readPerson_92 (by decide) ?_
      obtain ⟨r9, hcl, hm⟩ := bd hm
      refine cw_mask (ws' := (wd_X12_readPerson k this this_thrown this_tape this_taped this_size this_sort this_sort_f this_place this_place_f this_value this_value_f r9.2.1 r9.2.2 this_words this_words_f this_towns u_this_towns_f this_op this_arg this_codes this_names this_names_f this_readNames u_this_readNames_f this_namesMany u_this_readMany this_once this_lines this_facts this_pile this_state this_undos this_isMarked this_weight this_rounding this_lacks this_alikes this_g)) (run_V (pc := 94) (n := 3) (As := [.int 1, .int 0, .int 60]) (rest := []) ⟨hx, hb, hml, hown, hts⟩ ((c_X12_takeAfter l D k this this_thrown this_tape this_taped this_size this_sort this_sort_f this_place this_place_f this_value this_value_f r8.2.1 r8.2.2 this_words this_words_f this_towns this_op this_arg this_codes this_names this_readNames this_namesMany u_this_readMany this_once this_lines this_facts this_pile this_state this_undos this_isMarked this_weight this_rounding this_lacks this_alikes this_g 1 0 60 r9 hcl) H.size) ⟨kw_1407, kw_16, by decide +kernel⟩ kw_1404 kw_1406 ks_108 ⟨Nat.le_of_ble_eq_true rfl, Nat.le_of_ble_eq_true rfl⟩ pw_blind (prW (P_pick [true, true, true, true, true] rfl hP) hG (D_pick [true, true, true, true, true] rfl hD)) (va_recv hG.1 hP (ci := 10) (q0 := 0) rfl rfl) rfl hl.1 rfl (Nat.le_of_ble_eq_true rfl) dX12_readPerson_94 ⟨Nat.zero_le _, Nat.zero_le _⟩) hP hD hS hA [true, true, true, true, true] rfl rfl rfl (fun H locs hP hD hS => ?_)
      refine lv_istore (lv' := [(4, .int r9.1), (3, .int r8.1), (1, .long (this_value_f u_this_at.toNatClampNeg)), (0, .ref this)]) (pc := 97) hx hb dX12_readPerson_97 hl (Nat.le_of_ble_eq_true rfl) rfl (fun ls hl => ?_)
      refine lv_aload_n (pc := 99) hx hb dX12_readPerson_99 rfl (lv_at hl 3 rfl) ?_
      refine va_get (pc := 100) (D := D) (ci := 10) (C := RX12) (T := TX12) (N := 30) hx hb hts hiX12 hown hG.1 hP 0 rfl rfl 8 (Nat.le_of_ble_eq_true rfl) (hts _ kw_1265) (fun _ h9 => h9) rfl dX12_readPerson_100 ?_
      refine lv_if_ne (tgt := 167) (pc := 103) hx hb dX12_readPerson_103 (by decide) (fun hc => ?_) (fun hc => ?_)
      · rw [if_neg hc] at hm
        rw [← Option.some.inj hm]
        exact W.vret hx hb hr (fun t ht _ => hq _ _ H t ht hP hD locs hS) hS.2.2 dX12_readPerson_167 hlocks
      · rw [if_pos hc] at hm
        refine lv_bipush (v := 35) (pc := 106) hx hb dX12_readPerson_106 (by decide) ?_
        refine lv_iconst (v := 3) (pc := 108) hx hb dX12_readPerson_108 (by decide) ?_
        refine lv_aload_n (pc := 109) hx hb dX12_readPerson_109 rfl (lv_at hl 3 rfl) ?_
        refine va_get (pc := 110) (D := D) (ci := 10) (C := RX12) (T := TX12) (N := 30) hx hb hts hiX12 hown hG.1 hP 0 rfl rfl 17 (Nat.le_of_ble_eq_true rfl) (hts _ kw_1274) (fun _ h9 => h9) rfl dX12_readPerson_110 ?_
        refine lv_imul (pc := 113) hx hb dX12_readPerson_113 ?_
        refine lv_iadd (pc := 114) hx hb dX12_readPerson_114 ?_
        refine lv_istore (lv' := [(5, .int (35 + (3 * u_this_readMany))), (4, .int r9.1), (3, .int r8.1), (1, .long (this_value_f u_this_at.toNatClampNeg)), (0, .ref this)]) (pc := 115) hx hb dX12_readPerson_115 hl (Nat.le_of_ble_eq_true rfl) rfl (fun ls hl => ?_)
        refine lv_aload_n (pc := 117) hx hb dX12_readPerson_117 rfl (lv_at hl 4 rfl) ?_
        refine va_get (pc := 118) (D := D) (ci := 10) (C := RX12) (T := TX12) (N := 30) hx hb hts hiX12 hown hG.1 hP 0 rfl rfl 10 (Nat.le_of_ble_eq_true rfl) (hts _ kw_1267) (fun _ h9 => h9) rfl dX12_readPerson_118 ?_
        refine lv_iload (pc := 121) hx hb dX12_readPerson_121 (lv_at hl 0 rfl) ?_
        refine lv_iload_n (pc := 123) hx hb dX12_readPerson_123 rfl (lv_at hl 2 rfl) ?_
        obtain ⟨hin, hm⟩ := gd hm
        refine va_iast (pc := 124) (D := D) hx hb hG.1 hP hD hS 5 0 rfl rfl hin dX12_readPerson_124 (fun H locs hP hD hS => ?_)
        have hP : va_P D vwCl (wd_X12_readPerson k this this_thrown this_tape this_taped this_size this_sort this_sort_f this_place this_place_f this_value this_value_f r9.2.1 r9.2.2 this_words this_words_f this_towns (upd u_this_towns_f (35 + (3 * u_this_readMany)).toNatClampNeg r8.1) this_op this_arg this_codes this_names this_names_f this_readNames u_this_readNames_f this_namesMany u_this_readMany this_once this_lines this_facts this_pile this_state this_undos this_isMarked this_weight this_rounding this_lacks this_alikes this_g) H := hP
        have hD : va_D A (wd_X12_readPerson k this this_thrown this_tape this_taped this_size this_sort this_sort_f this_place this_place_f this_value this_value_f r9.2.1 r9.2.2 this_words this_words_f this_towns (upd u_this_towns_f (35 + (3 * u_this_readMany)).toNatClampNeg r8.1) this_op this_arg this_codes this_names this_names_f this_readNames u_this_readNames_f this_namesMany u_this_readMany this_once this_lines this_facts this_pile this_state this_undos this_isMarked this_weight this_rounding this_lacks this_alikes this_g) := hD
        refine lv_aload_n (pc := 125) hx hb dX12_readPerson_125 rfl (lv_at hl 4 rfl) ?_
        refine va_get (pc := 126) (D := D) (ci := 10) (C := RX12) (T := TX12) (N := 30) hx hb hts hiX12 hown hG.1 hP 0 rfl rfl 10 (Nat.le_of_ble_eq_true rfl) (hts _ kw_1267) (fun _ h9 => h9) rfl dX12_readPerson_126 ?_
        refine lv_iload (pc := 129) hx hb dX12_readPerson_129 (lv_at hl 0 rfl) ?_
        refine lv_iconst (v := 1) (pc := 131) hx hb dX12_readPerson_131 (by decide) ?_
        refine lv_iadd (pc := 132) hx hb dX12_readPerson_132 ?_
        refine lv_iload (pc := 133) hx hb dX12_readPerson_133 (lv_at hl 1 rfl) ?_
        obtain ⟨hin, hm⟩ := gd hm
        refine va_iast (pc := 135) (D := D) hx hb hG.1 hP hD hS 5 0 rfl rfl hin dX12_readPerson_135 (fun H locs hP hD hS => ?_)
        have hP : va_P D vwCl (wd_X12_readPerson k this this_thrown this_tape this_taped this_size this_sort this_sort_f this_place this_place_f this_value this_value_f r9.2.1 r9.2.2 this_words this_words_f this_towns (upd (upd u_this_towns_f (35 + (3 * u_this_readMany)).toNatClampNeg r8.1) ((35 + (3 * u_this_readMany)) + 1).toNatClampNeg r9.1) this_op this_arg this_codes this_names this_names_f this_readNames u_this_readNames_f this_namesMany u_this_readMany this_once this_lines this_facts this_pile this_state this_undos this_isMarked this_weight this_rounding this_lacks this_alikes this_g) H := hP
        have hD : va_D A (wd_X12_readPerson k this this_thrown this_tape this_taped this_size this_sort this_sort_f this_place this_place_f this_value this_value_f r9.2.1 r9.2.2 this_words this_words_f this_towns (upd (upd u_this_towns_f (35 + (3 * u_this_readMany)).toNatClampNeg r8.1) ((35 + (3 * u_this_readMany)) + 1).toNatClampNeg r9.1) this_op this_arg this_codes this_names this_names_f this_readNames u_this_readNames_f this_namesMany u_this_readMany this_once this_lines this_facts this_pile this_state this_undos this_isMarked this_weight this_rounding this_lacks this_alikes this_g) := hD
        refine lv_aload_n (pc := 136) hx hb dX12_readPerson_136 rfl (lv_at hl 4 rfl) ?_
        refine va_get (pc := 137) (D := D) (ci := 10) (C := RX12) (T := TX12) (N := 30) hx hb hts hiX12 hown hG.1 hP 0 rfl rfl 15 (Nat.le_of_ble_eq_true rfl) (hts _ kw_1272) (fun _ h9 => h9) rfl dX12_readPerson_137 ?_
        refine lv_aload_n (pc := 140) hx hb dX12_readPerson_140 rfl (lv_at hl 4 rfl) ?_
        refine va_get (pc := 141) (D := D) (ci := 10) (C := RX12) (T := TX12) (N := 30) hx hb hts hiX12 hown hG.1 hP 0 rfl rfl 17 (Nat.le_of_ble_eq_true rfl) (hts _ kw_1274) (fun _ h9 => h9) rfl dX12_readPerson_141 ?_
        refine lv_lload_n (pc := 144) hx hb dX12_readPerson_144 rfl (lv_at hl 3 rfl) ?_
        obtain ⟨hin, hm⟩ := gd hm
        refine va_last (pc := 145) (D := D) hx hb hG.1 hP hD hS 7 1 rfl rfl hin dX12_readPerson_145 (fun H locs hP hD hS => ?_)
        have hP : va_P D vwCl (wd_X12_readPerson k this this_thrown this_tape this_taped this_size this_sort this_sort_f this_place this_place_f this_value this_value_f r9.2.1 r9.2.2 this_words this_words_f this_towns (upd (upd u_this_towns_f (35 + (3 * u_this_readMany)).toNatClampNeg r8.1) ((35 + (3 * u_this_readMany)) + 1).toNatClampNeg r9.1) this_op this_arg this_codes this_names this_names_f this_readNames (vp_updL u_this_readNames_f u_this_readMany.toNatClampNeg (this_value_f u_this_at.toNatClampNeg)) this_namesMany u_this_readMany this_once this_lines this_facts this_pile this_state this_undos this_isMarked this_weight this_rounding this_lacks this_alikes this_g) H := hP
        have hD : va_D A (wd_X12_readPerson k this this_thrown this_tape this_taped this_size this_sort this_sort_f this_place this_place_f this_value this_value_f r9.2.1 r9.2.2 this_words this_words_f this_towns (upd (upd u_this_towns_f (35 + (3 * u_this_readMany)).toNatClampNeg r8.1) ((35 + (3 * u_this_readMany)) + 1).toNatClampNeg r9.1) this_op this_arg this_codes this_names this_names_f this_readNames (vp_updL u_this_readNames_f u_this_readMany.toNatClampNeg (this_value_f u_this_at.toNatClampNeg)) this_namesMany u_this_readMany this_once this_lines this_facts this_pile this_state this_undos this_isMarked this_weight this_rounding this_lacks this_alikes this_g) := hD
        refine lv_aload_n (pc := 146) hx hb dX12_readPerson_146 rfl (lv_at hl 4 rfl) ?_
        refine lv_dup (pc := 147) hx hb dX12_readPerson_147 rfl ?_
        refine va_get (pc := 148) (D := D) (ci := 10) (C := RX12) (T := TX12) (N := 30) hx hb hts hiX12 hown hG.1 hP 0 rfl rfl 17 (Nat.le_of_ble_eq_true rfl) (hts _ kw_1274) (fun _ h9 => h9) rfl dX12_readPerson_148 ?_
        refine lv_iconst (v := 1) (pc := 151) hx hb dX12_readPerson_151 (by decide) ?_
        refine lv_iadd (pc := 152) hx hb dX12_readPerson_152 ?_
        refine va_put (pc := 153) (D := D) (ci := 10) (v := .int (u_this_readMany + 1)) (ty := .int) (C := RX12) (T := TX12) (N := 30) hx hb hts hiX12 tyX12 tyX12_ok nmX12 hown hG.1 hP hD hS 0 rfl rfl 17 (Nat.le_of_ble_eq_true rfl) (hts _ kw_1274) (fun _ h9 => h9) rfl (by decide +kernel) rfl rfl (Nat.le_of_ble_eq_true rfl) dX12_readPerson_153 (fun H locs hP hD hS => ?_)
        have hP : va_P D vwCl (wd_X12_readPerson k this this_thrown this_tape this_taped this_size this_sort this_sort_f this_place this_place_f this_value this_value_f r9.2.1 r9.2.2 this_words this_words_f this_towns (upd (upd u_this_towns_f (35 + (3 * u_this_readMany)).toNatClampNeg r8.1) ((35 + (3 * u_this_readMany)) + 1).toNatClampNeg r9.1) this_op this_arg this_codes this_names this_names_f this_readNames (vp_updL u_this_readNames_f u_this_readMany.toNatClampNeg (this_value_f u_this_at.toNatClampNeg)) this_namesMany (u_this_readMany + 1) this_once this_lines this_facts this_pile this_state this_undos this_isMarked this_weight this_rounding this_lacks this_alikes this_g) H := hP
        have hD : va_D A (wd_X12_readPerson k this this_thrown this_tape this_taped this_size this_sort this_sort_f this_place this_place_f this_value this_value_f r9.2.1 r9.2.2 this_words this_words_f this_towns (upd (upd u_this_towns_f (35 + (3 * u_this_readMany)).toNatClampNeg r8.1) ((35 + (3 * u_this_readMany)) + 1).toNatClampNeg r9.1) this_op this_arg this_codes this_names this_names_f this_readNames (vp_updL u_this_readNames_f u_this_readMany.toNatClampNeg (this_value_f u_this_at.toNatClampNeg)) this_namesMany (u_this_readMany + 1) this_once this_lines this_facts this_pile this_state this_undos this_isMarked this_weight this_rounding this_lacks this_alikes this_g) := hD
        refine lv_aload_n (pc := 156) hx hb dX12_readPerson_156 rfl (lv_at hl 4 rfl) ?_
        refine va_get (pc := 157) (D := D) (ci := 10) (C := RX12) (T := TX12) (N := 30) hx hb hts hiX12 hown hG.1 hP 0 rfl rfl 10 (Nat.le_of_ble_eq_true rfl) (hts _ kw_1267) (fun _ h9 => h9) rfl dX12_readPerson_157 ?_
        refine lv_bipush (v := 30) (pc := 160) hx hb dX12_readPerson_160 (by decide) ?_
        refine lv_aload_n (pc := 162) hx hb dX12_readPerson_162 rfl (lv_at hl 4 rfl) ?_
        refine va_get (pc := 163) (D := D) (ci := 10) (C := RX12) (T := TX12) (N := 30) hx hb hts hiX12 hown hG.1 hP 0 rfl rfl 17 (Nat.le_of_ble_eq_true rfl) (hts _ kw_1274) (fun _ h9 => h9) rfl dX12_readPerson_163 ?_
        refine va_iast (pc := 166) (D := D) hx hb hG.1 hP hD hS 5 0 rfl rfl (pn_in (Nat.le_of_ble_eq_true rfl) (Nat.le_of_ble_eq_true rfl)) dX12_readPerson_166 (fun H locs hP hD hS => ?_)
        have hP : va_P D vwCl (wd_X12_readPerson k this this_thrown this_tape this_taped this_size this_sort this_sort_f this_place this_place_f this_value this_value_f r9.2.1 r9.2.2 this_words this_words_f this_towns (upd (upd (upd u_this_towns_f (35 + (3 * u_this_readMany)).toNatClampNeg r8.1) ((35 + (3 * u_this_readMany)) + 1).toNatClampNeg r9.1) (30 : Int32).toNatClampNeg (u_this_readMany + 1)) this_op this_arg this_codes this_names this_names_f this_readNames (vp_updL u_this_readNames_f u_this_readMany.toNatClampNeg (this_value_f u_this_at.toNatClampNeg)) this_namesMany (u_this_readMany + 1) this_once this_lines this_facts this_pile this_state this_undos this_isMarked this_weight this_rounding this_lacks this_alikes this_g) H := hP
        have hD : va_D A (wd_X12_readPerson k this this_thrown this_tape this_taped this_size this_sort this_sort_f this_place this_place_f this_value this_value_f r9.2.1 r9.2.2 this_words this_words_f this_towns (upd (upd (upd u_this_towns_f (35 + (3 * u_this_readMany)).toNatClampNeg r8.1) ((35 + (3 * u_this_readMany)) + 1).toNatClampNeg r9.1) (30 : Int32).toNatClampNeg (u_this_readMany + 1)) this_op this_arg this_codes this_names this_names_f this_readNames (vp_updL u_this_readNames_f u_this_readMany.toNatClampNeg (this_value_f u_this_at.toNatClampNeg)) this_namesMany (u_this_readMany + 1) this_once this_lines this_facts this_pile this_state this_undos this_isMarked this_weight this_rounding this_lacks this_alikes this_g) := hD
        rw [← Option.some.inj hm]
        exact W.vret hx hb hr (fun t ht _ => hq _ _ H t ht hP hD locs hS) hS.2.2 dX12_readPerson_167 hlocks
    · rw [if_neg hc] at hm
      rw [← Option.some.inj hm]
      exact W.vret hx hb hr (fun t ht _ => hq _ _ H t ht hP hD locs hS) hS.2.2 dX12_readPerson_60 hlocks
  unfold m_X12_readPerson at hm
  suffices hgo : ∀ (H : Heap) (locs : List Loc), va_P D vwCl (wd_X12_readPerson k this this_thrown this_tape this_taped this_size this_sort this_sort_f this_place this_place_f this_value this_value_f this_at this_fault this_words this_words_f this_towns this_towns_f this_op this_arg this_codes this_names this_names_f this_readNames this_readNames_f this_namesMany this_readMany this_once this_lines this_facts this_pile this_state this_undos this_isMarked this_weight this_rounding this_lacks this_alikes this_g) H → va_D A (wd_X12_readPerson k this this_thrown this_tape this_taped this_size this_sort this_sort_f this_place this_place_f this_value this_value_f this_at this_fault this_words this_words_f this_towns this_towns_f this_op this_arg this_codes this_names this_names_f this_readNames this_readNames_f this_namesMany this_readMany this_once this_lines this_facts this_pile this_state this_undos this_isMarked this_weight this_rounding this_lacks this_alikes this_g) → va_S A s.heap H locs → W p l e (Rm 4 87) s m args below meth c H locs 0 0 (MQ below (QW D none (wd_X12_readPerson k this this_thrown this_tape this_taped this_size this_sort this_sort_f this_place this_place_f this_value this_value_f this_at this_fault this_words this_words_f this_towns this_towns_f this_op this_arg this_codes this_names this_names_f this_readNames this_readNames_f this_namesMany this_readMany this_once this_lines this_facts this_pile this_state this_undos this_isMarked this_weight this_rounding this_lacks this_alikes this_g) (wd_X12_readPerson k this this_thrown this_tape this_taped this_size this_sort this_sort_f this_place this_place_f this_value this_value_f R0.1 R0.2.1 this_words this_words_f this_towns R0.2.2.2.1 this_op this_arg this_codes this_names this_names_f this_readNames R0.2.2.2.2 this_namesMany R0.2.2.1 this_once this_lines this_facts this_pile this_state this_undos this_isMarked this_weight this_rounding this_lacks this_alikes this_g) s.heap.size) args s 0 0 A) (F0 m 0 ls []) from hgo _ _ hP hD hS
  clear hP hD hS
  intro H locs hP hD hS
  refine lv_aload_n (pc := 0) hx hb dX12_readPerson_0 rfl (lv_at hl 0 rfl) ?_
  refine va_get (pc := 1) (D := D) (ci := 10) (C := RX12) (T := TX12) (N := 30) hx hb hts hiX12 hown hG.1 hP 0 rfl rfl 17 (Nat.le_of_ble_eq_true rfl) (hts _ kw_1274) (fun _ h9 => h9) rfl dX12_readPerson_1 ?_
  refine lv_bipush (v := 6) (pc := 4) hx hb dX12_readPerson_4 (by decide) ?_
  refine lv_icmp_ne (tgt := 15) (pc := 6) hx hb dX12_readPerson_6 (by decide) (fun hc => ?_) (fun hc => ?_)
  · rw [if_neg hc] at hm
    refine lv_aload_n (pc := 15) hx hb dX12_readPerson_15 rfl (lv_at hl 0 rfl) ?_
    refine lv_dup (pc := 16) hx hb dX12_readPerson_16 rfl ?_
    refine va_get (pc := 17) (D := D) (ci := 10) (C := RX12) (T := TX12) (N := 30) hx hb hts hiX12 hown hG.1 hP 0 rfl rfl 7 (Nat.le_of_ble_eq_true rfl) (hts _ kw_1264) (fun _ h9 => h9) rfl dX12_readPerson_17 ?_
    refine lv_iconst (v := 1) (pc := 20) hx hb dX12_readPerson_20 (by decide) ?_
    refine lv_iadd (pc := 21) hx hb dX12_readPerson_21 ?_
    refine va_put (pc := 22) (D := D) (ci := 10) (v := .int (this_at + 1)) (ty := .int) (C := RX12) (T := TX12) (N := 30) hx hb hts hiX12 tyX12 tyX12_ok nmX12 hown hG.1 hP hD hS 0 rfl rfl 7 (Nat.le_of_ble_eq_true rfl) (hts _ kw_1264) (fun _ h9 => h9) rfl (by decide +kernel) rfl rfl (Nat.le_of_ble_eq_true rfl) dX12_readPerson_22 (fun H locs hP hD hS => ?_)
    have hP : va_P D vwCl (wd_X12_readPerson k this this_thrown this_tape this_taped this_size this_sort this_sort_f this_place this_place_f this_value this_value_f (this_at + 1) this_fault this_words this_words_f this_towns this_towns_f this_op this_arg this_codes this_names this_names_f this_readNames this_readNames_f this_namesMany this_readMany this_once this_lines this_facts this_pile this_state this_undos this_isMarked this_weight this_rounding this_lacks this_alikes this_g) H := hP
    have hD : va_D A (wd_X12_readPerson k this this_thrown this_tape this_taped this_size this_sort this_sort_f this_place this_place_f this_value this_value_f (this_at + 1) this_fault this_words this_words_f this_towns this_towns_f this_op this_arg this_codes this_names this_names_f this_readNames this_readNames_f this_namesMany this_readMany this_once this_lines this_facts this_pile this_state this_undos this_isMarked this_weight this_rounding this_lacks this_alikes this_g) := hD
    refine lv_aload_n (pc := 25) hx hb dX12_readPerson_25 rfl (lv_at hl 0 rfl) ?_
    obtain ⟨r10, hcl, hm⟩ := bd hm
    refine cr_back (run_V (pc := 26) (n := 0) (As := []) (rest := []) ⟨hx, hb, hml, hown, hts⟩ (c_X12_isName l D k this this_thrown this_tape this_taped this_size this_sort this_sort_f this_place this_value this_value_f (this_at + 1) this_fault this_words this_words_f this_towns this_op this_arg this_codes this_names this_readNames this_namesMany this_readMany this_once this_lines this_facts this_pile this_state this_undos this_isMarked this_weight this_rounding this_lacks this_alikes this_g r10 hcl) ⟨kw_1391, kw_16, by decide +kernel⟩ kw_1388 kw_1390 ks_104 ⟨Nat.le_of_ble_eq_true rfl, Nat.le_of_ble_eq_true rfl⟩ pr_blind (prR (hP.sub [0, 1, 3, 4] rfl) hG) (va_recv hG.1 hP (ci := 10) (q0 := 0) rfl rfl) rfl hl.1 rfl (Nat.le_of_ble_eq_true rfl) dX12_readPerson_26 ⟨Nat.zero_le _, Nat.zero_le _⟩) ?_
    refine lv_if_ne (tgt := 40) (pc := 29) hx hb dX12_readPerson_29 (by decide) (fun hc => ?_) (fun hc => ?_)
    · rw [if_neg hc] at hm
      refine lv_aload_n (pc := 40) hx hb dX12_readPerson_40 rfl (lv_at hl 0 rfl) ?_
      refine lv_iconst (v := 1) (pc := 41) hx hb dX12_readPerson_41 (by decide) ?_
      obtain ⟨r11, hcl, hm⟩ := bd hm
      refine cr_back (run_V (pc := 42) (n := 1) (As := [.int 1]) (rest := []) ⟨hx, hb, hml, hown, hts⟩ (c_X12_nameAt l D k this this_thrown this_tape this_taped this_size this_sort this_place this_value this_value_f (this_at + 1) this_fault this_words this_towns this_op this_arg this_codes this_names this_names_f this_readNames this_readNames_f this_namesMany this_readMany this_once this_lines this_facts this_pile this_state this_undos this_isMarked this_weight this_rounding this_lacks this_alikes this_g 1 r11 hcl) ⟨kw_1399, kw_16, by decide +kernel⟩ kw_1396 kw_1398 ks_106 ⟨Nat.le_of_ble_eq_true rfl, Nat.le_of_ble_eq_true rfl⟩ pr_blind (prR (hP.sub [0, 3, 6, 7] rfl) hG) (va_recv hG.1 hP (ci := 10) (q0 := 0) rfl rfl) rfl hl.1 rfl (Nat.le_of_ble_eq_true rfl) dX12_readPerson_42 ⟨Nat.zero_le _, Nat.zero_le _⟩) ?_
      refine lv_if_lt (tgt := 53) (pc := 45) hx hb dX12_readPerson_45 (by decide) (fun hc => ?_) (fun hc => ?_)
      · rw [if_pos hc] at hm
        exact h_53 (this_at + 1) this_fault this_readMany this_towns_f this_readNames_f H locs ls hP hD hS (lv_sub hl [0] rfl) hm
      · rw [if_neg hc] at hm
        refine lv_aload_n (pc := 48) hx hb dX12_readPerson_48 rfl (lv_at hl 0 rfl) ?_
        refine lv_iconst (v := 3) (pc := 49) hx hb dX12_readPerson_49 (by decide) ?_
        obtain ⟨r12, hcl, hm⟩ := bd hm
        refine cw_mask (ws' := (wd_X12_readPerson k this this_thrown this_tape this_taped this_size this_sort this_sort_f this_place this_place_f this_value this_value_f (this_at + 1) r12 this_words this_words_f this_towns this_towns_f this_op this_arg this_codes this_names this_names_f this_readNames this_readNames_f this_namesMany this_readMany this_once this_lines this_facts this_pile this_state this_undos this_isMarked this_weight this_rounding this_lacks this_alikes this_g)) (run_V (pc := 50) (n := 1) (As := [.int 3]) (rest := []) ⟨hx, hb, hml, hown, hts⟩ ((c_X12_wrong l D k this this_thrown this_tape this_taped this_size this_sort this_place this_place_f this_value (this_at + 1) this_fault this_words this_towns this_op this_arg this_codes this_names this_readNames this_namesMany this_readMany this_once this_lines this_facts this_pile this_state this_undos this_isMarked this_weight this_rounding this_lacks this_alikes this_g 3 r12 hcl) H.size) ⟨kw_1387, kw_16, by decide +kernel⟩ kw_1384 kw_1386 ks_103 ⟨Nat.le_of_ble_eq_true rfl, Nat.le_of_ble_eq_true rfl⟩ pw_blind (prW (P_pick [true, false, true] rfl hP) hG (D_pick [true, false, true] rfl hD)) (va_recv hG.1 hP (ci := 10) (q0 := 0) rfl rfl) rfl hl.1 rfl (Nat.le_of_ble_eq_true rfl) dX12_readPerson_50 ⟨Nat.zero_le _, Nat.zero_le _⟩) hP hD hS hA [true, false, true] rfl rfl rfl (fun H locs hP hD hS => ?_)
        exact h_53 (this_at + 1) r12 this_readMany this_towns_f this_readNames_f H locs ls hP hD hS (lv_sub hl [0] rfl) hm
    · rw [if_pos hc] at hm
      refine lv_aload_n (pc := 32) hx hb dX12_readPerson_32 rfl (lv_at hl 0 rfl) ?_
      refine lv_iconst (v := 1) (pc := 33) hx hb dX12_readPerson_33 (by decide) ?_
      obtain ⟨r13, hcl, hm⟩ := bd hm
      refine cw_mask (ws' := (wd_X12_readPerson k this this_thrown this_tape this_taped this_size this_sort this_sort_f this_place this_place_f this_value this_value_f (this_at + 1) r13 this_words this_words_f this_towns this_towns_f this_op this_arg this_codes this_names this_names_f this_readNames this_readNames_f this_namesMany this_readMany this_once this_lines this_facts this_pile this_state this_undos this_isMarked this_weight this_rounding this_lacks this_alikes this_g)) (run_V (pc := 34) (n := 1) (As := [.int 1]) (rest := []) ⟨hx, hb, hml, hown, hts⟩ ((c_X12_wrong l D k this this_thrown this_tape this_taped this_size this_sort this_place this_place_f this_value (this_at + 1) this_fault this_words this_towns this_op this_arg this_codes this_names this_readNames this_namesMany this_readMany this_once this_lines this_facts this_pile this_state this_undos this_isMarked this_weight this_rounding this_lacks this_alikes this_g 1 r13 hcl) H.size) ⟨kw_1387, kw_16, by decide +kernel⟩ kw_1384 kw_1386 ks_103 ⟨Nat.le_of_ble_eq_true rfl, Nat.le_of_ble_eq_true rfl⟩ pw_blind (prW (P_pick [true, false, true] rfl hP) hG (D_pick [true, false, true] rfl hD)) (va_recv hG.1 hP (ci := 10) (q0 := 0) rfl rfl) rfl hl.1 rfl (Nat.le_of_ble_eq_true rfl) dX12_readPerson_34 ⟨Nat.zero_le _, Nat.zero_le _⟩) hP hD hS hA [true, false, true] rfl rfl rfl (fun H locs hP hD hS => ?_)
      refine lv_goto (tgt := 53) (pc := 37) hx hb dX12_readPerson_37 (by decide) ?_
      exact h_53 (this_at + 1) r13 this_readMany this_towns_f this_readNames_f H locs ls hP hD hS (lv_sub hl [0] rfl) hm
  · rw [if_pos hc] at hm
    refine lv_aload_n (pc := 9) hx hb dX12_readPerson_9 rfl (lv_at hl 0 rfl) ?_
    refine lv_iconst (v := 5) (pc := 10) hx hb dX12_readPerson_10 (by decide) ?_
    obtain ⟨r14, hcl, hm⟩ := bd hm
    refine cw_mask (ws' := (wd_X12_readPerson k this this_thrown this_tape this_taped this_size this_sort this_sort_f this_place this_place_f this_value this_value_f this_at r14 this_words this_words_f this_towns this_towns_f this_op this_arg this_codes this_names this_names_f this_readNames this_readNames_f this_namesMany this_readMany this_once this_lines this_facts this_pile this_state this_undos this_isMarked this_weight this_rounding this_lacks this_alikes this_g)) (run_V (pc := 11) (n := 1) (As := [.int 5]) (rest := []) ⟨hx, hb, hml, hown, hts⟩ ((c_X12_wrong l D k this this_thrown this_tape this_taped this_size this_sort this_place this_place_f this_value this_at this_fault this_words this_towns this_op this_arg this_codes this_names this_readNames this_namesMany this_readMany this_once this_lines this_facts this_pile this_state this_undos this_isMarked this_weight this_rounding this_lacks this_alikes this_g 5 r14 hcl) H.size) ⟨kw_1387, kw_16, by decide +kernel⟩ kw_1384 kw_1386 ks_103 ⟨Nat.le_of_ble_eq_true rfl, Nat.le_of_ble_eq_true rfl⟩ pw_blind (prW (P_pick [true, false, true] rfl hP) hG (D_pick [true, false, true] rfl hD)) (va_recv hG.1 hP (ci := 10) (q0 := 0) rfl rfl) rfl hl.1 rfl (Nat.le_of_ble_eq_true rfl) dX12_readPerson_11 ⟨Nat.zero_le _, Nat.zero_le _⟩) hP hD hS hA [true, false, true] rfl rfl rfl (fun H locs hP hD hS => ?_)
    rw [← Option.some.inj hm]
    exact W.vret hx hb hr (fun t ht _ => hq _ _ H t ht hP hD locs hS) hS.2.2 dX12_readPerson_14 hlocks
theorem dX12_emit_0 : decode cX12_emit 0 = .ok (.aload_n 0, 1) := by decide +kernel
theorem dX12_emit_1 : decode cX12_emit 1 = .ok (.getfield 92, 3) := by decide +kernel
theorem dX12_emit_4 : decode cX12_emit 4 = .ok (.sipush 1100, 3) := by decide +kernel
theorem dX12_emit_7 : decode cX12_emit 7 = .ok (.aload_n 0, 1) := by decide +kernel
theorem dX12_emit_8 : decode cX12_emit 8 = .ok (.getfield 201, 3) := by decide +kernel
theorem dX12_emit_11 : decode cX12_emit 11 = .ok (.iadd, 1) := by decide +kernel
theorem dX12_emit_12 : decode cX12_emit 12 = .ok (.iload_n 1, 1) := by decide +kernel
theorem dX12_emit_13 : decode cX12_emit 13 = .ok (.iastore, 1) := by decide +kernel
theorem dX12_emit_14 : decode cX12_emit 14 = .ok (.aload_n 0, 1) := by decide +kernel
theorem dX12_emit_15 : decode cX12_emit 15 = .ok (.getfield 95, 3) := by decide +kernel
theorem dX12_emit_18 : decode cX12_emit 18 = .ok (.sipush 1100, 3) := by decide +kernel
theorem dX12_emit_21 : decode cX12_emit 21 = .ok (.aload_n 0, 1) := by decide +kernel
theorem dX12_emit_22 : decode cX12_emit 22 = .ok (.getfield 201, 3) := by decide +kernel
theorem dX12_emit_25 : decode cX12_emit 25 = .ok (.iadd, 1) := by decide +kernel
theorem dX12_emit_26 : decode cX12_emit 26 = .ok (.iload_n 2, 1) := by decide +kernel
theorem dX12_emit_27 : decode cX12_emit 27 = .ok (.iastore, 1) := by decide +kernel
theorem dX12_emit_28 : decode cX12_emit 28 = .ok (.aload_n 0, 1) := by decide +kernel
theorem dX12_emit_29 : decode cX12_emit 29 = .ok (.dup, 1) := by decide +kernel
theorem dX12_emit_30 : decode cX12_emit 30 = .ok (.getfield 201, 3) := by decide +kernel
theorem dX12_emit_33 : decode cX12_emit 33 = .ok (.iconst 1, 1) := by decide +kernel
theorem dX12_emit_34 : decode cX12_emit 34 = .ok (.iadd, 1) := by decide +kernel
theorem dX12_emit_35 : decode cX12_emit 35 = .ok (.putfield 201, 3) := by decide +kernel
theorem dX12_emit_38 : decode cX12_emit 38 = .ok (.return_, 1) := by decide +kernel
abbrev wd_X12_emit (k : Nat → ClassId) (this : Nat) (this_thrown : Int32) (this_tape : Nat) (this_taped : Int32) (this_size : Int32) (this_sort : Nat) (this_place : Nat) (this_value : Nat) (this_at : Int32) (this_fault : Int32) (this_words : Nat) (this_towns : Nat) (this_op : Nat) (this_op_f : Nat → Int32) (this_arg : Nat) (this_arg_f : Nat → Int32) (this_codes : Int32) (this_names : Nat) (this_readNames : Nat) (this_namesMany : Int32) (this_readMany : Int32) (this_once : Int32) (this_lines : Nat) (this_facts : Nat) (this_pile : Nat) (this_state : Nat) (this_undos : Int32) (this_isMarked : Nat) (this_weight : Int32) (this_rounding : Int32) (this_lacks : Nat) (this_alikes : Nat) (this_g : Int64) : va_W := [(this, .inr (10, [.int this_thrown, .ref this_tape, .int this_taped, .int this_size, .ref this_sort, .ref this_place, .ref this_value, .int this_at, .int this_fault, .ref this_words, .ref this_towns, .ref this_op, .ref this_arg, .int this_codes, .ref this_names, .ref this_readNames, .int this_namesMany, .int this_readMany, .int this_once, .ref this_lines, .ref this_facts, .ref this_pile, .ref this_state, .int this_undos, .ref this_isMarked, .int this_weight, .int this_rounding, .ref this_lacks, .ref this_alikes, .long this_g])), (this_op, .inl (k 0, 2200, .inl this_op_f)), (this_arg, .inl (k 0, 2200, .inl this_arg_f))]
set_option maxHeartbeats 4000000 in
set_option maxRecDepth 100000 in
theorem c_X12_emit (l : Launch) (D : va_G) (k : Nat → ClassId) (this : Nat) (this_thrown : Int32) (this_tape : Nat) (this_taped : Int32) (this_size : Int32) (this_sort : Nat) (this_place : Nat) (this_value : Nat) (this_at : Int32) (this_fault : Int32) (this_words : Nat) (this_towns : Nat) (this_op : Nat) (this_op_f : Nat → Int32) (this_arg : Nat) (this_arg_f : Nat → Int32) (this_codes : Int32) (this_names : Nat) (this_readNames : Nat) (this_namesMany : Int32) (this_readMany : Int32) (this_once : Int32) (this_lines : Nat) (this_facts : Nat) (this_pile : Nat) (this_state : Nat) (this_undos : Int32) (this_isMarked : Nat) (this_weight : Int32) (this_rounding : Int32) (this_lacks : Nat) (this_alikes : Nat) (this_g : Int64) (q1 : Int32) (q2 : Int32) (R0 : Int32 × (Nat → Int32) × (Nat → Int32)) (hm : m_X12_emit this_op_f this_arg_f this_codes q1 q2 = some R0) : CW l D (TY k) yX12_emit cX12_emit 3 none 0 0 [.ref this, .int q1, .int q2] (wd_X12_emit k this this_thrown this_tape this_taped this_size this_sort this_place this_value this_at this_fault this_words this_towns this_op this_op_f this_arg this_arg_f this_codes this_names this_readNames this_namesMany this_readMany this_once this_lines this_facts this_pile this_state this_undos this_isMarked this_weight this_rounding this_lacks this_alikes this_g) none (wd_X12_emit k this this_thrown this_tape this_taped this_size this_sort this_place this_value this_at this_fault this_words this_towns this_op R0.2.1 this_arg R0.2.2 R0.1 this_names this_readNames this_namesMany this_readMany this_once this_lines this_facts this_pile this_state this_undos this_isMarked this_weight this_rounding this_lacks this_alikes this_g) := by
  refine CW.mk (by decide) (Nat.le_of_ble_eq_true rfl) ?_
  intro p e s m args below meth c ls A ⟨hx, hb, hr, hts, hown, hlocks, hml⟩ hP hG hD hA hl hS hq
  have hl : lv_has ls 3 [(0, .ref this), (1, .int q1), (2, .int q2)] := hl
  unfold m_X12_emit at hm
  suffices hgo : ∀ (H : Heap) (locs : List Loc), va_P D vwCl (wd_X12_emit k this this_thrown this_tape this_taped this_size this_sort this_place this_value this_at this_fault this_words this_towns this_op this_op_f this_arg this_arg_f this_codes this_names this_readNames this_namesMany this_readMany this_once this_lines this_facts this_pile this_state this_undos this_isMarked this_weight this_rounding this_lacks this_alikes this_g) H → va_D A (wd_X12_emit k this this_thrown this_tape this_taped this_size this_sort this_place this_value this_at this_fault this_words this_towns this_op this_op_f this_arg this_arg_f this_codes this_names this_readNames this_namesMany this_readMany this_once this_lines this_facts this_pile this_state this_undos this_isMarked this_weight this_rounding this_lacks this_alikes this_g) → va_S A s.heap H locs → W p l e (Rm 0 0) s m args below meth c H locs 0 0 (MQ below (QW D none (wd_X12_emit k this this_thrown this_tape this_taped this_size this_sort this_place this_value this_at this_fault this_words this_towns this_op this_op_f this_arg this_arg_f this_codes this_names this_readNames this_namesMany this_readMany this_once this_lines this_facts this_pile this_state this_undos this_isMarked this_weight this_rounding this_lacks this_alikes this_g) (wd_X12_emit k this this_thrown this_tape this_taped this_size this_sort this_place this_value this_at this_fault this_words this_towns this_op R0.2.1 this_arg R0.2.2 R0.1 this_names this_readNames this_namesMany this_readMany this_once this_lines this_facts this_pile this_state this_undos this_isMarked this_weight this_rounding this_lacks this_alikes this_g) s.heap.size) args s 0 0 A) (F0 m 0 ls []) from hgo _ _ hP hD hS
  clear hP hD hS
  intro H locs hP hD hS
  refine lv_aload_n (pc := 0) hx hb dX12_emit_0 rfl (lv_at hl 0 rfl) ?_
  refine va_get (pc := 1) (D := D) (ci := 10) (C := RX12) (T := TX12) (N := 30) hx hb hts hiX12 hown hG.1 hP 0 rfl rfl 11 (Nat.le_of_ble_eq_true rfl) (hts _ kw_1268) (fun _ h9 => h9) rfl dX12_emit_1 ?_
  refine lv_sipush (v := 1100) (pc := 4) hx hb dX12_emit_4 (by decide) ?_
  refine lv_aload_n (pc := 7) hx hb dX12_emit_7 rfl (lv_at hl 0 rfl) ?_
  refine va_get (pc := 8) (D := D) (ci := 10) (C := RX12) (T := TX12) (N := 30) hx hb hts hiX12 hown hG.1 hP 0 rfl rfl 13 (Nat.le_of_ble_eq_true rfl) (hts _ kw_1270) (fun _ h9 => h9) rfl dX12_emit_8 ?_
  refine lv_iadd (pc := 11) hx hb dX12_emit_11 ?_
  refine lv_iload_n (pc := 12) hx hb dX12_emit_12 rfl (lv_at hl 1 rfl) ?_
  obtain ⟨hin, hm⟩ := gd hm
  refine va_iast (pc := 13) (D := D) hx hb hG.1 hP hD hS 1 0 rfl rfl hin dX12_emit_13 (fun H locs hP hD hS => ?_)
  have hP : va_P D vwCl (wd_X12_emit k this this_thrown this_tape this_taped this_size this_sort this_place this_value this_at this_fault this_words this_towns this_op (upd this_op_f (1100 + this_codes).toNatClampNeg q1) this_arg this_arg_f this_codes this_names this_readNames this_namesMany this_readMany this_once this_lines this_facts this_pile this_state this_undos this_isMarked this_weight this_rounding this_lacks this_alikes this_g) H := hP
  have hD : va_D A (wd_X12_emit k this this_thrown this_tape this_taped this_size this_sort this_place this_value this_at this_fault this_words this_towns this_op (upd this_op_f (1100 + this_codes).toNatClampNeg q1) this_arg this_arg_f this_codes this_names this_readNames this_namesMany this_readMany this_once this_lines this_facts this_pile this_state this_undos this_isMarked this_weight this_rounding this_lacks this_alikes this_g) := hD
  refine lv_aload_n (pc := 14) hx hb dX12_emit_14 rfl (lv_at hl 0 rfl) ?_
  refine va_get (pc := 15) (D := D) (ci := 10) (C := RX12) (T := TX12) (N := 30) hx hb hts hiX12 hown hG.1 hP 0 rfl rfl 12 (Nat.le_of_ble_eq_true rfl) (hts _ kw_1269) (fun _ h9 => h9) rfl dX12_emit_15 ?_
  refine lv_sipush (v := 1100) (pc := 18) hx hb dX12_emit_18 (by decide) ?_
  refine lv_aload_n (pc := 21) hx hb dX12_emit_21 rfl (lv_at hl 0 rfl) ?_
  refine va_get (pc := 22) (D := D) (ci := 10) (C := RX12) (T := TX12) (N := 30) hx hb hts hiX12 hown hG.1 hP 0 rfl rfl 13 (Nat.le_of_ble_eq_true rfl) (hts _ kw_1270) (fun _ h9 => h9) rfl dX12_emit_22 ?_
  refine lv_iadd (pc := 25) hx hb dX12_emit_25 ?_
  refine lv_iload_n (pc := 26) hx hb dX12_emit_26 rfl (lv_at hl 2 rfl) ?_
  obtain ⟨hin, hm⟩ := gd hm
  refine va_iast (pc := 27) (D := D) hx hb hG.1 hP hD hS 2 0 rfl rfl hin dX12_emit_27 (fun H locs hP hD hS => ?_)
  have hP : va_P D vwCl (wd_X12_emit k this this_thrown this_tape this_taped this_size this_sort this_place this_value this_at this_fault this_words this_towns this_op (upd this_op_f (1100 + this_codes).toNatClampNeg q1) this_arg (upd this_arg_f (1100 + this_codes).toNatClampNeg q2) this_codes this_names this_readNames this_namesMany this_readMany this_once this_lines this_facts this_pile this_state this_undos this_isMarked this_weight this_rounding this_lacks this_alikes this_g) H := hP
  have hD : va_D A (wd_X12_emit k this this_thrown this_tape this_taped this_size this_sort this_place this_value this_at this_fault this_words this_towns this_op (upd this_op_f (1100 + this_codes).toNatClampNeg q1) this_arg (upd this_arg_f (1100 + this_codes).toNatClampNeg q2) this_codes this_names this_readNames this_namesMany this_readMany this_once this_lines this_facts this_pile this_state this_undos this_isMarked this_weight this_rounding this_lacks this_alikes this_g) := hD
  refine lv_aload_n (pc := 28) hx hb dX12_emit_28 rfl (lv_at hl 0 rfl) ?_
  refine lv_dup (pc := 29) hx hb dX12_emit_29 rfl ?_
  refine va_get (pc := 30) (D := D) (ci := 10) (C := RX12) (T := TX12) (N := 30) hx hb hts hiX12 hown hG.1 hP 0 rfl rfl 13 (Nat.le_of_ble_eq_true rfl) (hts _ kw_1270) (fun _ h9 => h9) rfl dX12_emit_30 ?_
  refine lv_iconst (v := 1) (pc := 33) hx hb dX12_emit_33 (by decide) ?_
  refine lv_iadd (pc := 34) hx hb dX12_emit_34 ?_
  refine va_put (pc := 35) (D := D) (ci := 10) (v := .int (this_codes + 1)) (ty := .int) (C := RX12) (T := TX12) (N := 30) hx hb hts hiX12 tyX12 tyX12_ok nmX12 hown hG.1 hP hD hS 0 rfl rfl 13 (Nat.le_of_ble_eq_true rfl) (hts _ kw_1270) (fun _ h9 => h9) rfl (by decide +kernel) rfl rfl (Nat.le_of_ble_eq_true rfl) dX12_emit_35 (fun H locs hP hD hS => ?_)
  have hP : va_P D vwCl (wd_X12_emit k this this_thrown this_tape this_taped this_size this_sort this_place this_value this_at this_fault this_words this_towns this_op (upd this_op_f (1100 + this_codes).toNatClampNeg q1) this_arg (upd this_arg_f (1100 + this_codes).toNatClampNeg q2) (this_codes + 1) this_names this_readNames this_namesMany this_readMany this_once this_lines this_facts this_pile this_state this_undos this_isMarked this_weight this_rounding this_lacks this_alikes this_g) H := hP
  have hD : va_D A (wd_X12_emit k this this_thrown this_tape this_taped this_size this_sort this_place this_value this_at this_fault this_words this_towns this_op (upd this_op_f (1100 + this_codes).toNatClampNeg q1) this_arg (upd this_arg_f (1100 + this_codes).toNatClampNeg q2) (this_codes + 1) this_names this_readNames this_namesMany this_readMany this_once this_lines this_facts this_pile this_state this_undos this_isMarked this_weight this_rounding this_lacks this_alikes this_g) := hD
  rw [← Option.some.inj hm]
  exact W.vret hx hb hr (fun t ht _ => hq _ _ H t ht hP hD locs hS) hS.2.2 dX12_emit_38 hlocks
theorem dX12_year_0 : decode cX12_year 0 = .ok (.aload_n 0, 1) := by decide +kernel
theorem dX12_year_1 : decode cX12_year 1 = .ok (.iconst 0, 1) := by decide +kernel
theorem dX12_year_2 : decode cX12_year 2 = .ok (.putfield 1, 3) := by decide +kernel
theorem dX12_year_5 : decode cX12_year 5 = .ok (.aload_n 0, 1) := by decide +kernel
theorem dX12_year_6 : decode cX12_year 6 = .ok (.invokevirtual 198, 3) := by decide +kernel
theorem dX12_year_9 : decode cX12_year 9 = .ok (.iconst 0, 1) := by decide +kernel
theorem dX12_year_10 : decode cX12_year 10 = .ok (.istore_n 1, 1) := by decide +kernel
theorem dX12_year_11 : decode cX12_year 11 = .ok (.aload_n 0, 1) := by decide +kernel
theorem dX12_year_12 : decode cX12_year 12 = .ok (.getfield 159, 3) := by decide +kernel
theorem dX12_year_15 : decode cX12_year 15 = .ok (.ifCond .ne 155, 3) := by decide +kernel
theorem dX12_year_18 : decode cX12_year 18 = .ok (.aload_n 0, 1) := by decide +kernel
theorem dX12_year_19 : decode cX12_year 19 = .ok (.getfield 24, 3) := by decide +kernel
theorem dX12_year_22 : decode cX12_year 22 = .ok (.aload_n 0, 1) := by decide +kernel
theorem dX12_year_23 : decode cX12_year 23 = .ok (.getfield 156, 3) := by decide +kernel
theorem dX12_year_26 : decode cX12_year 26 = .ok (.iaload, 1) := by decide +kernel
theorem dX12_year_27 : decode cX12_year 27 = .ok (.ifCond .eq 143, 3) := by decide +kernel
theorem dX12_year_30 : decode cX12_year 30 = .ok (.aload_n 0, 1) := by decide +kernel
theorem dX12_year_31 : decode cX12_year 31 = .ok (.bipush 10, 2) := by decide +kernel
theorem dX12_year_33 : decode cX12_year 33 = .ok (.iconst 5, 1) := by decide +kernel
theorem dX12_year_34 : decode cX12_year 34 = .ok (.invokevirtual 181, 3) := by decide +kernel
theorem dX12_year_37 : decode cX12_year 37 = .ok (.istore_n 2, 1) := by decide +kernel
theorem dX12_year_38 : decode cX12_year 38 = .ok (.iload_n 2, 1) := by decide +kernel
theorem dX12_year_39 : decode cX12_year 39 = .ok (.ifCond .ge 11, 3) := by decide +kernel
theorem dX12_year_42 : decode cX12_year 42 = .ok (.aload_n 0, 1) := by decide +kernel
theorem dX12_year_43 : decode cX12_year 43 = .ok (.iconst 1, 1) := by decide +kernel
theorem dX12_year_44 : decode cX12_year 44 = .ok (.invokevirtual 165, 3) := by decide +kernel
theorem dX12_year_47 : decode cX12_year 47 = .ok (.goto 114, 3) := by decide +kernel
theorem dX12_year_50 : decode cX12_year 50 = .ok (.iload_n 1, 1) := by decide +kernel
theorem dX12_year_51 : decode cX12_year 51 = .ok (.bipush 40, 2) := by decide +kernel
theorem dX12_year_53 : decode cX12_year 53 = .ok (.if_icmp .ne 11, 3) := by decide +kernel
theorem dX12_year_56 : decode cX12_year 56 = .ok (.aload_n 0, 1) := by decide +kernel
theorem dX12_year_57 : decode cX12_year 57 = .ok (.iconst 5, 1) := by decide +kernel
theorem dX12_year_58 : decode cX12_year 58 = .ok (.invokevirtual 165, 3) := by decide +kernel
theorem dX12_year_61 : decode cX12_year 61 = .ok (.goto 100, 3) := by decide +kernel
theorem dX12_year_64 : decode cX12_year 64 = .ok (.aload_n 0, 1) := by decide +kernel
theorem dX12_year_65 : decode cX12_year 65 = .ok (.dup, 1) := by decide +kernel
theorem dX12_year_66 : decode cX12_year 66 = .ok (.getfield 156, 3) := by decide +kernel
theorem dX12_year_69 : decode cX12_year 69 = .ok (.iconst 1, 1) := by decide +kernel
theorem dX12_year_70 : decode cX12_year 70 = .ok (.iadd, 1) := by decide +kernel
theorem dX12_year_71 : decode cX12_year 71 = .ok (.putfield 156, 3) := by decide +kernel
theorem dX12_year_74 : decode cX12_year 74 = .ok (.bipush 125, 2) := by decide +kernel
theorem dX12_year_76 : decode cX12_year 76 = .ok (.iconst 3, 1) := by decide +kernel
theorem dX12_year_77 : decode cX12_year 77 = .ok (.iload_n 1, 1) := by decide +kernel
theorem dX12_year_78 : decode cX12_year 78 = .ok (.imul, 1) := by decide +kernel
theorem dX12_year_79 : decode cX12_year 79 = .ok (.iadd, 1) := by decide +kernel
theorem dX12_year_80 : decode cX12_year 80 = .ok (.istore_n 3, 1) := by decide +kernel
theorem dX12_year_81 : decode cX12_year 81 = .ok (.aload_n 0, 1) := by decide +kernel
theorem dX12_year_82 : decode cX12_year 82 = .ok (.getfield 104, 3) := by decide +kernel
theorem dX12_year_85 : decode cX12_year 85 = .ok (.iload_n 3, 1) := by decide +kernel
theorem dX12_year_86 : decode cX12_year 86 = .ok (.iload_n 2, 1) := by decide +kernel
theorem dX12_year_87 : decode cX12_year 87 = .ok (.iastore, 1) := by decide +kernel
theorem dX12_year_88 : decode cX12_year 88 = .ok (.aload_n 0, 1) := by decide +kernel
theorem dX12_year_89 : decode cX12_year 89 = .ok (.getfield 104, 3) := by decide +kernel
theorem dX12_year_92 : decode cX12_year 92 = .ok (.iload_n 3, 1) := by decide +kernel
theorem dX12_year_93 : decode cX12_year 93 = .ok (.iconst 1, 1) := by decide +kernel
theorem dX12_year_94 : decode cX12_year 94 = .ok (.iadd, 1) := by decide +kernel
theorem dX12_year_95 : decode cX12_year 95 = .ok (.iload_n 2, 1) := by decide +kernel
theorem dX12_year_96 : decode cX12_year 96 = .ok (.iconst 4, 1) := by decide +kernel
theorem dX12_year_97 : decode cX12_year 97 = .ok (.if_icmp .ge 12, 3) := by decide +kernel
theorem dX12_year_100 : decode cX12_year 100 = .ok (.aload_n 0, 1) := by decide +kernel
theorem dX12_year_101 : decode cX12_year 101 = .ok (.iconst 0, 1) := by decide +kernel
theorem dX12_year_102 : decode cX12_year 102 = .ok (.iconst 0, 1) := by decide +kernel
theorem dX12_year_103 : decode cX12_year 103 = .ok (.invokevirtual 216, 3) := by decide +kernel
theorem dX12_year_106 : decode cX12_year 106 = .ok (.goto 4, 3) := by decide +kernel
theorem dX12_year_109 : decode cX12_year 109 = .ok (.iconst 0, 1) := by decide +kernel
theorem dX12_year_110 : decode cX12_year 110 = .ok (.iastore, 1) := by decide +kernel
theorem dX12_year_111 : decode cX12_year 111 = .ok (.aload_n 0, 1) := by decide +kernel
theorem dX12_year_112 : decode cX12_year 112 = .ok (.getfield 104, 3) := by decide +kernel
theorem dX12_year_115 : decode cX12_year 115 = .ok (.iload_n 3, 1) := by decide +kernel
theorem dX12_year_116 : decode cX12_year 116 = .ok (.iconst 2, 1) := by decide +kernel
theorem dX12_year_117 : decode cX12_year 117 = .ok (.iadd, 1) := by decide +kernel
theorem dX12_year_118 : decode cX12_year 118 = .ok (.iload_n 2, 1) := by decide +kernel
theorem dX12_year_119 : decode cX12_year 119 = .ok (.iconst 2, 1) := by decide +kernel
theorem dX12_year_120 : decode cX12_year 120 = .ok (.if_icmp .ge 13, 3) := by decide +kernel
theorem dX12_year_123 : decode cX12_year 123 = .ok (.aload_n 0, 1) := by decide +kernel
theorem dX12_year_124 : decode cX12_year 124 = .ok (.iconst 1, 1) := by decide +kernel
theorem dX12_year_125 : decode cX12_year 125 = .ok (.bipush 20, 2) := by decide +kernel
theorem dX12_year_127 : decode cX12_year 127 = .ok (.invokevirtual 177, 3) := by decide +kernel
theorem dX12_year_130 : decode cX12_year 130 = .ok (.goto 27, 3) := by decide +kernel
theorem dX12_year_133 : decode cX12_year 133 = .ok (.iload_n 2, 1) := by decide +kernel
theorem dX12_year_134 : decode cX12_year 134 = .ok (.iconst 3, 1) := by decide +kernel
theorem dX12_year_135 : decode cX12_year 135 = .ok (.if_icmp .ne 21, 3) := by decide +kernel
theorem dX12_year_138 : decode cX12_year 138 = .ok (.aload_n 0, 1) := by decide +kernel
theorem dX12_year_139 : decode cX12_year 139 = .ok (.iconst 0, 1) := by decide +kernel
theorem dX12_year_140 : decode cX12_year 140 = .ok (.iconst 1, 1) := by decide +kernel
theorem dX12_year_141 : decode cX12_year 141 = .ok (.aload_n 0, 1) := by decide +kernel
theorem dX12_year_142 : decode cX12_year 142 = .ok (.getfield 104, 3) := by decide +kernel
theorem dX12_year_145 : decode cX12_year 145 = .ok (.iload_n 3, 1) := by decide +kernel
theorem dX12_year_146 : decode cX12_year 146 = .ok (.iconst 1, 1) := by decide +kernel
theorem dX12_year_147 : decode cX12_year 147 = .ok (.iadd, 1) := by decide +kernel
theorem dX12_year_148 : decode cX12_year 148 = .ok (.iaload, 1) := by decide +kernel
theorem dX12_year_149 : decode cX12_year 149 = .ok (.ishl, 1) := by decide +kernel
theorem dX12_year_150 : decode cX12_year 150 = .ok (.invokevirtual 216, 3) := by decide +kernel
theorem dX12_year_153 : decode cX12_year 153 = .ok (.goto 4, 3) := by decide +kernel
theorem dX12_year_156 : decode cX12_year 156 = .ok (.iconst 0, 1) := by decide +kernel
theorem dX12_year_157 : decode cX12_year 157 = .ok (.iastore, 1) := by decide +kernel
theorem dX12_year_158 : decode cX12_year 158 = .ok (.iinc 1 1, 3) := by decide +kernel
theorem dX12_year_161 : decode cX12_year 161 = .ok (.aload_n 0, 1) := by decide +kernel
theorem dX12_year_162 : decode cX12_year 162 = .ok (.bipush 59, 2) := by decide +kernel
theorem dX12_year_164 : decode cX12_year 164 = .ok (.invokevirtual 210, 3) := by decide +kernel
theorem dX12_year_167 : decode cX12_year 167 = .ok (.goto (-156), 3) := by decide +kernel
theorem dX12_year_170 : decode cX12_year 170 = .ok (.aload_n 0, 1) := by decide +kernel
theorem dX12_year_171 : decode cX12_year 171 = .ok (.getfield 159, 3) := by decide +kernel
theorem dX12_year_174 : decode cX12_year 174 = .ok (.ifCond .le 8, 3) := by decide +kernel
theorem dX12_year_177 : decode cX12_year 177 = .ok (.aload_n 0, 1) := by decide +kernel
theorem dX12_year_178 : decode cX12_year 178 = .ok (.getfield 159, 3) := by decide +kernel
theorem dX12_year_181 : decode cX12_year 181 = .ok (.ireturn, 1) := by decide +kernel
theorem dX12_year_182 : decode cX12_year 182 = .ok (.aload_n 0, 1) := by decide +kernel
theorem dX12_year_183 : decode cX12_year 183 = .ok (.getfield 104, 3) := by decide +kernel
theorem dX12_year_186 : decode cX12_year 186 = .ok (.iconst 0, 1) := by decide +kernel
theorem dX12_year_187 : decode cX12_year 187 = .ok (.iload_n 1, 1) := by decide +kernel
theorem dX12_year_188 : decode cX12_year 188 = .ok (.iastore, 1) := by decide +kernel
theorem dX12_year_189 : decode cX12_year 189 = .ok (.iconst 0, 1) := by decide +kernel
theorem dX12_year_190 : decode cX12_year 190 = .ok (.istore_n 2, 1) := by decide +kernel
theorem dX12_year_191 : decode cX12_year 191 = .ok (.iload_n 2, 1) := by decide +kernel
theorem dX12_year_192 : decode cX12_year 192 = .ok (.iconst 3, 1) := by decide +kernel
theorem dX12_year_193 : decode cX12_year 193 = .ok (.iload_n 1, 1) := by decide +kernel
theorem dX12_year_194 : decode cX12_year 194 = .ok (.imul, 1) := by decide +kernel
theorem dX12_year_195 : decode cX12_year 195 = .ok (.if_icmp .ge 26, 3) := by decide +kernel
theorem dX12_year_198 : decode cX12_year 198 = .ok (.aload_n 0, 1) := by decide +kernel
theorem dX12_year_199 : decode cX12_year 199 = .ok (.getfield 104, 3) := by decide +kernel
theorem dX12_year_202 : decode cX12_year 202 = .ok (.iconst 1, 1) := by decide +kernel
theorem dX12_year_203 : decode cX12_year 203 = .ok (.iload_n 2, 1) := by decide +kernel
theorem dX12_year_204 : decode cX12_year 204 = .ok (.iadd, 1) := by decide +kernel
theorem dX12_year_205 : decode cX12_year 205 = .ok (.aload_n 0, 1) := by decide +kernel
theorem dX12_year_206 : decode cX12_year 206 = .ok (.getfield 104, 3) := by decide +kernel
theorem dX12_year_209 : decode cX12_year 209 = .ok (.bipush 125, 2) := by decide +kernel
theorem dX12_year_211 : decode cX12_year 211 = .ok (.iload_n 2, 1) := by decide +kernel
theorem dX12_year_212 : decode cX12_year 212 = .ok (.iadd, 1) := by decide +kernel
theorem dX12_year_213 : decode cX12_year 213 = .ok (.iaload, 1) := by decide +kernel
theorem dX12_year_214 : decode cX12_year 214 = .ok (.iastore, 1) := by decide +kernel
theorem dX12_year_215 : decode cX12_year 215 = .ok (.iinc 2 1, 3) := by decide +kernel
theorem dX12_year_218 : decode cX12_year 218 = .ok (.goto (-27), 3) := by decide +kernel
theorem dX12_year_221 : decode cX12_year 221 = .ok (.iconst 0, 1) := by decide +kernel
theorem dX12_year_222 : decode cX12_year 222 = .ok (.ireturn, 1) := by decide +kernel
abbrev wd_X12_year (k : Nat → ClassId) (this : Nat) (this_thrown : Int32) (this_tape : Nat) (this_tape_f : Nat → Int32) (this_taped : Int32) (this_size : Int32) (this_sort : Nat) (this_sort_f : Nat → Int32) (this_place : Nat) (this_place_f : Nat → Int32) (this_value : Nat) (this_value_f : Nat → Int64) (this_at : Int32) (this_fault : Int32) (this_words : Nat) (this_words_f : Nat → Int64) (this_towns : Nat) (this_op : Nat) (this_arg : Nat) (this_codes : Int32) (this_names : Nat) (this_names_f : Nat → Int64) (this_readNames : Nat) (this_readNames_f : Nat → Int64) (this_namesMany : Int32) (this_readMany : Int32) (this_once : Int32) (this_lines : Nat) (this_lines_f : Nat → Int32) (this_facts : Nat) (this_pile : Nat) (this_state : Nat) (this_undos : Int32) (this_isMarked : Nat) (this_weight : Int32) (this_rounding : Int32) (this_lacks : Nat) (this_alikes : Nat) (this_g : Int64) : va_W := [(this, .inr (10, [.int this_thrown, .ref this_tape, .int this_taped, .int this_size, .ref this_sort, .ref this_place, .ref this_value, .int this_at, .int this_fault, .ref this_words, .ref this_towns, .ref this_op, .ref this_arg, .int this_codes, .ref this_names, .ref this_readNames, .int this_namesMany, .int this_readMany, .int this_once, .ref this_lines, .ref this_facts, .ref this_pile, .ref this_state, .int this_undos, .ref this_isMarked, .int this_weight, .int this_rounding, .ref this_lacks, .ref this_alikes, .long this_g])), (this_tape, .inl (k 0, 1000, .inl this_tape_f)), (this_sort, .inl (k 0, 1002, .inl this_sort_f)), (this_place, .inl (k 0, 1002, .inl this_place_f)), (this_value, .inl (k 1, 1002, .inr (.inl this_value_f))), (this_words, .inl (k 1, 26, .inr (.inl this_words_f))), (this_names, .inl (k 1, 6, .inr (.inl this_names_f))), (this_readNames, .inl (k 1, 6, .inr (.inl this_readNames_f))), (this_lines, .inl (k 0, 250, .inl this_lines_f))]
set_option maxHeartbeats 4000000 in
set_option maxRecDepth 100000 in
theorem c_X12_year (l : Launch) (D : va_G) (k : Nat → ClassId) (this : Nat) (this_thrown : Int32) (this_tape : Nat) (this_tape_f : Nat → Int32) (this_taped : Int32) (this_size : Int32) (this_sort : Nat) (this_sort_f : Nat → Int32) (this_place : Nat) (this_place_f : Nat → Int32) (this_value : Nat) (this_value_f : Nat → Int64) (this_at : Int32) (this_fault : Int32) (this_words : Nat) (this_words_f : Nat → Int64) (this_towns : Nat) (this_op : Nat) (this_arg : Nat) (this_codes : Int32) (this_names : Nat) (this_names_f : Nat → Int64) (this_readNames : Nat) (this_readNames_f : Nat → Int64) (this_namesMany : Int32) (this_readMany : Int32) (this_once : Int32) (this_lines : Nat) (this_lines_f : Nat → Int32) (this_facts : Nat) (this_pile : Nat) (this_state : Nat) (this_undos : Int32) (this_isMarked : Nat) (this_weight : Int32) (this_rounding : Int32) (this_lacks : Nat) (this_alikes : Nat) (this_g : Int64) (R0 : Int32 × Int32 × Int32 × Int32 × Int32 × Int32 × (Nat → Int32) × (Nat → Int32) × (Nat → Int64) × (Nat → Int32)) (hm : m_X12_year this_tape_f this_taped this_sort_f this_place_f this_value_f this_at this_fault this_words_f this_names_f this_readNames_f this_namesMany this_readMany this_lines_f = some R0) : CW l D (TY k) yX12_year cX12_year 4 (some .int) 4 88 [.ref this] (wd_X12_year k this this_thrown this_tape this_tape_f this_taped this_size this_sort this_sort_f this_place this_place_f this_value this_value_f this_at this_fault this_words this_words_f this_towns this_op this_arg this_codes this_names this_names_f this_readNames this_readNames_f this_namesMany this_readMany this_once this_lines this_lines_f this_facts this_pile this_state this_undos this_isMarked this_weight this_rounding this_lacks this_alikes this_g) (some (.int R0.1)) (wd_X12_year k this R0.2.1 this_tape this_tape_f R0.2.2.1 R0.2.2.2.1 this_sort R0.2.2.2.2.2.2.1 this_place R0.2.2.2.2.2.2.2.1 this_value R0.2.2.2.2.2.2.2.2.1 R0.2.2.2.2.1 R0.2.2.2.2.2.1 this_words this_words_f this_towns this_op this_arg this_codes this_names this_names_f this_readNames this_readNames_f this_namesMany this_readMany this_once this_lines R0.2.2.2.2.2.2.2.2.2 this_facts this_pile this_state this_undos this_isMarked this_weight this_rounding this_lacks this_alikes this_g) := by
  refine CW.mk (by decide) (Nat.le_of_ble_eq_true rfl) ?_
  intro p e s m args below meth c ls A ⟨hx, hb, hr, hts, hown, hlocks, hml⟩ hP hG hD hA hl hS hq
  have hl : lv_has ls 4 [(0, .ref this)] := hl
  have h_191 : ∀ (n : Nat), ∀ (x1 : Int32) (x2 : Int32) (u_this_thrown : Int32) (u_this_taped : Int32) (u_this_size : Int32) (u_this_at : Int32) (u_this_fault : Int32) (u_this_sort_f : Nat → Int32) (u_this_place_f : Nat → Int32) (u_this_value_f : Nat → Int64) (u_this_lines_f : Nat → Int32) (H : Heap) (locs : List Loc) (ls : Array Slot), va_P D vwCl (wd_X12_year k this u_this_thrown this_tape this_tape_f u_this_taped u_this_size this_sort u_this_sort_f this_place u_this_place_f this_value u_this_value_f u_this_at u_this_fault this_words this_words_f this_towns this_op this_arg this_codes this_names this_names_f this_readNames this_readNames_f this_namesMany this_readMany this_once this_lines u_this_lines_f this_facts this_pile this_state this_undos this_isMarked this_weight this_rounding this_lacks this_alikes this_g) H → va_D A (wd_X12_year k this u_this_thrown this_tape this_tape_f u_this_taped u_this_size this_sort u_this_sort_f this_place u_this_place_f this_value u_this_value_f u_this_at u_this_fault this_words this_words_f this_towns this_op this_arg this_codes this_names this_names_f this_readNames this_readNames_f this_namesMany this_readMany this_once this_lines u_this_lines_f this_facts this_pile this_state this_undos this_isMarked this_weight this_rounding this_lacks this_alikes this_g) → va_S A s.heap H locs → lv_has ls 4 [(0, .ref this), (1, .int x1), (2, .int x2)] → m_X12_year_191 this_tape_f this_words_f this_names_f this_readNames_f this_namesMany this_readMany n x1 x2 u_this_thrown u_this_taped u_this_size u_this_at u_this_fault u_this_sort_f u_this_place_f u_this_value_f u_this_lines_f = some R0 → W p l e (Rm 4 88) s m args below meth c H locs 0 0 (MQ below (QW D (some (.int R0.1)) (wd_X12_year k this this_thrown this_tape this_tape_f this_taped this_size this_sort this_sort_f this_place this_place_f this_value this_value_f this_at this_fault this_words this_words_f this_towns this_op this_arg this_codes this_names this_names_f this_readNames this_readNames_f this_namesMany this_readMany this_once this_lines this_lines_f this_facts this_pile this_state this_undos this_isMarked this_weight this_rounding this_lacks this_alikes this_g) (wd_X12_year k this R0.2.1 this_tape this_tape_f R0.2.2.1 R0.2.2.2.1 this_sort R0.2.2.2.2.2.2.1 this_place R0.2.2.2.2.2.2.2.1 this_value R0.2.2.2.2.2.2.2.2.1 R0.2.2.2.2.1 R0.2.2.2.2.2.1 this_words this_words_f this_towns this_op this_arg this_codes this_names this_names_f this_readNames this_readNames_f this_namesMany this_readMany this_once this_lines R0.2.2.2.2.2.2.2.2.2 this_facts this_pile this_state this_undos this_isMarked this_weight this_rounding this_lacks this_alikes this_g) s.heap.size) args s 0 0 A) (F0 m 191 ls []) := by
    intro n
    induction n with
    | zero => intro x1 x2 u_this_thrown u_this_taped u_this_size u_this_at u_this_fault u_this_sort_f u_this_place_f u_this_value_f u_this_lines_f H locs ls hP hD hS hl hm; cases hm
    | succ n ih =>
      intro x1 x2 u_this_thrown u_this_taped u_this_size u_this_at u_this_fault u_this_sort_f u_this_place_f u_this_value_f u_this_lines_f H locs ls hP hD hS hl hm
      unfold m_X12_year_191 at hm
      refine lv_iload_n (pc := 191) hx hb dX12_year_191 rfl (lv_at hl 2 rfl) ?_
      refine lv_iconst (v := 3) (pc := 192) hx hb dX12_year_192 (by decide) ?_
      refine lv_iload_n (pc := 193) hx hb dX12_year_193 rfl (lv_at hl 1 rfl) ?_
      refine lv_imul (pc := 194) hx hb dX12_year_194 ?_
      refine lv_icmp_ge (tgt := 221) (pc := 195) hx hb dX12_year_195 (by decide) (fun hc => ?_) (fun hc => ?_)
      · rw [if_pos hc] at hm
        refine lv_iconst (v := 0) (pc := 221) hx hb dX12_year_221 (by decide) ?_
        rw [← Option.some.inj hm]
        exact W.iret hx hb hr (fun t ht _ => hq _ _ H t ht hP hD locs hS) hS.2.2 dX12_year_222 hlocks
      · rw [if_neg hc] at hm
        refine lv_aload_n (pc := 198) hx hb dX12_year_198 rfl (lv_at hl 0 rfl) ?_
        refine va_get (pc := 199) (D := D) (ci := 10) (C := RX12) (T := TX12) (N := 30) hx hb hts hiX12 hown hG.1 hP 0 rfl rfl 19 (Nat.le_of_ble_eq_true rfl) (hts _ kw_1276) (fun _ h9 => h9) rfl dX12_year_199 ?_
        refine lv_iconst (v := 1) (pc := 202) hx hb dX12_year_202 (by decide) ?_
        refine lv_iload_n (pc := 203) hx hb dX12_year_203 rfl (lv_at hl 2 rfl) ?_
        refine lv_iadd (pc := 204) hx hb dX12_year_204 ?_
        refine lv_aload_n (pc := 205) hx hb dX12_year_205 rfl (lv_at hl 0 rfl) ?_
        refine va_get (pc := 206) (D := D) (ci := 10) (C := RX12) (T := TX12) (N := 30) hx hb hts hiX12 hown hG.1 hP 0 rfl rfl 19 (Nat.le_of_ble_eq_true rfl) (hts _ kw_1276) (fun _ h9 => h9) rfl dX12_year_206 ?_
        refine lv_bipush (v := 125) (pc := 209) hx hb dX12_year_209 (by decide) ?_
        refine lv_iload_n (pc := 211) hx hb dX12_year_211 rfl (lv_at hl 2 rfl) ?_
        refine lv_iadd (pc := 212) hx hb dX12_year_212 ?_
        obtain ⟨hin, hm⟩ := gd hm
        refine va_iald (pc := 213) (D := D) hx hb hG.1 hP 8 0 rfl rfl hin dX12_year_213 ?_
        obtain ⟨hin, hm⟩ := gd hm
        refine va_iast (pc := 214) (D := D) hx hb hG.1 hP hD hS 8 0 rfl rfl hin dX12_year_214 (fun H locs hP hD hS => ?_)
        have hP : va_P D vwCl (wd_X12_year k this u_this_thrown this_tape this_tape_f u_this_taped u_this_size this_sort u_this_sort_f this_place u_this_place_f this_value u_this_value_f u_this_at u_this_fault this_words this_words_f this_towns this_op this_arg this_codes this_names this_names_f this_readNames this_readNames_f this_namesMany this_readMany this_once this_lines (upd u_this_lines_f (1 + x2).toNatClampNeg (u_this_lines_f (125 + x2).toNatClampNeg)) this_facts this_pile this_state this_undos this_isMarked this_weight this_rounding this_lacks this_alikes this_g) H := hP
        have hD : va_D A (wd_X12_year k this u_this_thrown this_tape this_tape_f u_this_taped u_this_size this_sort u_this_sort_f this_place u_this_place_f this_value u_this_value_f u_this_at u_this_fault this_words this_words_f this_towns this_op this_arg this_codes this_names this_names_f this_readNames this_readNames_f this_namesMany this_readMany this_once this_lines (upd u_this_lines_f (1 + x2).toNatClampNeg (u_this_lines_f (125 + x2).toNatClampNeg)) this_facts this_pile this_state this_undos this_isMarked this_weight this_rounding this_lacks this_alikes this_g) := hD
        refine lv_iinc (k := 2) (v := x2 + 1) (lv' := [(2, .int (x2 + 1)), (0, .ref this), (1, .int x1)]) (pc := 215) hx hb dX12_year_215 hl rfl rfl (Nat.le_of_ble_eq_true rfl) rfl (fun ls hl => ?_)
        refine lv_goto (tgt := 191) (pc := 218) hx hb dX12_year_218 (by decide) ?_
        exact ih x1 (x2 + 1) u_this_thrown u_this_taped u_this_size u_this_at u_this_fault u_this_sort_f u_this_place_f u_this_value_f (upd u_this_lines_f (1 + x2).toNatClampNeg (u_this_lines_f (125 + x2).toNatClampNeg)) H locs ls hP hD hS (lv_sub hl [1, 2, 0] rfl) hm
  have h_170 : ∀ (x1 : Int32) (u_this_thrown : Int32) (u_this_taped : Int32) (u_this_size : Int32) (u_this_at : Int32) (u_this_fault : Int32) (u_this_sort_f : Nat → Int32) (u_this_place_f : Nat → Int32) (u_this_value_f : Nat → Int64) (u_this_lines_f : Nat → Int32) (H : Heap) (locs : List Loc) (ls : Array Slot), va_P D vwCl (wd_X12_year k this u_this_thrown this_tape this_tape_f u_this_taped u_this_size this_sort u_this_sort_f this_place u_this_place_f this_value u_this_value_f u_this_at u_this_fault this_words this_words_f this_towns this_op this_arg this_codes this_names this_names_f this_readNames this_readNames_f this_namesMany this_readMany this_once this_lines u_this_lines_f this_facts this_pile this_state this_undos this_isMarked this_weight this_rounding this_lacks this_alikes this_g) H → va_D A (wd_X12_year k this u_this_thrown this_tape this_tape_f u_this_taped u_this_size this_sort u_this_sort_f this_place u_this_place_f this_value u_this_value_f u_this_at u_this_fault this_words this_words_f this_towns this_op this_arg this_codes this_names this_names_f this_readNames this_readNames_f this_namesMany this_readMany this_once this_lines u_this_lines_f this_facts this_pile this_state this_undos this_isMarked this_weight this_rounding this_lacks this_alikes this_g) → va_S A s.heap H locs → lv_has ls 4 [(0, .ref this), (1, .int x1)] → m_X12_year_170 this_tape_f this_words_f this_names_f this_readNames_f this_namesMany this_readMany x1 u_this_thrown u_this_taped u_this_size u_this_at u_this_fault u_this_sort_f u_this_place_f u_this_value_f u_this_lines_f = some R0 → W p l e (Rm 4 88) s m args below meth c H locs 0 0 (MQ below (QW D (some (.int R0.1)) (wd_X12_year k this this_thrown this_tape this_tape_f this_taped this_size this_sort this_sort_f this_place this_place_f this_value this_value_f this_at this_fault this_words this_words_f this_towns this_op this_arg this_codes this_names this_names_f this_readNames this_readNames_f this_namesMany this_readMany this_once this_lines this_lines_f this_facts this_pile this_state this_undos this_isMarked this_weight this_rounding this_lacks this_alikes this_g) (wd_X12_year k this R0.2.1 this_tape this_tape_f R0.2.2.1 R0.2.2.2.1 this_sort R0.2.2.2.2.2.2.1 this_place R0.2.2.2.2.2.2.2.1 this_value R0.2.2.2.2.2.2.2.2.1 R0.2.2.2.2.1 R0.2.2.2.2.2.1 this_words this_words_f this_towns this_op this_arg this_codes this_names this_names_f this_readNames this_readNames_f this_namesMany this_readMany this_once this_lines R0.2.2.2.2.2.2.2.2.2 this_facts this_pile this_state this_undos this_isMarked this_weight this_rounding this_lacks this_alikes this_g) s.heap.size) args s 0 0 A) (F0 m 170 ls []) := by
    intro  x1 u_this_thrown u_this_taped u_this_size u_this_at u_this_fault u_this_sort_f u_this_place_f u_this_value_f u_this_lines_f H locs ls hP hD hS hl hm
    unfold m_X12_year_170 at hm
    refine lv_aload_n (pc := 170) hx hb dX12_year_170 rfl (lv_at hl 0 rfl) ?_
    refine va_get (pc := 171) (D := D) (ci := 10) (C := RX12) (T := TX12) (N := 30) hx hb hts hiX12 hown hG.1 hP 0 rfl rfl 8 (Nat.le_of_ble_eq_true rfl) (hts _ kw_1265) (fun _ h9 => h9) rfl dX12_year_171 ?_
    refine lv_if_le (tgt := 182) (pc := 174) hx hb dX12_year_174 (by decide) (fun hc => ?_) (fun hc => ?_)
    · rw [if_pos hc] at hm
      refine lv_aload_n (pc := 182) hx hb dX12_year_182 rfl (lv_at hl 0 rfl) ?_
      refine va_get (pc := 183) (D := D) (ci := 10) (C := RX12) (T := TX12) (N := 30) hx hb hts hiX12 hown hG.1 hP 0 rfl rfl 19 (Nat.le_of_ble_eq_true rfl) (hts _ kw_1276) (fun _ h9 => h9) rfl dX12_year_183 ?_
      refine lv_iconst (v := 0) (pc := 186) hx hb dX12_year_186 (by decide) ?_
      refine lv_iload_n (pc := 187) hx hb dX12_year_187 rfl (lv_at hl 1 rfl) ?_
      refine va_iast (pc := 188) (D := D) hx hb hG.1 hP hD hS 8 0 rfl rfl (pn_in (Nat.le_of_ble_eq_true rfl) (Nat.le_of_ble_eq_true rfl)) dX12_year_188 (fun H locs hP hD hS => ?_)
      have hP : va_P D vwCl (wd_X12_year k this u_this_thrown this_tape this_tape_f u_this_taped u_this_size this_sort u_this_sort_f this_place u_this_place_f this_value u_this_value_f u_this_at u_this_fault this_words this_words_f this_towns this_op this_arg this_codes this_names this_names_f this_readNames this_readNames_f this_namesMany this_readMany this_once this_lines (upd u_this_lines_f (0 : Int32).toNatClampNeg x1) this_facts this_pile this_state this_undos this_isMarked this_weight this_rounding this_lacks this_alikes this_g) H := hP
      have hD : va_D A (wd_X12_year k this u_this_thrown this_tape this_tape_f u_this_taped u_this_size this_sort u_this_sort_f this_place u_this_place_f this_value u_this_value_f u_this_at u_this_fault this_words this_words_f this_towns this_op this_arg this_codes this_names this_names_f this_readNames this_readNames_f this_namesMany this_readMany this_once this_lines (upd u_this_lines_f (0 : Int32).toNatClampNeg x1) this_facts this_pile this_state this_undos this_isMarked this_weight this_rounding this_lacks this_alikes this_g) := hD
      refine lv_iconst (v := 0) (pc := 189) hx hb dX12_year_189 (by decide) ?_
      refine lv_istore_n (lv' := [(2, .int 0), (0, .ref this), (1, .int x1)]) (pc := 190) hx hb dX12_year_190 rfl hl (Nat.le_of_ble_eq_true rfl) rfl (fun ls hl => ?_)
      exact h_191 FU x1 0 u_this_thrown u_this_taped u_this_size u_this_at u_this_fault u_this_sort_f u_this_place_f u_this_value_f (upd u_this_lines_f (0 : Int32).toNatClampNeg x1) H locs ls hP hD hS (lv_sub hl [1, 2, 0] rfl) hm
    · rw [if_neg hc] at hm
      refine lv_aload_n (pc := 177) hx hb dX12_year_177 rfl (lv_at hl 0 rfl) ?_
      refine va_get (pc := 178) (D := D) (ci := 10) (C := RX12) (T := TX12) (N := 30) hx hb hts hiX12 hown hG.1 hP 0 rfl rfl 8 (Nat.le_of_ble_eq_true rfl) (hts _ kw_1265) (fun _ h9 => h9) rfl dX12_year_178 ?_
      rw [← Option.some.inj hm]
      exact W.iret hx hb hr (fun t ht _ => hq _ _ H t ht hP hD locs hS) hS.2.2 dX12_year_181 hlocks
  have h_161 : ∀ (K11 : Int32 → Int32 → Int32 → Int32 → Int32 → Int32 → (Nat → Int32) → (Nat → Int32) → (Nat → Int64) → (Nat → Int32) → Option (Int32 × Int32 × Int32 × Int32 × Int32 × Int32 × (Nat → Int32) × (Nat → Int32) × (Nat → Int64) × (Nat → Int32))) (hK11 : ∀ (x1 : Int32) (u_this_thrown : Int32) (u_this_taped : Int32) (u_this_size : Int32) (u_this_at : Int32) (u_this_fault : Int32) (u_this_sort_f : Nat → Int32) (u_this_place_f : Nat → Int32) (u_this_value_f : Nat → Int64) (u_this_lines_f : Nat → Int32) (H : Heap) (locs : List Loc) (ls : Array Slot), va_P D vwCl (wd_X12_year k this u_this_thrown this_tape this_tape_f u_this_taped u_this_size this_sort u_this_sort_f this_place u_this_place_f this_value u_this_value_f u_this_at u_this_fault this_words this_words_f this_towns this_op this_arg this_codes this_names this_names_f this_readNames this_readNames_f this_namesMany this_readMany this_once this_lines u_this_lines_f this_facts this_pile this_state this_undos this_isMarked this_weight this_rounding this_lacks this_alikes this_g) H → va_D A (wd_X12_year k this u_this_thrown this_tape this_tape_f u_this_taped u_this_size this_sort u_this_sort_f this_place u_this_place_f this_value u_this_value_f u_this_at u_this_fault this_words this_words_f this_towns this_op this_arg this_codes this_names this_names_f this_readNames this_readNames_f this_namesMany this_readMany this_once this_lines u_this_lines_f this_facts this_pile this_state this_undos this_isMarked this_weight this_rounding this_lacks this_alikes this_g) → va_S A s.heap H locs → lv_has ls 4 [(0, .ref this), (1, .int x1)] → K11 x1 u_this_thrown u_this_taped u_this_size u_this_at u_this_fault u_this_sort_f u_this_place_f u_this_value_f u_this_lines_f = some R0 → W p l e (Rm 4 88) s m args below meth c H locs 0 0 (MQ below (QW D (some (.int R0.1)) (wd_X12_year k this this_thrown this_tape this_tape_f this_taped this_size this_sort this_sort_f this_place this_place_f this_value this_value_f this_at this_fault this_words this_words_f this_towns this_op this_arg this_codes this_names this_names_f this_readNames this_readNames_f this_namesMany this_readMany this_once this_lines this_lines_f this_facts this_pile this_state this_undos this_isMarked this_weight this_rounding this_lacks this_alikes this_g) (wd_X12_year k this R0.2.1 this_tape this_tape_f R0.2.2.1 R0.2.2.2.1 this_sort R0.2.2.2.2.2.2.1 this_place R0.2.2.2.2.2.2.2.1 this_value R0.2.2.2.2.2.2.2.2.1 R0.2.2.2.2.1 R0.2.2.2.2.2.1 this_words this_words_f this_towns this_op this_arg this_codes this_names this_names_f this_readNames this_readNames_f this_namesMany this_readMany this_once this_lines R0.2.2.2.2.2.2.2.2.2 this_facts this_pile this_state this_undos this_isMarked this_weight this_rounding this_lacks this_alikes this_g) s.heap.size) args s 0 0 A) (F0 m 11 ls [])), ∀ (x1 : Int32) (u_this_thrown : Int32) (u_this_taped : Int32) (u_this_size : Int32) (u_this_at : Int32) (u_this_fault : Int32) (u_this_sort_f : Nat → Int32) (u_this_place_f : Nat → Int32) (u_this_value_f : Nat → Int64) (u_this_lines_f : Nat → Int32) (H : Heap) (locs : List Loc) (ls : Array Slot), va_P D vwCl (wd_X12_year k this u_this_thrown this_tape this_tape_f u_this_taped u_this_size this_sort u_this_sort_f this_place u_this_place_f this_value u_this_value_f u_this_at u_this_fault this_words this_words_f this_towns this_op this_arg this_codes this_names this_names_f this_readNames this_readNames_f this_namesMany this_readMany this_once this_lines u_this_lines_f this_facts this_pile this_state this_undos this_isMarked this_weight this_rounding this_lacks this_alikes this_g) H → va_D A (wd_X12_year k this u_this_thrown this_tape this_tape_f u_this_taped u_this_size this_sort u_this_sort_f this_place u_this_place_f this_value u_this_value_f u_this_at u_this_fault this_words this_words_f this_towns this_op this_arg this_codes this_names this_names_f this_readNames this_readNames_f this_namesMany this_readMany this_once this_lines u_this_lines_f this_facts this_pile this_state this_undos this_isMarked this_weight this_rounding this_lacks this_alikes this_g) → va_S A s.heap H locs → lv_has ls 4 [(0, .ref this), (1, .int x1)] → m_X12_year_161 this_tape_f this_words_f this_names_f this_readNames_f this_namesMany this_readMany K11 x1 u_this_thrown u_this_taped u_this_size u_this_at u_this_fault u_this_sort_f u_this_place_f u_this_value_f u_this_lines_f = some R0 → W p l e (Rm 4 88) s m args below meth c H locs 0 0 (MQ below (QW D (some (.int R0.1)) (wd_X12_year k this this_thrown this_tape this_tape_f this_taped this_size this_sort this_sort_f this_place this_place_f this_value this_value_f this_at this_fault this_words this_words_f this_towns this_op this_arg this_codes this_names this_names_f this_readNames this_readNames_f this_namesMany this_readMany this_once this_lines this_lines_f this_facts this_pile this_state this_undos this_isMarked this_weight this_rounding this_lacks this_alikes this_g) (wd_X12_year k this R0.2.1 this_tape this_tape_f R0.2.2.1 R0.2.2.2.1 this_sort R0.2.2.2.2.2.2.1 this_place R0.2.2.2.2.2.2.2.1 this_value R0.2.2.2.2.2.2.2.2.1 R0.2.2.2.2.1 R0.2.2.2.2.2.1 this_words this_words_f this_towns this_op this_arg this_codes this_names this_names_f this_readNames this_readNames_f this_namesMany this_readMany this_once this_lines R0.2.2.2.2.2.2.2.2.2 this_facts this_pile this_state this_undos this_isMarked this_weight this_rounding this_lacks this_alikes this_g) s.heap.size) args s 0 0 A) (F0 m 161 ls []) := by
    intro K11 hK11 x1 u_this_thrown u_this_taped u_this_size u_this_at u_this_fault u_this_sort_f u_this_place_f u_this_value_f u_this_lines_f H locs ls hP hD hS hl hm
    unfold m_X12_year_161 at hm
    refine lv_aload_n (pc := 161) hx hb dX12_year_161 rfl (lv_at hl 0 rfl) ?_
    refine lv_bipush (v := 59) (pc := 162) hx hb dX12_year_162 (by decide) ?_
    obtain ⟨r9, hcl, hm⟩ := bd hm
    refine cw_mask (ws' := (wd_X12_year k this u_this_thrown this_tape this_tape_f u_this_taped u_this_size this_sort u_this_sort_f this_place u_this_place_f this_value u_this_value_f r9.1 r9.2 this_words this_words_f this_towns this_op this_arg this_codes this_names this_names_f this_readNames this_readNames_f this_namesMany this_readMany this_once this_lines u_this_lines_f this_facts this_pile this_state this_undos this_isMarked this_weight this_rounding this_lacks this_alikes this_g)) (run_V (pc := 164) (n := 1) (As := [.int 59]) (rest := []) ⟨hx, hb, hml, hown, hts⟩ ((c_X12_takeSign l D k this u_this_thrown this_tape u_this_taped u_this_size this_sort u_this_sort_f this_place u_this_place_f this_value u_this_value_f u_this_at u_this_fault this_words this_towns this_op this_arg this_codes this_names this_readNames this_namesMany this_readMany this_once this_lines this_facts this_pile this_state this_undos this_isMarked this_weight this_rounding this_lacks this_alikes this_g 59 r9 hcl) H.size) ⟨kw_1463, kw_16, by decide +kernel⟩ kw_1460 kw_1462 ks_122 ⟨Nat.le_of_ble_eq_true rfl, Nat.le_of_ble_eq_true rfl⟩ pw_blind (prW (P_pick [true, false, true, true, true] rfl hP) hG (D_pick [true, false, true, true, true] rfl hD)) (va_recv hG.1 hP (ci := 10) (q0 := 0) rfl rfl) rfl hl.1 rfl (Nat.le_of_ble_eq_true rfl) dX12_year_164 ⟨Nat.zero_le _, Nat.zero_le _⟩) hP hD hS hA [true, false, true, true, true] rfl rfl rfl (fun H locs hP hD hS => ?_)
    refine lv_goto (tgt := 11) (pc := 167) hx hb dX12_year_167 (by decide) ?_
    exact hK11 x1 u_this_thrown u_this_taped u_this_size r9.1 r9.2 u_this_sort_f u_this_place_f u_this_value_f u_this_lines_f H locs ls hP hD hS (lv_sub hl [0, 1] rfl) hm
  have h_157 : ∀ (K11 : Int32 → Int32 → Int32 → Int32 → Int32 → Int32 → (Nat → Int32) → (Nat → Int32) → (Nat → Int64) → (Nat → Int32) → Option (Int32 × Int32 × Int32 × Int32 × Int32 × Int32 × (Nat → Int32) × (Nat → Int32) × (Nat → Int64) × (Nat → Int32))) (hK11 : ∀ (x1 : Int32) (u_this_thrown : Int32) (u_this_taped : Int32) (u_this_size : Int32) (u_this_at : Int32) (u_this_fault : Int32) (u_this_sort_f : Nat → Int32) (u_this_place_f : Nat → Int32) (u_this_value_f : Nat → Int64) (u_this_lines_f : Nat → Int32) (H : Heap) (locs : List Loc) (ls : Array Slot), va_P D vwCl (wd_X12_year k this u_this_thrown this_tape this_tape_f u_this_taped u_this_size this_sort u_this_sort_f this_place u_this_place_f this_value u_this_value_f u_this_at u_this_fault this_words this_words_f this_towns this_op this_arg this_codes this_names this_names_f this_readNames this_readNames_f this_namesMany this_readMany this_once this_lines u_this_lines_f this_facts this_pile this_state this_undos this_isMarked this_weight this_rounding this_lacks this_alikes this_g) H → va_D A (wd_X12_year k this u_this_thrown this_tape this_tape_f u_this_taped u_this_size this_sort u_this_sort_f this_place u_this_place_f this_value u_this_value_f u_this_at u_this_fault this_words this_words_f this_towns this_op this_arg this_codes this_names this_names_f this_readNames this_readNames_f this_namesMany this_readMany this_once this_lines u_this_lines_f this_facts this_pile this_state this_undos this_isMarked this_weight this_rounding this_lacks this_alikes this_g) → va_S A s.heap H locs → lv_has ls 4 [(0, .ref this), (1, .int x1)] → K11 x1 u_this_thrown u_this_taped u_this_size u_this_at u_this_fault u_this_sort_f u_this_place_f u_this_value_f u_this_lines_f = some R0 → W p l e (Rm 4 88) s m args below meth c H locs 0 0 (MQ below (QW D (some (.int R0.1)) (wd_X12_year k this this_thrown this_tape this_tape_f this_taped this_size this_sort this_sort_f this_place this_place_f this_value this_value_f this_at this_fault this_words this_words_f this_towns this_op this_arg this_codes this_names this_names_f this_readNames this_readNames_f this_namesMany this_readMany this_once this_lines this_lines_f this_facts this_pile this_state this_undos this_isMarked this_weight this_rounding this_lacks this_alikes this_g) (wd_X12_year k this R0.2.1 this_tape this_tape_f R0.2.2.1 R0.2.2.2.1 this_sort R0.2.2.2.2.2.2.1 this_place R0.2.2.2.2.2.2.2.1 this_value R0.2.2.2.2.2.2.2.2.1 R0.2.2.2.2.1 R0.2.2.2.2.2.1 this_words this_words_f this_towns this_op this_arg this_codes this_names this_names_f this_readNames this_readNames_f this_namesMany this_readMany this_once this_lines R0.2.2.2.2.2.2.2.2.2 this_facts this_pile this_state this_undos this_isMarked this_weight this_rounding this_lacks this_alikes this_g) s.heap.size) args s 0 0 A) (F0 m 11 ls [])), ∀ (x1 : Int32) (t0 : Int32) (t1 : Int32) (u_this_thrown : Int32) (u_this_taped : Int32) (u_this_size : Int32) (u_this_at : Int32) (u_this_fault : Int32) (u_this_sort_f : Nat → Int32) (u_this_place_f : Nat → Int32) (u_this_value_f : Nat → Int64) (u_this_lines_f : Nat → Int32) (H : Heap) (locs : List Loc) (ls : Array Slot), va_P D vwCl (wd_X12_year k this u_this_thrown this_tape this_tape_f u_this_taped u_this_size this_sort u_this_sort_f this_place u_this_place_f this_value u_this_value_f u_this_at u_this_fault this_words this_words_f this_towns this_op this_arg this_codes this_names this_names_f this_readNames this_readNames_f this_namesMany this_readMany this_once this_lines u_this_lines_f this_facts this_pile this_state this_undos this_isMarked this_weight this_rounding this_lacks this_alikes this_g) H → va_D A (wd_X12_year k this u_this_thrown this_tape this_tape_f u_this_taped u_this_size this_sort u_this_sort_f this_place u_this_place_f this_value u_this_value_f u_this_at u_this_fault this_words this_words_f this_towns this_op this_arg this_codes this_names this_names_f this_readNames this_readNames_f this_namesMany this_readMany this_once this_lines u_this_lines_f this_facts this_pile this_state this_undos this_isMarked this_weight this_rounding this_lacks this_alikes this_g) → va_S A s.heap H locs → lv_has ls 4 [(0, .ref this), (1, .int x1)] → m_X12_year_157 this_tape_f this_words_f this_names_f this_readNames_f this_namesMany this_readMany K11 x1 t0 t1 u_this_thrown u_this_taped u_this_size u_this_at u_this_fault u_this_sort_f u_this_place_f u_this_value_f u_this_lines_f = some R0 → W p l e (Rm 4 88) s m args below meth c H locs 0 0 (MQ below (QW D (some (.int R0.1)) (wd_X12_year k this this_thrown this_tape this_tape_f this_taped this_size this_sort this_sort_f this_place this_place_f this_value this_value_f this_at this_fault this_words this_words_f this_towns this_op this_arg this_codes this_names this_names_f this_readNames this_readNames_f this_namesMany this_readMany this_once this_lines this_lines_f this_facts this_pile this_state this_undos this_isMarked this_weight this_rounding this_lacks this_alikes this_g) (wd_X12_year k this R0.2.1 this_tape this_tape_f R0.2.2.1 R0.2.2.2.1 this_sort R0.2.2.2.2.2.2.1 this_place R0.2.2.2.2.2.2.2.1 this_value R0.2.2.2.2.2.2.2.2.1 R0.2.2.2.2.1 R0.2.2.2.2.2.1 this_words this_words_f this_towns this_op this_arg this_codes this_names this_names_f this_readNames this_readNames_f this_namesMany this_readMany this_once this_lines R0.2.2.2.2.2.2.2.2.2 this_facts this_pile this_state this_undos this_isMarked this_weight this_rounding this_lacks this_alikes this_g) s.heap.size) args s 0 0 A) (F0 m 157 ls [.int t0, .int t1, .ref this_lines]) := by
    intro K11 hK11 x1 t0 t1 u_this_thrown u_this_taped u_this_size u_this_at u_this_fault u_this_sort_f u_this_place_f u_this_value_f u_this_lines_f H locs ls hP hD hS hl hm
    unfold m_X12_year_157 at hm
    obtain ⟨hin, hm⟩ := gd hm
    refine va_iast (pc := 157) (D := D) hx hb hG.1 hP hD hS 8 0 rfl rfl hin dX12_year_157 (fun H locs hP hD hS => ?_)
    have hP : va_P D vwCl (wd_X12_year k this u_this_thrown this_tape this_tape_f u_this_taped u_this_size this_sort u_this_sort_f this_place u_this_place_f this_value u_this_value_f u_this_at u_this_fault this_words this_words_f this_towns this_op this_arg this_codes this_names this_names_f this_readNames this_readNames_f this_namesMany this_readMany this_once this_lines (upd u_this_lines_f t1.toNatClampNeg t0) this_facts this_pile this_state this_undos this_isMarked this_weight this_rounding this_lacks this_alikes this_g) H := hP
    have hD : va_D A (wd_X12_year k this u_this_thrown this_tape this_tape_f u_this_taped u_this_size this_sort u_this_sort_f this_place u_this_place_f this_value u_this_value_f u_this_at u_this_fault this_words this_words_f this_towns this_op this_arg this_codes this_names this_names_f this_readNames this_readNames_f this_namesMany this_readMany this_once this_lines (upd u_this_lines_f t1.toNatClampNeg t0) this_facts this_pile this_state this_undos this_isMarked this_weight this_rounding this_lacks this_alikes this_g) := hD
    refine lv_iinc (k := 1) (v := x1 + 1) (lv' := [(1, .int (x1 + 1)), (0, .ref this)]) (pc := 158) hx hb dX12_year_158 hl rfl rfl (Nat.le_of_ble_eq_true rfl) rfl (fun ls hl => ?_)
    exact h_161 K11 hK11 (x1 + 1) u_this_thrown u_this_taped u_this_size u_this_at u_this_fault u_this_sort_f u_this_place_f u_this_value_f (upd u_this_lines_f t1.toNatClampNeg t0) H locs ls hP hD hS (lv_sub hl [1, 0] rfl) hm
  have h_110 : ∀ (K11 : Int32 → Int32 → Int32 → Int32 → Int32 → Int32 → (Nat → Int32) → (Nat → Int32) → (Nat → Int64) → (Nat → Int32) → Option (Int32 × Int32 × Int32 × Int32 × Int32 × Int32 × (Nat → Int32) × (Nat → Int32) × (Nat → Int64) × (Nat → Int32))) (hK11 : ∀ (x1 : Int32) (u_this_thrown : Int32) (u_this_taped : Int32) (u_this_size : Int32) (u_this_at : Int32) (u_this_fault : Int32) (u_this_sort_f : Nat → Int32) (u_this_place_f : Nat → Int32) (u_this_value_f : Nat → Int64) (u_this_lines_f : Nat → Int32) (H : Heap) (locs : List Loc) (ls : Array Slot), va_P D vwCl (wd_X12_year k this u_this_thrown this_tape this_tape_f u_this_taped u_this_size this_sort u_this_sort_f this_place u_this_place_f this_value u_this_value_f u_this_at u_this_fault this_words this_words_f this_towns this_op this_arg this_codes this_names this_names_f this_readNames this_readNames_f this_namesMany this_readMany this_once this_lines u_this_lines_f this_facts this_pile this_state this_undos this_isMarked this_weight this_rounding this_lacks this_alikes this_g) H → va_D A (wd_X12_year k this u_this_thrown this_tape this_tape_f u_this_taped u_this_size this_sort u_this_sort_f this_place u_this_place_f this_value u_this_value_f u_this_at u_this_fault this_words this_words_f this_towns this_op this_arg this_codes this_names this_names_f this_readNames this_readNames_f this_namesMany this_readMany this_once this_lines u_this_lines_f this_facts this_pile this_state this_undos this_isMarked this_weight this_rounding this_lacks this_alikes this_g) → va_S A s.heap H locs → lv_has ls 4 [(0, .ref this), (1, .int x1)] → K11 x1 u_this_thrown u_this_taped u_this_size u_this_at u_this_fault u_this_sort_f u_this_place_f u_this_value_f u_this_lines_f = some R0 → W p l e (Rm 4 88) s m args below meth c H locs 0 0 (MQ below (QW D (some (.int R0.1)) (wd_X12_year k this this_thrown this_tape this_tape_f this_taped this_size this_sort this_sort_f this_place this_place_f this_value this_value_f this_at this_fault this_words this_words_f this_towns this_op this_arg this_codes this_names this_names_f this_readNames this_readNames_f this_namesMany this_readMany this_once this_lines this_lines_f this_facts this_pile this_state this_undos this_isMarked this_weight this_rounding this_lacks this_alikes this_g) (wd_X12_year k this R0.2.1 this_tape this_tape_f R0.2.2.1 R0.2.2.2.1 this_sort R0.2.2.2.2.2.2.1 this_place R0.2.2.2.2.2.2.2.1 this_value R0.2.2.2.2.2.2.2.2.1 R0.2.2.2.2.1 R0.2.2.2.2.2.1 this_words this_words_f this_towns this_op this_arg this_codes this_names this_names_f this_readNames this_readNames_f this_namesMany this_readMany this_once this_lines R0.2.2.2.2.2.2.2.2.2 this_facts this_pile this_state this_undos this_isMarked this_weight this_rounding this_lacks this_alikes this_g) s.heap.size) args s 0 0 A) (F0 m 11 ls [])), ∀ (x1 : Int32) (x2 : Int32) (x3 : Int32) (t0 : Int32) (t1 : Int32) (u_this_thrown : Int32) (u_this_taped : Int32) (u_this_size : Int32) (u_this_at : Int32) (u_this_fault : Int32) (u_this_sort_f : Nat → Int32) (u_this_place_f : Nat → Int32) (u_this_value_f : Nat → Int64) (u_this_lines_f : Nat → Int32) (H : Heap) (locs : List Loc) (ls : Array Slot), va_P D vwCl (wd_X12_year k this u_this_thrown this_tape this_tape_f u_this_taped u_this_size this_sort u_this_sort_f this_place u_this_place_f this_value u_this_value_f u_this_at u_this_fault this_words this_words_f this_towns this_op this_arg this_codes this_names this_names_f this_readNames this_readNames_f this_namesMany this_readMany this_once this_lines u_this_lines_f this_facts this_pile this_state this_undos this_isMarked this_weight this_rounding this_lacks this_alikes this_g) H → va_D A (wd_X12_year k this u_this_thrown this_tape this_tape_f u_this_taped u_this_size this_sort u_this_sort_f this_place u_this_place_f this_value u_this_value_f u_this_at u_this_fault this_words this_words_f this_towns this_op this_arg this_codes this_names this_names_f this_readNames this_readNames_f this_namesMany this_readMany this_once this_lines u_this_lines_f this_facts this_pile this_state this_undos this_isMarked this_weight this_rounding this_lacks this_alikes this_g) → va_S A s.heap H locs → lv_has ls 4 [(0, .ref this), (1, .int x1), (2, .int x2), (3, .int x3)] → m_X12_year_110 this_tape_f this_words_f this_names_f this_readNames_f this_namesMany this_readMany K11 x1 x2 x3 t0 t1 u_this_thrown u_this_taped u_this_size u_this_at u_this_fault u_this_sort_f u_this_place_f u_this_value_f u_this_lines_f = some R0 → W p l e (Rm 4 88) s m args below meth c H locs 0 0 (MQ below (QW D (some (.int R0.1)) (wd_X12_year k this this_thrown this_tape this_tape_f this_taped this_size this_sort this_sort_f this_place this_place_f this_value this_value_f this_at this_fault this_words this_words_f this_towns this_op this_arg this_codes this_names this_names_f this_readNames this_readNames_f this_namesMany this_readMany this_once this_lines this_lines_f this_facts this_pile this_state this_undos this_isMarked this_weight this_rounding this_lacks this_alikes this_g) (wd_X12_year k this R0.2.1 this_tape this_tape_f R0.2.2.1 R0.2.2.2.1 this_sort R0.2.2.2.2.2.2.1 this_place R0.2.2.2.2.2.2.2.1 this_value R0.2.2.2.2.2.2.2.2.1 R0.2.2.2.2.1 R0.2.2.2.2.2.1 this_words this_words_f this_towns this_op this_arg this_codes this_names this_names_f this_readNames this_readNames_f this_namesMany this_readMany this_once this_lines R0.2.2.2.2.2.2.2.2.2 this_facts this_pile this_state this_undos this_isMarked this_weight this_rounding this_lacks this_alikes this_g) s.heap.size) args s 0 0 A) (F0 m 110 ls [.int t0, .int t1, .ref this_lines]) := by
    intro K11 hK11 x1 x2 x3 t0 t1 u_this_thrown u_this_taped u_this_size u_this_at u_this_fault u_this_sort_f u_this_place_f u_this_value_f u_this_lines_f H locs ls hP hD hS hl hm
    unfold m_X12_year_110 at hm
    obtain ⟨hin, hm⟩ := gd hm
    refine va_iast (pc := 110) (D := D) hx hb hG.1 hP hD hS 8 0 rfl rfl hin dX12_year_110 (fun H locs hP hD hS => ?_)
    have hP : va_P D vwCl (wd_X12_year k this u_this_thrown this_tape this_tape_f u_this_taped u_this_size this_sort u_this_sort_f this_place u_this_place_f this_value u_this_value_f u_this_at u_this_fault this_words this_words_f this_towns this_op this_arg this_codes this_names this_names_f this_readNames this_readNames_f this_namesMany this_readMany this_once this_lines (upd u_this_lines_f t1.toNatClampNeg t0) this_facts this_pile this_state this_undos this_isMarked this_weight this_rounding this_lacks this_alikes this_g) H := hP
    have hD : va_D A (wd_X12_year k this u_this_thrown this_tape this_tape_f u_this_taped u_this_size this_sort u_this_sort_f this_place u_this_place_f this_value u_this_value_f u_this_at u_this_fault this_words this_words_f this_towns this_op this_arg this_codes this_names this_names_f this_readNames this_readNames_f this_namesMany this_readMany this_once this_lines (upd u_this_lines_f t1.toNatClampNeg t0) this_facts this_pile this_state this_undos this_isMarked this_weight this_rounding this_lacks this_alikes this_g) := hD
    refine lv_aload_n (pc := 111) hx hb dX12_year_111 rfl (lv_at hl 0 rfl) ?_
    refine va_get (pc := 112) (D := D) (ci := 10) (C := RX12) (T := TX12) (N := 30) hx hb hts hiX12 hown hG.1 hP 0 rfl rfl 19 (Nat.le_of_ble_eq_true rfl) (hts _ kw_1276) (fun _ h9 => h9) rfl dX12_year_112 ?_
    refine lv_iload_n (pc := 115) hx hb dX12_year_115 rfl (lv_at hl 3 rfl) ?_
    refine lv_iconst (v := 2) (pc := 116) hx hb dX12_year_116 (by decide) ?_
    refine lv_iadd (pc := 117) hx hb dX12_year_117 ?_
    refine lv_iload_n (pc := 118) hx hb dX12_year_118 rfl (lv_at hl 2 rfl) ?_
    refine lv_iconst (v := 2) (pc := 119) hx hb dX12_year_119 (by decide) ?_
    refine lv_icmp_ge (tgt := 133) (pc := 120) hx hb dX12_year_120 (by decide) (fun hc => ?_) (fun hc => ?_)
    · rw [if_pos hc] at hm
      refine lv_iload_n (pc := 133) hx hb dX12_year_133 rfl (lv_at hl 2 rfl) ?_
      refine lv_iconst (v := 3) (pc := 134) hx hb dX12_year_134 (by decide) ?_
      refine lv_icmp_ne (tgt := 156) (pc := 135) hx hb dX12_year_135 (by decide) (fun hc => ?_) (fun hc => ?_)
      · rw [if_neg hc] at hm
        refine lv_iconst (v := 0) (pc := 156) hx hb dX12_year_156 (by decide) ?_
        exact h_157 K11 hK11 x1 0 (x3 + 2) u_this_thrown u_this_taped u_this_size u_this_at u_this_fault u_this_sort_f u_this_place_f u_this_value_f (upd u_this_lines_f t1.toNatClampNeg t0) H locs ls hP hD hS (lv_sub hl [0, 1] rfl) hm
      · rw [if_pos hc] at hm
        refine lv_aload_n (pc := 138) hx hb dX12_year_138 rfl (lv_at hl 0 rfl) ?_
        refine lv_iconst (v := 0) (pc := 139) hx hb dX12_year_139 (by decide) ?_
        refine lv_iconst (v := 1) (pc := 140) hx hb dX12_year_140 (by decide) ?_
        refine lv_aload_n (pc := 141) hx hb dX12_year_141 rfl (lv_at hl 0 rfl) ?_
        refine va_get (pc := 142) (D := D) (ci := 10) (C := RX12) (T := TX12) (N := 30) hx hb hts hiX12 hown hG.1 hP 0 rfl rfl 19 (Nat.le_of_ble_eq_true rfl) (hts _ kw_1276) (fun _ h9 => h9) rfl dX12_year_142 ?_
        refine lv_iload_n (pc := 145) hx hb dX12_year_145 rfl (lv_at hl 3 rfl) ?_
        refine lv_iconst (v := 1) (pc := 146) hx hb dX12_year_146 (by decide) ?_
        refine lv_iadd (pc := 147) hx hb dX12_year_147 ?_
        obtain ⟨hin, hm⟩ := gd hm
        refine va_iald (pc := 148) (D := D) hx hb hG.1 hP 8 0 rfl rfl hin dX12_year_148 ?_
        refine lv_ishl (pc := 149) hx hb dX12_year_149 ?_
        obtain ⟨r10, hcl, hm⟩ := bd hm
        refine cw_mask (ws' := (wd_X12_year k this u_this_thrown this_tape this_tape_f u_this_taped u_this_size this_sort u_this_sort_f this_place u_this_place_f this_value u_this_value_f r10.2.1 r10.2.2 this_words this_words_f this_towns this_op this_arg this_codes this_names this_names_f this_readNames this_readNames_f this_namesMany this_readMany this_once this_lines (upd u_this_lines_f t1.toNatClampNeg t0) this_facts this_pile this_state this_undos this_isMarked this_weight this_rounding this_lacks this_alikes this_g)) (run_V (pc := 150) (n := 2) (As := [.int 0, .int (1 <<< (((upd u_this_lines_f t1.toNatClampNeg t0) (x3 + 1).toNatClampNeg) &&& 31))]) (rest := [.int (x3 + 2), .ref this_lines]) ⟨hx, hb, hml, hown, hts⟩ ((c_X12_takeTold l D k this u_this_thrown this_tape u_this_taped u_this_size this_sort u_this_sort_f this_place u_this_place_f this_value u_this_value_f u_this_at u_this_fault this_words this_words_f this_towns this_op this_arg this_codes this_names this_names_f this_readNames this_readNames_f this_namesMany this_readMany this_once this_lines this_facts this_pile this_state this_undos this_isMarked this_weight this_rounding this_lacks this_alikes this_g 0 (1 <<< (((upd u_this_lines_f t1.toNatClampNeg t0) (x3 + 1).toNatClampNeg) &&& 31)) r10 hcl) H.size) ⟨kw_1423, kw_16, by decide +kernel⟩ kw_1420 kw_1422 ks_112 ⟨Nat.le_of_ble_eq_true rfl, Nat.le_of_ble_eq_true rfl⟩ pw_blind (prW (P_pick [true, false, true, true, true, true, true, true] rfl hP) hG (D_pick [true, false, true, true, true, true, true, true] rfl hD)) (va_recv hG.1 hP (ci := 10) (q0 := 0) rfl rfl) rfl hl.1 rfl (Nat.le_of_ble_eq_true rfl) dX12_year_150 ⟨Nat.zero_le _, Nat.zero_le _⟩) hP hD hS hA [true, false, true, true, true, true, true, true] rfl rfl rfl (fun H locs hP hD hS => ?_)
        refine lv_goto (tgt := 157) (pc := 153) hx hb dX12_year_153 (by decide) ?_
        exact h_157 K11 hK11 x1 r10.1 (x3 + 2) u_this_thrown u_this_taped u_this_size r10.2.1 r10.2.2 u_this_sort_f u_this_place_f u_this_value_f (upd u_this_lines_f t1.toNatClampNeg t0) H locs ls hP hD hS (lv_sub hl [0, 1] rfl) hm
    · rw [if_neg hc] at hm
      refine lv_aload_n (pc := 123) hx hb dX12_year_123 rfl (lv_at hl 0 rfl) ?_
      refine lv_iconst (v := 1) (pc := 124) hx hb dX12_year_124 (by decide) ?_
      refine lv_bipush (v := 20) (pc := 125) hx hb dX12_year_125 (by decide) ?_
      obtain ⟨r11, hcl, hm⟩ := bd hm
      refine cw_mask (ws' := (wd_X12_year k this u_this_thrown this_tape this_tape_f u_this_taped u_this_size this_sort u_this_sort_f this_place u_this_place_f this_value u_this_value_f r11.2.1 r11.2.2 this_words this_words_f this_towns this_op this_arg this_codes this_names this_names_f this_readNames this_readNames_f this_namesMany this_readMany this_once this_lines (upd u_this_lines_f t1.toNatClampNeg t0) this_facts this_pile this_state this_undos this_isMarked this_weight this_rounding this_lacks this_alikes this_g)) (run_V (pc := 127) (n := 2) (As := [.int 1, .int 20]) (rest := [.int (x3 + 2), .ref this_lines]) ⟨hx, hb, hml, hown, hts⟩ ((c_X12_takeNumber l D k this u_this_thrown this_tape u_this_taped u_this_size this_sort u_this_sort_f this_place u_this_place_f this_value u_this_value_f u_this_at u_this_fault this_words this_towns this_op this_arg this_codes this_names this_readNames this_namesMany this_readMany this_once this_lines this_facts this_pile this_state this_undos this_isMarked this_weight this_rounding this_lacks this_alikes this_g 1 20 r11 hcl) H.size) ⟨kw_1419, kw_16, by decide +kernel⟩ kw_1416 kw_1418 ks_111 ⟨Nat.le_of_ble_eq_true rfl, Nat.le_of_ble_eq_true rfl⟩ pw_blind (prW (P_pick [true, false, true, true, true] rfl hP) hG (D_pick [true, false, true, true, true] rfl hD)) (va_recv hG.1 hP (ci := 10) (q0 := 0) rfl rfl) rfl hl.1 rfl (Nat.le_of_ble_eq_true rfl) dX12_year_127 ⟨Nat.zero_le _, Nat.zero_le _⟩) hP hD hS hA [true, false, true, true, true] rfl rfl rfl (fun H locs hP hD hS => ?_)
      refine lv_goto (tgt := 157) (pc := 130) hx hb dX12_year_130 (by decide) ?_
      exact h_157 K11 hK11 x1 r11.1 (x3 + 2) u_this_thrown u_this_taped u_this_size r11.2.1 r11.2.2 u_this_sort_f u_this_place_f u_this_value_f (upd u_this_lines_f t1.toNatClampNeg t0) H locs ls hP hD hS (lv_sub hl [0, 1] rfl) hm
  have h_11 : ∀ (n : Nat), ∀ (x1 : Int32) (u_this_thrown : Int32) (u_this_taped : Int32) (u_this_size : Int32) (u_this_at : Int32) (u_this_fault : Int32) (u_this_sort_f : Nat → Int32) (u_this_place_f : Nat → Int32) (u_this_value_f : Nat → Int64) (u_this_lines_f : Nat → Int32) (H : Heap) (locs : List Loc) (ls : Array Slot), va_P D vwCl (wd_X12_year k this u_this_thrown this_tape this_tape_f u_this_taped u_this_size this_sort u_this_sort_f this_place u_this_place_f this_value u_this_value_f u_this_at u_this_fault this_words this_words_f this_towns this_op this_arg this_codes this_names this_names_f this_readNames this_readNames_f this_namesMany this_readMany this_once this_lines u_this_lines_f this_facts this_pile this_state this_undos this_isMarked this_weight this_rounding this_lacks this_alikes this_g) H → va_D A (wd_X12_year k this u_this_thrown this_tape this_tape_f u_this_taped u_this_size this_sort u_this_sort_f this_place u_this_place_f this_value u_this_value_f u_this_at u_this_fault this_words this_words_f this_towns this_op this_arg this_codes this_names this_names_f this_readNames this_readNames_f this_namesMany this_readMany this_once this_lines u_this_lines_f this_facts this_pile this_state this_undos this_isMarked this_weight this_rounding this_lacks this_alikes this_g) → va_S A s.heap H locs → lv_has ls 4 [(0, .ref this), (1, .int x1)] → m_X12_year_11 this_tape_f this_words_f this_names_f this_readNames_f this_namesMany this_readMany n x1 u_this_thrown u_this_taped u_this_size u_this_at u_this_fault u_this_sort_f u_this_place_f u_this_value_f u_this_lines_f = some R0 → W p l e (Rm 4 88) s m args below meth c H locs 0 0 (MQ below (QW D (some (.int R0.1)) (wd_X12_year k this this_thrown this_tape this_tape_f this_taped this_size this_sort this_sort_f this_place this_place_f this_value this_value_f this_at this_fault this_words this_words_f this_towns this_op this_arg this_codes this_names this_names_f this_readNames this_readNames_f this_namesMany this_readMany this_once this_lines this_lines_f this_facts this_pile this_state this_undos this_isMarked this_weight this_rounding this_lacks this_alikes this_g) (wd_X12_year k this R0.2.1 this_tape this_tape_f R0.2.2.1 R0.2.2.2.1 this_sort R0.2.2.2.2.2.2.1 this_place R0.2.2.2.2.2.2.2.1 this_value R0.2.2.2.2.2.2.2.2.1 R0.2.2.2.2.1 R0.2.2.2.2.2.1 this_words this_words_f this_towns this_op this_arg this_codes this_names this_names_f this_readNames this_readNames_f this_namesMany this_readMany this_once this_lines R0.2.2.2.2.2.2.2.2.2 this_facts this_pile this_state this_undos this_isMarked this_weight this_rounding this_lacks this_alikes this_g) s.heap.size) args s 0 0 A) (F0 m 11 ls []) := by
    intro n
    induction n with
    | zero => intro x1 u_this_thrown u_this_taped u_this_size u_this_at u_this_fault u_this_sort_f u_this_place_f u_this_value_f u_this_lines_f H locs ls hP hD hS hl hm; cases hm
    | succ n ih =>
      intro x1 u_this_thrown u_this_taped u_this_size u_this_at u_this_fault u_this_sort_f u_this_place_f u_this_value_f u_this_lines_f H locs ls hP hD hS hl hm
      unfold m_X12_year_11 at hm
      refine lv_aload_n (pc := 11) hx hb dX12_year_11 rfl (lv_at hl 0 rfl) ?_
      refine va_get (pc := 12) (D := D) (ci := 10) (C := RX12) (T := TX12) (N := 30) hx hb hts hiX12 hown hG.1 hP 0 rfl rfl 8 (Nat.le_of_ble_eq_true rfl) (hts _ kw_1265) (fun _ h9 => h9) rfl dX12_year_12 ?_
      refine lv_if_ne (tgt := 170) (pc := 15) hx hb dX12_year_15 (by decide) (fun hc => ?_) (fun hc => ?_)
      · rw [if_neg hc] at hm
        exact h_170 x1 u_this_thrown u_this_taped u_this_size u_this_at u_this_fault u_this_sort_f u_this_place_f u_this_value_f u_this_lines_f H locs ls hP hD hS (lv_sub hl [0, 1] rfl) hm
      · rw [if_pos hc] at hm
        refine lv_aload_n (pc := 18) hx hb dX12_year_18 rfl (lv_at hl 0 rfl) ?_
        refine va_get (pc := 19) (D := D) (ci := 10) (C := RX12) (T := TX12) (N := 30) hx hb hts hiX12 hown hG.1 hP 0 rfl rfl 4 (Nat.le_of_ble_eq_true rfl) (hts _ kw_1261) (fun _ h9 => h9) rfl dX12_year_19 ?_
        refine lv_aload_n (pc := 22) hx hb dX12_year_22 rfl (lv_at hl 0 rfl) ?_
        refine va_get (pc := 23) (D := D) (ci := 10) (C := RX12) (T := TX12) (N := 30) hx hb hts hiX12 hown hG.1 hP 0 rfl rfl 7 (Nat.le_of_ble_eq_true rfl) (hts _ kw_1264) (fun _ h9 => h9) rfl dX12_year_23 ?_
        obtain ⟨hin, hm⟩ := gd hm
        refine va_iald (pc := 26) (D := D) hx hb hG.1 hP 2 0 rfl rfl hin dX12_year_26 ?_
        refine lv_if_eq (tgt := 170) (pc := 27) hx hb dX12_year_27 (by decide) (fun hc => ?_) (fun hc => ?_)
        · rw [if_pos hc] at hm
          exact h_170 x1 u_this_thrown u_this_taped u_this_size u_this_at u_this_fault u_this_sort_f u_this_place_f u_this_value_f u_this_lines_f H locs ls hP hD hS (lv_sub hl [0, 1] rfl) hm
        · rw [if_neg hc] at hm
          refine lv_aload_n (pc := 30) hx hb dX12_year_30 rfl (lv_at hl 0 rfl) ?_
          refine lv_bipush (v := 10) (pc := 31) hx hb dX12_year_31 (by decide) ?_
          refine lv_iconst (v := 5) (pc := 33) hx hb dX12_year_33 (by decide) ?_
          obtain ⟨r12, hcl, hm⟩ := bd hm
          refine cr_back (run_V (pc := 34) (n := 2) (As := [.int 10, .int 5]) (rest := []) ⟨hx, hb, hml, hown, hts⟩ (c_X12_wordHere l D k this u_this_thrown this_tape u_this_taped u_this_size this_sort u_this_sort_f this_place this_value u_this_value_f u_this_at u_this_fault this_words this_words_f this_towns this_op this_arg this_codes this_names this_readNames this_namesMany this_readMany this_once this_lines this_facts this_pile this_state this_undos this_isMarked this_weight this_rounding this_lacks this_alikes this_g 10 5 r12 hcl) ⟨kw_1395, kw_16, by decide +kernel⟩ kw_1392 kw_1394 ks_105 ⟨Nat.le_of_ble_eq_true rfl, Nat.le_of_ble_eq_true rfl⟩ pr_blind (prR (hP.sub [0, 2, 4, 5] rfl) hG) (va_recv hG.1 hP (ci := 10) (q0 := 0) rfl rfl) rfl hl.1 rfl (Nat.le_of_ble_eq_true rfl) dX12_year_34 ⟨Nat.zero_le _, Nat.zero_le _⟩) ?_
          refine lv_istore_n (lv' := [(2, .int r12), (0, .ref this), (1, .int x1)]) (pc := 37) hx hb dX12_year_37 rfl hl (Nat.le_of_ble_eq_true rfl) rfl (fun ls hl => ?_)
          refine lv_iload_n (pc := 38) hx hb dX12_year_38 rfl (lv_at hl 0 rfl) ?_
          refine lv_if_ge (tgt := 50) (pc := 39) hx hb dX12_year_39 (by decide) (fun hc => ?_) (fun hc => ?_)
          · rw [if_pos hc] at hm
            refine lv_iload_n (pc := 50) hx hb dX12_year_50 rfl (lv_at hl 2 rfl) ?_
            refine lv_bipush (v := 40) (pc := 51) hx hb dX12_year_51 (by decide) ?_
            refine lv_icmp_ne (tgt := 64) (pc := 53) hx hb dX12_year_53 (by decide) (fun hc => ?_) (fun hc => ?_)
            · rw [if_neg hc] at hm
              refine lv_aload_n (pc := 64) hx hb dX12_year_64 rfl (lv_at hl 1 rfl) ?_
              refine lv_dup (pc := 65) hx hb dX12_year_65 rfl ?_
              refine va_get (pc := 66) (D := D) (ci := 10) (C := RX12) (T := TX12) (N := 30) hx hb hts hiX12 hown hG.1 hP 0 rfl rfl 7 (Nat.le_of_ble_eq_true rfl) (hts _ kw_1264) (fun _ h9 => h9) rfl dX12_year_66 ?_
              refine lv_iconst (v := 1) (pc := 69) hx hb dX12_year_69 (by decide) ?_
              refine lv_iadd (pc := 70) hx hb dX12_year_70 ?_
              refine va_put (pc := 71) (D := D) (ci := 10) (v := .int (u_this_at + 1)) (ty := .int) (C := RX12) (T := TX12) (N := 30) hx hb hts hiX12 tyX12 tyX12_ok nmX12 hown hG.1 hP hD hS 0 rfl rfl 7 (Nat.le_of_ble_eq_true rfl) (hts _ kw_1264) (fun _ h9 => h9) rfl (by decide +kernel) rfl rfl (Nat.le_of_ble_eq_true rfl) dX12_year_71 (fun H locs hP hD hS => ?_)
              have hP : va_P D vwCl (wd_X12_year k this u_this_thrown this_tape this_tape_f u_this_taped u_this_size this_sort u_this_sort_f this_place u_this_place_f this_value u_this_value_f (u_this_at + 1) u_this_fault this_words this_words_f this_towns this_op this_arg this_codes this_names this_names_f this_readNames this_readNames_f this_namesMany this_readMany this_once this_lines u_this_lines_f this_facts this_pile this_state this_undos this_isMarked this_weight this_rounding this_lacks this_alikes this_g) H := hP
              have hD : va_D A (wd_X12_year k this u_this_thrown this_tape this_tape_f u_this_taped u_this_size this_sort u_this_sort_f this_place u_this_place_f this_value u_this_value_f (u_this_at + 1) u_this_fault this_words this_words_f this_towns this_op this_arg this_codes this_names this_names_f this_readNames this_readNames_f this_namesMany this_readMany this_once this_lines u_this_lines_f this_facts this_pile this_state this_undos this_isMarked this_weight this_rounding this_lacks this_alikes this_g) := hD
              refine lv_bipush (v := 125) (pc := 74) hx hb dX12_year_74 (by decide) ?_
              refine lv_iconst (v := 3) (pc := 76) hx hb dX12_year_76 (by decide) ?_
              refine lv_iload_n (pc := 77) hx hb dX12_year_77 rfl (lv_at hl 2 rfl) ?_
              refine lv_imul (pc := 78) hx hb dX12_year_78 ?_
              refine lv_iadd (pc := 79) hx hb dX12_year_79 ?_
              refine lv_istore_n (lv' := [(3, .int (125 + (3 * x1))), (2, .int r12), (0, .ref this), (1, .int x1)]) (pc := 80) hx hb dX12_year_80 rfl hl (Nat.le_of_ble_eq_true rfl) rfl (fun ls hl => ?_)
              refine lv_aload_n (pc := 81) hx hb dX12_year_81 rfl (lv_at hl 2 rfl) ?_
              refine va_get (pc := 82) (D := D) (ci := 10) (C := RX12) (T := TX12) (N := 30) hx hb hts hiX12 hown hG.1 hP 0 rfl rfl 19 (Nat.le_of_ble_eq_true rfl) (hts _ kw_1276) (fun _ h9 => h9) rfl dX12_year_82 ?_
              refine lv_iload_n (pc := 85) hx hb dX12_year_85 rfl (lv_at hl 0 rfl) ?_
              refine lv_iload_n (pc := 86) hx hb dX12_year_86 rfl (lv_at hl 1 rfl) ?_
              obtain ⟨hin, hm⟩ := gd hm
              refine va_iast (pc := 87) (D := D) hx hb hG.1 hP hD hS 8 0 rfl rfl hin dX12_year_87 (fun H locs hP hD hS => ?_)
              have hP : va_P D vwCl (wd_X12_year k this u_this_thrown this_tape this_tape_f u_this_taped u_this_size this_sort u_this_sort_f this_place u_this_place_f this_value u_this_value_f (u_this_at + 1) u_this_fault this_words this_words_f this_towns this_op this_arg this_codes this_names this_names_f this_readNames this_readNames_f this_namesMany this_readMany this_once this_lines (upd u_this_lines_f (125 + (3 * x1)).toNatClampNeg r12) this_facts this_pile this_state this_undos this_isMarked this_weight this_rounding this_lacks this_alikes this_g) H := hP
              have hD : va_D A (wd_X12_year k this u_this_thrown this_tape this_tape_f u_this_taped u_this_size this_sort u_this_sort_f this_place u_this_place_f this_value u_this_value_f (u_this_at + 1) u_this_fault this_words this_words_f this_towns this_op this_arg this_codes this_names this_names_f this_readNames this_readNames_f this_namesMany this_readMany this_once this_lines (upd u_this_lines_f (125 + (3 * x1)).toNatClampNeg r12) this_facts this_pile this_state this_undos this_isMarked this_weight this_rounding this_lacks this_alikes this_g) := hD
              refine lv_aload_n (pc := 88) hx hb dX12_year_88 rfl (lv_at hl 2 rfl) ?_
              refine va_get (pc := 89) (D := D) (ci := 10) (C := RX12) (T := TX12) (N := 30) hx hb hts hiX12 hown hG.1 hP 0 rfl rfl 19 (Nat.le_of_ble_eq_true rfl) (hts _ kw_1276) (fun _ h9 => h9) rfl dX12_year_89 ?_
              refine lv_iload_n (pc := 92) hx hb dX12_year_92 rfl (lv_at hl 0 rfl) ?_
              refine lv_iconst (v := 1) (pc := 93) hx hb dX12_year_93 (by decide) ?_
              refine lv_iadd (pc := 94) hx hb dX12_year_94 ?_
              refine lv_iload_n (pc := 95) hx hb dX12_year_95 rfl (lv_at hl 1 rfl) ?_
              refine lv_iconst (v := 4) (pc := 96) hx hb dX12_year_96 (by decide) ?_
              refine lv_icmp_ge (tgt := 109) (pc := 97) hx hb dX12_year_97 (by decide) (fun hc => ?_) (fun hc => ?_)
              · rw [if_pos hc] at hm
                refine lv_iconst (v := 0) (pc := 109) hx hb dX12_year_109 (by decide) ?_
                exact h_110 (m_X12_year_11 this_tape_f this_words_f this_names_f this_readNames_f this_namesMany this_readMany n) ih x1 r12 (125 + (3 * x1)) 0 ((125 + (3 * x1)) + 1) u_this_thrown u_this_taped u_this_size (u_this_at + 1) u_this_fault u_this_sort_f u_this_place_f u_this_value_f (upd u_this_lines_f (125 + (3 * x1)).toNatClampNeg r12) H locs ls hP hD hS (lv_sub hl [2, 3, 1, 0] rfl) hm
              · rw [if_neg hc] at hm
                refine lv_aload_n (pc := 100) hx hb dX12_year_100 rfl (lv_at hl 2 rfl) ?_
                refine lv_iconst (v := 0) (pc := 101) hx hb dX12_year_101 (by decide) ?_
                refine lv_iconst (v := 0) (pc := 102) hx hb dX12_year_102 (by decide) ?_
                obtain ⟨r13, hcl, hm⟩ := bd hm
                refine cw_mask (ws' := (wd_X12_year k this u_this_thrown this_tape this_tape_f u_this_taped u_this_size this_sort u_this_sort_f this_place u_this_place_f this_value u_this_value_f r13.2.1 r13.2.2 this_words this_words_f this_towns this_op this_arg this_codes this_names this_names_f this_readNames this_readNames_f this_namesMany this_readMany this_once this_lines (upd u_this_lines_f (125 + (3 * x1)).toNatClampNeg r12) this_facts this_pile this_state this_undos this_isMarked this_weight this_rounding this_lacks this_alikes this_g)) (run_V (pc := 103) (n := 2) (As := [.int 0, .int 0]) (rest := [.int ((125 + (3 * x1)) + 1), .ref this_lines]) ⟨hx, hb, hml, hown, hts⟩ ((c_X12_takeTold l D k this u_this_thrown this_tape u_this_taped u_this_size this_sort u_this_sort_f this_place u_this_place_f this_value u_this_value_f (u_this_at + 1) u_this_fault this_words this_words_f this_towns this_op this_arg this_codes this_names this_names_f this_readNames this_readNames_f this_namesMany this_readMany this_once this_lines this_facts this_pile this_state this_undos this_isMarked this_weight this_rounding this_lacks this_alikes this_g 0 0 r13 hcl) H.size) ⟨kw_1423, kw_16, by decide +kernel⟩ kw_1420 kw_1422 ks_112 ⟨Nat.le_of_ble_eq_true rfl, Nat.le_of_ble_eq_true rfl⟩ pw_blind (prW (P_pick [true, false, true, true, true, true, true, true] rfl hP) hG (D_pick [true, false, true, true, true, true, true, true] rfl hD)) (va_recv hG.1 hP (ci := 10) (q0 := 0) rfl rfl) rfl hl.1 rfl (Nat.le_of_ble_eq_true rfl) dX12_year_103 ⟨Nat.zero_le _, Nat.zero_le _⟩) hP hD hS hA [true, false, true, true, true, true, true, true] rfl rfl rfl (fun H locs hP hD hS => ?_)
                refine lv_goto (tgt := 110) (pc := 106) hx hb dX12_year_106 (by decide) ?_
                exact h_110 (m_X12_year_11 this_tape_f this_words_f this_names_f this_readNames_f this_namesMany this_readMany n) ih x1 r12 (125 + (3 * x1)) r13.1 ((125 + (3 * x1)) + 1) u_this_thrown u_this_taped u_this_size r13.2.1 r13.2.2 u_this_sort_f u_this_place_f u_this_value_f (upd u_this_lines_f (125 + (3 * x1)).toNatClampNeg r12) H locs ls hP hD hS (lv_sub hl [2, 3, 1, 0] rfl) hm
            · rw [if_pos hc] at hm
              refine lv_aload_n (pc := 56) hx hb dX12_year_56 rfl (lv_at hl 1 rfl) ?_
              refine lv_iconst (v := 5) (pc := 57) hx hb dX12_year_57 (by decide) ?_
              obtain ⟨r14, hcl, hm⟩ := bd hm
              refine cw_mask (ws' := (wd_X12_year k this u_this_thrown this_tape this_tape_f u_this_taped u_this_size this_sort u_this_sort_f this_place u_this_place_f this_value u_this_value_f u_this_at r14 this_words this_words_f this_towns this_op this_arg this_codes this_names this_names_f this_readNames this_readNames_f this_namesMany this_readMany this_once this_lines u_this_lines_f this_facts this_pile this_state this_undos this_isMarked this_weight this_rounding this_lacks this_alikes this_g)) (run_V (pc := 58) (n := 1) (As := [.int 5]) (rest := []) ⟨hx, hb, hml, hown, hts⟩ ((c_X12_wrong l D k this u_this_thrown this_tape u_this_taped u_this_size this_sort this_place u_this_place_f this_value u_this_at u_this_fault this_words this_towns this_op this_arg this_codes this_names this_readNames this_namesMany this_readMany this_once this_lines this_facts this_pile this_state this_undos this_isMarked this_weight this_rounding this_lacks this_alikes this_g 5 r14 hcl) H.size) ⟨kw_1387, kw_16, by decide +kernel⟩ kw_1384 kw_1386 ks_103 ⟨Nat.le_of_ble_eq_true rfl, Nat.le_of_ble_eq_true rfl⟩ pw_blind (prW (P_pick [true, false, false, true] rfl hP) hG (D_pick [true, false, false, true] rfl hD)) (va_recv hG.1 hP (ci := 10) (q0 := 0) rfl rfl) rfl hl.1 rfl (Nat.le_of_ble_eq_true rfl) dX12_year_58 ⟨Nat.zero_le _, Nat.zero_le _⟩) hP hD hS hA [true, false, false, true] rfl rfl rfl (fun H locs hP hD hS => ?_)
              refine lv_goto (tgt := 161) (pc := 61) hx hb dX12_year_61 (by decide) ?_
              exact h_161 (m_X12_year_11 this_tape_f this_words_f this_names_f this_readNames_f this_namesMany this_readMany n) ih x1 u_this_thrown u_this_taped u_this_size u_this_at r14 u_this_sort_f u_this_place_f u_this_value_f u_this_lines_f H locs ls hP hD hS (lv_sub hl [1, 2] rfl) hm
          · rw [if_neg hc] at hm
            refine lv_aload_n (pc := 42) hx hb dX12_year_42 rfl (lv_at hl 1 rfl) ?_
            refine lv_iconst (v := 1) (pc := 43) hx hb dX12_year_43 (by decide) ?_
            obtain ⟨r15, hcl, hm⟩ := bd hm
            refine cw_mask (ws' := (wd_X12_year k this u_this_thrown this_tape this_tape_f u_this_taped u_this_size this_sort u_this_sort_f this_place u_this_place_f this_value u_this_value_f u_this_at r15 this_words this_words_f this_towns this_op this_arg this_codes this_names this_names_f this_readNames this_readNames_f this_namesMany this_readMany this_once this_lines u_this_lines_f this_facts this_pile this_state this_undos this_isMarked this_weight this_rounding this_lacks this_alikes this_g)) (run_V (pc := 44) (n := 1) (As := [.int 1]) (rest := []) ⟨hx, hb, hml, hown, hts⟩ ((c_X12_wrong l D k this u_this_thrown this_tape u_this_taped u_this_size this_sort this_place u_this_place_f this_value u_this_at u_this_fault this_words this_towns this_op this_arg this_codes this_names this_readNames this_namesMany this_readMany this_once this_lines this_facts this_pile this_state this_undos this_isMarked this_weight this_rounding this_lacks this_alikes this_g 1 r15 hcl) H.size) ⟨kw_1387, kw_16, by decide +kernel⟩ kw_1384 kw_1386 ks_103 ⟨Nat.le_of_ble_eq_true rfl, Nat.le_of_ble_eq_true rfl⟩ pw_blind (prW (P_pick [true, false, false, true] rfl hP) hG (D_pick [true, false, false, true] rfl hD)) (va_recv hG.1 hP (ci := 10) (q0 := 0) rfl rfl) rfl hl.1 rfl (Nat.le_of_ble_eq_true rfl) dX12_year_44 ⟨Nat.zero_le _, Nat.zero_le _⟩) hP hD hS hA [true, false, false, true] rfl rfl rfl (fun H locs hP hD hS => ?_)
            refine lv_goto (tgt := 161) (pc := 47) hx hb dX12_year_47 (by decide) ?_
            exact h_161 (m_X12_year_11 this_tape_f this_words_f this_names_f this_readNames_f this_namesMany this_readMany n) ih x1 u_this_thrown u_this_taped u_this_size u_this_at r15 u_this_sort_f u_this_place_f u_this_value_f u_this_lines_f H locs ls hP hD hS (lv_sub hl [1, 2] rfl) hm
  unfold m_X12_year at hm
  suffices hgo : ∀ (H : Heap) (locs : List Loc), va_P D vwCl (wd_X12_year k this this_thrown this_tape this_tape_f this_taped this_size this_sort this_sort_f this_place this_place_f this_value this_value_f this_at this_fault this_words this_words_f this_towns this_op this_arg this_codes this_names this_names_f this_readNames this_readNames_f this_namesMany this_readMany this_once this_lines this_lines_f this_facts this_pile this_state this_undos this_isMarked this_weight this_rounding this_lacks this_alikes this_g) H → va_D A (wd_X12_year k this this_thrown this_tape this_tape_f this_taped this_size this_sort this_sort_f this_place this_place_f this_value this_value_f this_at this_fault this_words this_words_f this_towns this_op this_arg this_codes this_names this_names_f this_readNames this_readNames_f this_namesMany this_readMany this_once this_lines this_lines_f this_facts this_pile this_state this_undos this_isMarked this_weight this_rounding this_lacks this_alikes this_g) → va_S A s.heap H locs → W p l e (Rm 4 88) s m args below meth c H locs 0 0 (MQ below (QW D (some (.int R0.1)) (wd_X12_year k this this_thrown this_tape this_tape_f this_taped this_size this_sort this_sort_f this_place this_place_f this_value this_value_f this_at this_fault this_words this_words_f this_towns this_op this_arg this_codes this_names this_names_f this_readNames this_readNames_f this_namesMany this_readMany this_once this_lines this_lines_f this_facts this_pile this_state this_undos this_isMarked this_weight this_rounding this_lacks this_alikes this_g) (wd_X12_year k this R0.2.1 this_tape this_tape_f R0.2.2.1 R0.2.2.2.1 this_sort R0.2.2.2.2.2.2.1 this_place R0.2.2.2.2.2.2.2.1 this_value R0.2.2.2.2.2.2.2.2.1 R0.2.2.2.2.1 R0.2.2.2.2.2.1 this_words this_words_f this_towns this_op this_arg this_codes this_names this_names_f this_readNames this_readNames_f this_namesMany this_readMany this_once this_lines R0.2.2.2.2.2.2.2.2.2 this_facts this_pile this_state this_undos this_isMarked this_weight this_rounding this_lacks this_alikes this_g) s.heap.size) args s 0 0 A) (F0 m 0 ls []) from hgo _ _ hP hD hS
  clear hP hD hS
  intro H locs hP hD hS
  refine lv_aload_n (pc := 0) hx hb dX12_year_0 rfl (lv_at hl 0 rfl) ?_
  refine lv_iconst (v := 0) (pc := 1) hx hb dX12_year_1 (by decide) ?_
  refine va_put (pc := 2) (D := D) (ci := 10) (v := .int 0) (ty := .int) (C := RX12) (T := TX12) (N := 30) hx hb hts hiX12 tyX12 tyX12_ok nmX12 hown hG.1 hP hD hS 0 rfl rfl 0 (Nat.le_of_ble_eq_true rfl) (hts _ kw_1257) (fun _ h9 => h9) rfl (by decide +kernel) rfl rfl (Nat.le_of_ble_eq_true rfl) dX12_year_2 (fun H locs hP hD hS => ?_)
  have hP : va_P D vwCl (wd_X12_year k this 0 this_tape this_tape_f this_taped this_size this_sort this_sort_f this_place this_place_f this_value this_value_f this_at this_fault this_words this_words_f this_towns this_op this_arg this_codes this_names this_names_f this_readNames this_readNames_f this_namesMany this_readMany this_once this_lines this_lines_f this_facts this_pile this_state this_undos this_isMarked this_weight this_rounding this_lacks this_alikes this_g) H := hP
  have hD : va_D A (wd_X12_year k this 0 this_tape this_tape_f this_taped this_size this_sort this_sort_f this_place this_place_f this_value this_value_f this_at this_fault this_words this_words_f this_towns this_op this_arg this_codes this_names this_names_f this_readNames this_readNames_f this_namesMany this_readMany this_once this_lines this_lines_f this_facts this_pile this_state this_undos this_isMarked this_weight this_rounding this_lacks this_alikes this_g) := hD
  refine lv_aload_n (pc := 5) hx hb dX12_year_5 rfl (lv_at hl 0 rfl) ?_
  obtain ⟨r16, hcl, hm⟩ := bd hm
  refine cw_mask (ws' := (wd_X12_year k this 0 this_tape this_tape_f r16.1 r16.2.1 this_sort r16.2.2.2.2.1 this_place r16.2.2.2.2.2.1 this_value r16.2.2.2.2.2.2 r16.2.2.1 r16.2.2.2.1 this_words this_words_f this_towns this_op this_arg this_codes this_names this_names_f this_readNames this_readNames_f this_namesMany this_readMany this_once this_lines this_lines_f this_facts this_pile this_state this_undos this_isMarked this_weight this_rounding this_lacks this_alikes this_g)) (run_V (pc := 6) (n := 0) (As := []) (rest := []) ⟨hx, hb, hml, hown, hts⟩ ((c_X12_cutAll l D k this 0 this_tape this_tape_f this_taped this_size this_sort this_sort_f this_place this_place_f this_value this_value_f this_at this_fault this_words this_towns this_op this_arg this_codes this_names this_readNames this_namesMany this_readMany this_once this_lines this_facts this_pile this_state this_undos this_isMarked this_weight this_rounding this_lacks this_alikes this_g r16 hcl) H.size) ⟨kw_1356, kw_16, by decide +kernel⟩ kw_1353 kw_1355 ks_99 ⟨Nat.le_of_ble_eq_true rfl, Nat.le_of_ble_eq_true rfl⟩ pw_blind (prW (P_pick [true, true, true, true, true] rfl hP) hG (D_pick [true, true, true, true, true] rfl hD)) (va_recv hG.1 hP (ci := 10) (q0 := 0) rfl rfl) rfl hl.1 rfl (Nat.le_of_ble_eq_true rfl) dX12_year_6 ⟨Nat.zero_le _, Nat.zero_le _⟩) hP hD hS hA [true, true, true, true, true] rfl rfl rfl (fun H locs hP hD hS => ?_)
  refine lv_iconst (v := 0) (pc := 9) hx hb dX12_year_9 (by decide) ?_
  refine lv_istore_n (lv' := [(1, .int 0), (0, .ref this)]) (pc := 10) hx hb dX12_year_10 rfl hl (Nat.le_of_ble_eq_true rfl) rfl (fun ls hl => ?_)
  exact h_11 FU 0 0 r16.1 r16.2.1 r16.2.2.1 r16.2.2.2.1 r16.2.2.2.2.1 r16.2.2.2.2.2.1 r16.2.2.2.2.2.2 this_lines_f H locs ls hP hD hS (lv_sub hl [1, 0] rfl) hm
theorem dX12_both_0 : decode cX12_both 0 = .ok (.iload_n 0, 1) := by decide +kernel
theorem dX12_both_1 : decode cX12_both 1 = .ok (.tableswitch 87 4 9 #[39, 43, 47, 51, 62, 73], 39) := by decide +kernel
theorem dX12_both_40 : decode cX12_both 40 = .ok (.iload_n 1, 1) := by decide +kernel
theorem dX12_both_41 : decode cX12_both 41 = .ok (.iload_n 2, 1) := by decide +kernel
theorem dX12_both_42 : decode cX12_both 42 = .ok (.iadd, 1) := by decide +kernel
theorem dX12_both_43 : decode cX12_both 43 = .ok (.ireturn, 1) := by decide +kernel
theorem dX12_both_44 : decode cX12_both 44 = .ok (.iload_n 1, 1) := by decide +kernel
theorem dX12_both_45 : decode cX12_both 45 = .ok (.iload_n 2, 1) := by decide +kernel
theorem dX12_both_46 : decode cX12_both 46 = .ok (.isub, 1) := by decide +kernel
theorem dX12_both_47 : decode cX12_both 47 = .ok (.ireturn, 1) := by decide +kernel
theorem dX12_both_48 : decode cX12_both 48 = .ok (.iload_n 1, 1) := by decide +kernel
theorem dX12_both_49 : decode cX12_both 49 = .ok (.iload_n 2, 1) := by decide +kernel
theorem dX12_both_50 : decode cX12_both 50 = .ok (.imul, 1) := by decide +kernel
theorem dX12_both_51 : decode cX12_both 51 = .ok (.ireturn, 1) := by decide +kernel
theorem dX12_both_52 : decode cX12_both 52 = .ok (.iload_n 1, 1) := by decide +kernel
theorem dX12_both_53 : decode cX12_both 53 = .ok (.iload_n 2, 1) := by decide +kernel
theorem dX12_both_54 : decode cX12_both 54 = .ok (.if_icmp .ge 7, 3) := by decide +kernel
theorem dX12_both_57 : decode cX12_both 57 = .ok (.iconst 1, 1) := by decide +kernel
theorem dX12_both_58 : decode cX12_both 58 = .ok (.goto 4, 3) := by decide +kernel
theorem dX12_both_61 : decode cX12_both 61 = .ok (.iconst 0, 1) := by decide +kernel
theorem dX12_both_62 : decode cX12_both 62 = .ok (.ireturn, 1) := by decide +kernel
theorem dX12_both_63 : decode cX12_both 63 = .ok (.iload_n 1, 1) := by decide +kernel
theorem dX12_both_64 : decode cX12_both 64 = .ok (.iload_n 2, 1) := by decide +kernel
theorem dX12_both_65 : decode cX12_both 65 = .ok (.if_icmp .ne 7, 3) := by decide +kernel
theorem dX12_both_68 : decode cX12_both 68 = .ok (.iconst 1, 1) := by decide +kernel
theorem dX12_both_69 : decode cX12_both 69 = .ok (.goto 4, 3) := by decide +kernel
theorem dX12_both_72 : decode cX12_both 72 = .ok (.iconst 0, 1) := by decide +kernel
theorem dX12_both_73 : decode cX12_both 73 = .ok (.ireturn, 1) := by decide +kernel
theorem dX12_both_74 : decode cX12_both 74 = .ok (.iload_n 1, 1) := by decide +kernel
theorem dX12_both_75 : decode cX12_both 75 = .ok (.ifCond .eq 11, 3) := by decide +kernel
theorem dX12_both_78 : decode cX12_both 78 = .ok (.iload_n 2, 1) := by decide +kernel
theorem dX12_both_79 : decode cX12_both 79 = .ok (.ifCond .eq 7, 3) := by decide +kernel
theorem dX12_both_82 : decode cX12_both 82 = .ok (.iconst 1, 1) := by decide +kernel
theorem dX12_both_83 : decode cX12_both 83 = .ok (.goto 4, 3) := by decide +kernel
theorem dX12_both_86 : decode cX12_both 86 = .ok (.iconst 0, 1) := by decide +kernel
theorem dX12_both_87 : decode cX12_both 87 = .ok (.ireturn, 1) := by decide +kernel
theorem dX12_both_88 : decode cX12_both 88 = .ok (.iload_n 1, 1) := by decide +kernel
theorem dX12_both_89 : decode cX12_both 89 = .ok (.ifCond .ne 7, 3) := by decide +kernel
theorem dX12_both_92 : decode cX12_both 92 = .ok (.iload_n 2, 1) := by decide +kernel
theorem dX12_both_93 : decode cX12_both 93 = .ok (.ifCond .eq 7, 3) := by decide +kernel
theorem dX12_both_96 : decode cX12_both 96 = .ok (.iconst 1, 1) := by decide +kernel
theorem dX12_both_97 : decode cX12_both 97 = .ok (.goto 4, 3) := by decide +kernel
theorem dX12_both_100 : decode cX12_both 100 = .ok (.iconst 0, 1) := by decide +kernel
theorem dX12_both_101 : decode cX12_both 101 = .ok (.ireturn, 1) := by decide +kernel
abbrev wd_X12_both (k : Nat → ClassId) : va_W := []
set_option maxHeartbeats 4000000 in
set_option maxRecDepth 100000 in
theorem c_X12_both (l : Launch) (D : va_G) (k : Nat → ClassId) (q1 : Int32) (q2 : Int32) (q3 : Int32) (R0 : Int32) (hm : m_X12_both q1 q2 q3 = some R0) : CR l D (TY k) yX12_both cX12_both 3 (some .int) 0 0 [.int q1, .int q2, .int q3] (wd_X12_both k ) (some (.int R0)) := by
  refine CR.mk (by decide) (Nat.le_of_ble_eq_true rfl) ?_
  intro p e s m args below meth c ls ⟨hx, hb, hr, hts, hown, hlocks, hml⟩ hP hG hl
  have hl : lv_has ls 3 [(0, .int q1), (1, .int q2), (2, .int q3)] := hl
  unfold m_X12_both at hm
  refine lv_iload_n (pc := 0) hx hb dX12_both_0 rfl (lv_at hl 0 rfl) ?_
  by_cases hs0 : q1 = 4
  · rw [if_pos hs0] at hm
    rw [hs0]
    refine lv_tableIn (tgt := 40) (pc := 1) hx hb dX12_both_1 (by decide) (by decide) rfl (by decide) ?_
    refine lv_iload_n (pc := 40) hx hb dX12_both_40 rfl (lv_at hl 1 rfl) ?_
    refine lv_iload_n (pc := 41) hx hb dX12_both_41 rfl (lv_at hl 2 rfl) ?_
    refine lv_iadd (pc := 42) hx hb dX12_both_42 ?_
    rw [← Option.some.inj hm]
    exact W.iret hx hb hr (fun t ht _ => ⟨rfl, ht⟩) (fun _ h => by cases h) dX12_both_43 hlocks
  · rw [if_neg hs0] at hm
    by_cases hs1 : q1 = 5
    · rw [if_pos hs1] at hm
      rw [hs1]
      refine lv_tableIn (tgt := 44) (pc := 1) hx hb dX12_both_1 (by decide) (by decide) rfl (by decide) ?_
      refine lv_iload_n (pc := 44) hx hb dX12_both_44 rfl (lv_at hl 1 rfl) ?_
      refine lv_iload_n (pc := 45) hx hb dX12_both_45 rfl (lv_at hl 2 rfl) ?_
      refine lv_isub (pc := 46) hx hb dX12_both_46 ?_
      rw [← Option.some.inj hm]
      exact W.iret hx hb hr (fun t ht _ => ⟨rfl, ht⟩) (fun _ h => by cases h) dX12_both_47 hlocks
    · rw [if_neg hs1] at hm
      by_cases hs2 : q1 = 6
      · rw [if_pos hs2] at hm
        rw [hs2]
        refine lv_tableIn (tgt := 48) (pc := 1) hx hb dX12_both_1 (by decide) (by decide) rfl (by decide) ?_
        refine lv_iload_n (pc := 48) hx hb dX12_both_48 rfl (lv_at hl 1 rfl) ?_
        refine lv_iload_n (pc := 49) hx hb dX12_both_49 rfl (lv_at hl 2 rfl) ?_
        refine lv_imul (pc := 50) hx hb dX12_both_50 ?_
        rw [← Option.some.inj hm]
        exact W.iret hx hb hr (fun t ht _ => ⟨rfl, ht⟩) (fun _ h => by cases h) dX12_both_51 hlocks
      · rw [if_neg hs2] at hm
        by_cases hs3 : q1 = 7
        · rw [if_pos hs3] at hm
          rw [hs3]
          refine lv_tableIn (tgt := 52) (pc := 1) hx hb dX12_both_1 (by decide) (by decide) rfl (by decide) ?_
          refine lv_iload_n (pc := 52) hx hb dX12_both_52 rfl (lv_at hl 1 rfl) ?_
          refine lv_iload_n (pc := 53) hx hb dX12_both_53 rfl (lv_at hl 2 rfl) ?_
          refine lv_icmp_ge (tgt := 61) (pc := 54) hx hb dX12_both_54 (by decide) (fun hc => ?_) (fun hc => ?_)
          · rw [if_pos hc] at hm
            refine lv_iconst (v := 0) (pc := 61) hx hb dX12_both_61 (by decide) ?_
            rw [← Option.some.inj hm]
            exact W.iret hx hb hr (fun t ht _ => ⟨rfl, ht⟩) (fun _ h => by cases h) dX12_both_62 hlocks
          · rw [if_neg hc] at hm
            refine lv_iconst (v := 1) (pc := 57) hx hb dX12_both_57 (by decide) ?_
            refine lv_goto (tgt := 62) (pc := 58) hx hb dX12_both_58 (by decide) ?_
            rw [← Option.some.inj hm]
            exact W.iret hx hb hr (fun t ht _ => ⟨rfl, ht⟩) (fun _ h => by cases h) dX12_both_62 hlocks
        · rw [if_neg hs3] at hm
          by_cases hs4 : q1 = 8
          · rw [if_pos hs4] at hm
            rw [hs4]
            refine lv_tableIn (tgt := 63) (pc := 1) hx hb dX12_both_1 (by decide) (by decide) rfl (by decide) ?_
            refine lv_iload_n (pc := 63) hx hb dX12_both_63 rfl (lv_at hl 1 rfl) ?_
            refine lv_iload_n (pc := 64) hx hb dX12_both_64 rfl (lv_at hl 2 rfl) ?_
            refine lv_icmp_ne (tgt := 72) (pc := 65) hx hb dX12_both_65 (by decide) (fun hc => ?_) (fun hc => ?_)
            · rw [if_neg hc] at hm
              refine lv_iconst (v := 0) (pc := 72) hx hb dX12_both_72 (by decide) ?_
              rw [← Option.some.inj hm]
              exact W.iret hx hb hr (fun t ht _ => ⟨rfl, ht⟩) (fun _ h => by cases h) dX12_both_73 hlocks
            · rw [if_pos hc] at hm
              refine lv_iconst (v := 1) (pc := 68) hx hb dX12_both_68 (by decide) ?_
              refine lv_goto (tgt := 73) (pc := 69) hx hb dX12_both_69 (by decide) ?_
              rw [← Option.some.inj hm]
              exact W.iret hx hb hr (fun t ht _ => ⟨rfl, ht⟩) (fun _ h => by cases h) dX12_both_73 hlocks
          · rw [if_neg hs4] at hm
            by_cases hs5 : q1 = 9
            · rw [if_pos hs5] at hm
              rw [hs5]
              refine lv_tableIn (tgt := 74) (pc := 1) hx hb dX12_both_1 (by decide) (by decide) rfl (by decide) ?_
              refine lv_iload_n (pc := 74) hx hb dX12_both_74 rfl (lv_at hl 1 rfl) ?_
              refine lv_if_eq (tgt := 86) (pc := 75) hx hb dX12_both_75 (by decide) (fun hc => ?_) (fun hc => ?_)
              · rw [if_pos hc] at hm
                refine lv_iconst (v := 0) (pc := 86) hx hb dX12_both_86 (by decide) ?_
                rw [← Option.some.inj hm]
                exact W.iret hx hb hr (fun t ht _ => ⟨rfl, ht⟩) (fun _ h => by cases h) dX12_both_87 hlocks
              · rw [if_neg hc] at hm
                refine lv_iload_n (pc := 78) hx hb dX12_both_78 rfl (lv_at hl 2 rfl) ?_
                refine lv_if_eq (tgt := 86) (pc := 79) hx hb dX12_both_79 (by decide) (fun hc => ?_) (fun hc => ?_)
                · rw [if_pos hc] at hm
                  refine lv_iconst (v := 0) (pc := 86) hx hb dX12_both_86 (by decide) ?_
                  rw [← Option.some.inj hm]
                  exact W.iret hx hb hr (fun t ht _ => ⟨rfl, ht⟩) (fun _ h => by cases h) dX12_both_87 hlocks
                · rw [if_neg hc] at hm
                  refine lv_iconst (v := 1) (pc := 82) hx hb dX12_both_82 (by decide) ?_
                  refine lv_goto (tgt := 87) (pc := 83) hx hb dX12_both_83 (by decide) ?_
                  rw [← Option.some.inj hm]
                  exact W.iret hx hb hr (fun t ht _ => ⟨rfl, ht⟩) (fun _ h => by cases h) dX12_both_87 hlocks
            · rw [if_neg hs5] at hm
              refine lv_tableOut (tgt := 88) (pc := 1) hx hb dX12_both_1 (sw_out (by decide) (by decide) (by intro v h1 h2; rcases (show v = 4 ∨ v = 5 ∨ v = 6 ∨ v = 7 ∨ v = 8 ∨ v = 9 by omega) with rfl | rfl | rfl | rfl | rfl | rfl <;> assumption)) (by decide) ?_
              refine lv_iload_n (pc := 88) hx hb dX12_both_88 rfl (lv_at hl 1 rfl) ?_
              refine lv_if_ne (tgt := 96) (pc := 89) hx hb dX12_both_89 (by decide) (fun hc => ?_) (fun hc => ?_)
              · rw [if_neg hc] at hm
                refine lv_iconst (v := 1) (pc := 96) hx hb dX12_both_96 (by decide) ?_
                refine lv_goto (tgt := 101) (pc := 97) hx hb dX12_both_97 (by decide) ?_
                rw [← Option.some.inj hm]
                exact W.iret hx hb hr (fun t ht _ => ⟨rfl, ht⟩) (fun _ h => by cases h) dX12_both_101 hlocks
              · rw [if_pos hc] at hm
                refine lv_iload_n (pc := 92) hx hb dX12_both_92 rfl (lv_at hl 2 rfl) ?_
                refine lv_if_eq (tgt := 100) (pc := 93) hx hb dX12_both_93 (by decide) (fun hc => ?_) (fun hc => ?_)
                · rw [if_pos hc] at hm
                  refine lv_iconst (v := 0) (pc := 100) hx hb dX12_both_100 (by decide) ?_
                  rw [← Option.some.inj hm]
                  exact W.iret hx hb hr (fun t ht _ => ⟨rfl, ht⟩) (fun _ h => by cases h) dX12_both_101 hlocks
                · rw [if_neg hc] at hm
                  refine lv_iconst (v := 1) (pc := 96) hx hb dX12_both_96 (by decide) ?_
                  refine lv_goto (tgt := 101) (pc := 97) hx hb dX12_both_97 (by decide) ?_
                  rw [← Option.some.inj hm]
                  exact W.iret hx hb hr (fun t ht _ => ⟨rfl, ht⟩) (fun _ h => by cases h) dX12_both_101 hlocks
theorem dX12_worthAt_0 : decode cX12_worthAt 0 = .ok (.iconst 0, 1) := by decide +kernel
theorem dX12_worthAt_1 : decode cX12_worthAt 1 = .ok (.istore_n 2, 1) := by decide +kernel
theorem dX12_worthAt_2 : decode cX12_worthAt 2 = .ok (.iload_n 1, 1) := by decide +kernel
theorem dX12_worthAt_3 : decode cX12_worthAt 3 = .ok (.istore_n 3, 1) := by decide +kernel
theorem dX12_worthAt_4 : decode cX12_worthAt 4 = .ok (.aload_n 0, 1) := by decide +kernel
theorem dX12_worthAt_5 : decode cX12_worthAt 5 = .ok (.getfield 92, 3) := by decide +kernel
theorem dX12_worthAt_8 : decode cX12_worthAt 8 = .ok (.iload_n 3, 1) := by decide +kernel
theorem dX12_worthAt_9 : decode cX12_worthAt 9 = .ok (.iaload, 1) := by decide +kernel
theorem dX12_worthAt_10 : decode cX12_worthAt 10 = .ok (.ifCond .eq 130, 3) := by decide +kernel
theorem dX12_worthAt_13 : decode cX12_worthAt 13 = .ok (.aload_n 0, 1) := by decide +kernel
theorem dX12_worthAt_14 : decode cX12_worthAt 14 = .ok (.getfield 92, 3) := by decide +kernel
theorem dX12_worthAt_17 : decode cX12_worthAt 17 = .ok (.iload_n 3, 1) := by decide +kernel
theorem dX12_worthAt_18 : decode cX12_worthAt 18 = .ok (.iaload, 1) := by decide +kernel
theorem dX12_worthAt_19 : decode cX12_worthAt 19 = .ok (.istore 4, 2) := by decide +kernel
theorem dX12_worthAt_21 : decode cX12_worthAt 21 = .ok (.iload 4, 2) := by decide +kernel
theorem dX12_worthAt_23 : decode cX12_worthAt 23 = .ok (.iconst 1, 1) := by decide +kernel
theorem dX12_worthAt_24 : decode cX12_worthAt 24 = .ok (.if_icmp .eq 9, 3) := by decide +kernel
theorem dX12_worthAt_27 : decode cX12_worthAt 27 = .ok (.iload 4, 2) := by decide +kernel
theorem dX12_worthAt_29 : decode cX12_worthAt 29 = .ok (.iconst 2, 1) := by decide +kernel
theorem dX12_worthAt_30 : decode cX12_worthAt 30 = .ok (.if_icmp .ne 41, 3) := by decide +kernel
theorem dX12_worthAt_33 : decode cX12_worthAt 33 = .ok (.aload_n 0, 1) := by decide +kernel
theorem dX12_worthAt_34 : decode cX12_worthAt 34 = .ok (.getfield 110, 3) := by decide +kernel
theorem dX12_worthAt_37 : decode cX12_worthAt 37 = .ok (.iload_n 2, 1) := by decide +kernel
theorem dX12_worthAt_38 : decode cX12_worthAt 38 = .ok (.iload 4, 2) := by decide +kernel
theorem dX12_worthAt_40 : decode cX12_worthAt 40 = .ok (.iconst 1, 1) := by decide +kernel
theorem dX12_worthAt_41 : decode cX12_worthAt 41 = .ok (.if_icmp .ne 12, 3) := by decide +kernel
theorem dX12_worthAt_44 : decode cX12_worthAt 44 = .ok (.aload_n 0, 1) := by decide +kernel
theorem dX12_worthAt_45 : decode cX12_worthAt 45 = .ok (.getfield 95, 3) := by decide +kernel
theorem dX12_worthAt_48 : decode cX12_worthAt 48 = .ok (.iload_n 3, 1) := by decide +kernel
theorem dX12_worthAt_49 : decode cX12_worthAt 49 = .ok (.iaload, 1) := by decide +kernel
theorem dX12_worthAt_50 : decode cX12_worthAt 50 = .ok (.goto 14, 3) := by decide +kernel
theorem dX12_worthAt_53 : decode cX12_worthAt 53 = .ok (.aload_n 0, 1) := by decide +kernel
theorem dX12_worthAt_54 : decode cX12_worthAt 54 = .ok (.getfield 107, 3) := by decide +kernel
theorem dX12_worthAt_57 : decode cX12_worthAt 57 = .ok (.aload_n 0, 1) := by decide +kernel
theorem dX12_worthAt_58 : decode cX12_worthAt 58 = .ok (.getfield 95, 3) := by decide +kernel
theorem dX12_worthAt_61 : decode cX12_worthAt 61 = .ok (.iload_n 3, 1) := by decide +kernel
theorem dX12_worthAt_62 : decode cX12_worthAt 62 = .ok (.iaload, 1) := by decide +kernel
theorem dX12_worthAt_63 : decode cX12_worthAt 63 = .ok (.iaload, 1) := by decide +kernel
theorem dX12_worthAt_64 : decode cX12_worthAt 64 = .ok (.iastore, 1) := by decide +kernel
theorem dX12_worthAt_65 : decode cX12_worthAt 65 = .ok (.iinc 2 1, 3) := by decide +kernel
theorem dX12_worthAt_68 : decode cX12_worthAt 68 = .ok (.goto 66, 3) := by decide +kernel
theorem dX12_worthAt_71 : decode cX12_worthAt 71 = .ok (.iload 4, 2) := by decide +kernel
theorem dX12_worthAt_73 : decode cX12_worthAt 73 = .ok (.iconst 3, 1) := by decide +kernel
theorem dX12_worthAt_74 : decode cX12_worthAt 74 = .ok (.if_icmp .ne 30, 3) := by decide +kernel
theorem dX12_worthAt_77 : decode cX12_worthAt 77 = .ok (.aload_n 0, 1) := by decide +kernel
theorem dX12_worthAt_78 : decode cX12_worthAt 78 = .ok (.getfield 110, 3) := by decide +kernel
theorem dX12_worthAt_81 : decode cX12_worthAt 81 = .ok (.iload_n 2, 1) := by decide +kernel
theorem dX12_worthAt_82 : decode cX12_worthAt 82 = .ok (.iconst 1, 1) := by decide +kernel
theorem dX12_worthAt_83 : decode cX12_worthAt 83 = .ok (.isub, 1) := by decide +kernel
theorem dX12_worthAt_84 : decode cX12_worthAt 84 = .ok (.aload_n 0, 1) := by decide +kernel
theorem dX12_worthAt_85 : decode cX12_worthAt 85 = .ok (.getfield 110, 3) := by decide +kernel
theorem dX12_worthAt_88 : decode cX12_worthAt 88 = .ok (.iload_n 2, 1) := by decide +kernel
theorem dX12_worthAt_89 : decode cX12_worthAt 89 = .ok (.iconst 1, 1) := by decide +kernel
theorem dX12_worthAt_90 : decode cX12_worthAt 90 = .ok (.isub, 1) := by decide +kernel
theorem dX12_worthAt_91 : decode cX12_worthAt 91 = .ok (.iaload, 1) := by decide +kernel
theorem dX12_worthAt_92 : decode cX12_worthAt 92 = .ok (.ifCond .ne 7, 3) := by decide +kernel
theorem dX12_worthAt_95 : decode cX12_worthAt 95 = .ok (.iconst 1, 1) := by decide +kernel
theorem dX12_worthAt_96 : decode cX12_worthAt 96 = .ok (.goto 4, 3) := by decide +kernel
theorem dX12_worthAt_99 : decode cX12_worthAt 99 = .ok (.iconst 0, 1) := by decide +kernel
theorem dX12_worthAt_100 : decode cX12_worthAt 100 = .ok (.iastore, 1) := by decide +kernel
theorem dX12_worthAt_101 : decode cX12_worthAt 101 = .ok (.goto 33, 3) := by decide +kernel
theorem dX12_worthAt_104 : decode cX12_worthAt 104 = .ok (.iinc 2 (-1), 3) := by decide +kernel
theorem dX12_worthAt_107 : decode cX12_worthAt 107 = .ok (.aload_n 0, 1) := by decide +kernel
theorem dX12_worthAt_108 : decode cX12_worthAt 108 = .ok (.getfield 110, 3) := by decide +kernel
theorem dX12_worthAt_111 : decode cX12_worthAt 111 = .ok (.iload_n 2, 1) := by decide +kernel
theorem dX12_worthAt_112 : decode cX12_worthAt 112 = .ok (.iconst 1, 1) := by decide +kernel
theorem dX12_worthAt_113 : decode cX12_worthAt 113 = .ok (.isub, 1) := by decide +kernel
theorem dX12_worthAt_114 : decode cX12_worthAt 114 = .ok (.iload 4, 2) := by decide +kernel
theorem dX12_worthAt_116 : decode cX12_worthAt 116 = .ok (.aload_n 0, 1) := by decide +kernel
theorem dX12_worthAt_117 : decode cX12_worthAt 117 = .ok (.getfield 110, 3) := by decide +kernel
theorem dX12_worthAt_120 : decode cX12_worthAt 120 = .ok (.iload_n 2, 1) := by decide +kernel
theorem dX12_worthAt_121 : decode cX12_worthAt 121 = .ok (.iconst 1, 1) := by decide +kernel
theorem dX12_worthAt_122 : decode cX12_worthAt 122 = .ok (.isub, 1) := by decide +kernel
theorem dX12_worthAt_123 : decode cX12_worthAt 123 = .ok (.iaload, 1) := by decide +kernel
theorem dX12_worthAt_124 : decode cX12_worthAt 124 = .ok (.aload_n 0, 1) := by decide +kernel
theorem dX12_worthAt_125 : decode cX12_worthAt 125 = .ok (.getfield 110, 3) := by decide +kernel
theorem dX12_worthAt_128 : decode cX12_worthAt 128 = .ok (.iload_n 2, 1) := by decide +kernel
theorem dX12_worthAt_129 : decode cX12_worthAt 129 = .ok (.iaload, 1) := by decide +kernel
theorem dX12_worthAt_130 : decode cX12_worthAt 130 = .ok (.invokestatic 252, 3) := by decide +kernel
theorem dX12_worthAt_133 : decode cX12_worthAt 133 = .ok (.iastore, 1) := by decide +kernel
theorem dX12_worthAt_134 : decode cX12_worthAt 134 = .ok (.iinc 3 1, 3) := by decide +kernel
theorem dX12_worthAt_137 : decode cX12_worthAt 137 = .ok (.goto (-133), 3) := by decide +kernel
theorem dX12_worthAt_140 : decode cX12_worthAt 140 = .ok (.aload_n 0, 1) := by decide +kernel
theorem dX12_worthAt_141 : decode cX12_worthAt 141 = .ok (.getfield 110, 3) := by decide +kernel
theorem dX12_worthAt_144 : decode cX12_worthAt 144 = .ok (.iconst 0, 1) := by decide +kernel
theorem dX12_worthAt_145 : decode cX12_worthAt 145 = .ok (.iaload, 1) := by decide +kernel
theorem dX12_worthAt_146 : decode cX12_worthAt 146 = .ok (.ireturn, 1) := by decide +kernel
abbrev wd_X12_worthAt (k : Nat → ClassId) (this : Nat) (this_thrown : Int32) (this_tape : Nat) (this_taped : Int32) (this_size : Int32) (this_sort : Nat) (this_place : Nat) (this_value : Nat) (this_at : Int32) (this_fault : Int32) (this_words : Nat) (this_towns : Nat) (this_op : Nat) (this_op_f : Nat → Int32) (this_arg : Nat) (this_arg_f : Nat → Int32) (this_codes : Int32) (this_names : Nat) (this_readNames : Nat) (this_namesMany : Int32) (this_readMany : Int32) (this_once : Int32) (this_lines : Nat) (this_facts : Nat) (this_facts_f : Nat → Int32) (this_pile : Nat) (this_pile_f : Nat → Int32) (this_state : Nat) (this_undos : Int32) (this_isMarked : Nat) (this_weight : Int32) (this_rounding : Int32) (this_lacks : Nat) (this_alikes : Nat) (this_g : Int64) : va_W := [(this, .inr (10, [.int this_thrown, .ref this_tape, .int this_taped, .int this_size, .ref this_sort, .ref this_place, .ref this_value, .int this_at, .int this_fault, .ref this_words, .ref this_towns, .ref this_op, .ref this_arg, .int this_codes, .ref this_names, .ref this_readNames, .int this_namesMany, .int this_readMany, .int this_once, .ref this_lines, .ref this_facts, .ref this_pile, .ref this_state, .int this_undos, .ref this_isMarked, .int this_weight, .int this_rounding, .ref this_lacks, .ref this_alikes, .long this_g])), (this_op, .inl (k 0, 2200, .inl this_op_f)), (this_arg, .inl (k 0, 2200, .inl this_arg_f)), (this_facts, .inl (k 0, 4, .inl this_facts_f)), (this_pile, .inl (k 0, 1100, .inl this_pile_f))]
set_option maxHeartbeats 4000000 in
set_option maxRecDepth 100000 in
theorem c_X12_worthAt (l : Launch) (D : va_G) (k : Nat → ClassId) (this : Nat) (this_thrown : Int32) (this_tape : Nat) (this_taped : Int32) (this_size : Int32) (this_sort : Nat) (this_place : Nat) (this_value : Nat) (this_at : Int32) (this_fault : Int32) (this_words : Nat) (this_towns : Nat) (this_op : Nat) (this_op_f : Nat → Int32) (this_arg : Nat) (this_arg_f : Nat → Int32) (this_codes : Int32) (this_names : Nat) (this_readNames : Nat) (this_namesMany : Int32) (this_readMany : Int32) (this_once : Int32) (this_lines : Nat) (this_facts : Nat) (this_facts_f : Nat → Int32) (this_pile : Nat) (this_pile_f : Nat → Int32) (this_state : Nat) (this_undos : Int32) (this_isMarked : Nat) (this_weight : Int32) (this_rounding : Int32) (this_lacks : Nat) (this_alikes : Nat) (this_g : Int64) (q1 : Int32) (R0 : Int32 × (Nat → Int32)) (hm : m_X12_worthAt this_op_f this_arg_f this_facts_f this_pile_f q1 = some R0) : CW l D (TY k) yX12_worthAt cX12_worthAt 5 (some .int) 1 22 [.ref this, .int q1] (wd_X12_worthAt k this this_thrown this_tape this_taped this_size this_sort this_place this_value this_at this_fault this_words this_towns this_op this_op_f this_arg this_arg_f this_codes this_names this_readNames this_namesMany this_readMany this_once this_lines this_facts this_facts_f this_pile this_pile_f this_state this_undos this_isMarked this_weight this_rounding this_lacks this_alikes this_g) (some (.int R0.1)) (wd_X12_worthAt k this this_thrown this_tape this_taped this_size this_sort this_place this_value this_at this_fault this_words this_towns this_op this_op_f this_arg this_arg_f this_codes this_names this_readNames this_namesMany this_readMany this_once this_lines this_facts this_facts_f this_pile R0.2 this_state this_undos this_isMarked this_weight this_rounding this_lacks this_alikes this_g) := by
  refine CW.mk (by decide) (Nat.le_of_ble_eq_true rfl) ?_
  intro p e s m args below meth c ls A ⟨hx, hb, hr, hts, hown, hlocks, hml⟩ hP hG hD hA hl hS hq
  have hl : lv_has ls 5 [(0, .ref this), (1, .int q1)] := hl
  have h_100 : ∀ (K4 : Int32 → Int32 → (Nat → Int32) → Option (Int32 × (Nat → Int32))) (hK4 : ∀ (x2 : Int32) (x3 : Int32) (u_this_pile_f : Nat → Int32) (H : Heap) (locs : List Loc) (ls : Array Slot), va_P D vwCl (wd_X12_worthAt k this this_thrown this_tape this_taped this_size this_sort this_place this_value this_at this_fault this_words this_towns this_op this_op_f this_arg this_arg_f this_codes this_names this_readNames this_namesMany this_readMany this_once this_lines this_facts this_facts_f this_pile u_this_pile_f this_state this_undos this_isMarked this_weight this_rounding this_lacks this_alikes this_g) H → va_D A (wd_X12_worthAt k this this_thrown this_tape this_taped this_size this_sort this_place this_value this_at this_fault this_words this_towns this_op this_op_f this_arg this_arg_f this_codes this_names this_readNames this_namesMany this_readMany this_once this_lines this_facts this_facts_f this_pile u_this_pile_f this_state this_undos this_isMarked this_weight this_rounding this_lacks this_alikes this_g) → va_S A s.heap H locs → lv_has ls 5 [(0, .ref this), (2, .int x2), (3, .int x3)] → K4 x2 x3 u_this_pile_f = some R0 → W p l e (Rm 1 22) s m args below meth c H locs 0 0 (MQ below (QW D (some (.int R0.1)) (wd_X12_worthAt k this this_thrown this_tape this_taped this_size this_sort this_place this_value this_at this_fault this_words this_towns this_op this_op_f this_arg this_arg_f this_codes this_names this_readNames this_namesMany this_readMany this_once this_lines this_facts this_facts_f this_pile this_pile_f this_state this_undos this_isMarked this_weight this_rounding this_lacks this_alikes this_g) (wd_X12_worthAt k this this_thrown this_tape this_taped this_size this_sort this_place this_value this_at this_fault this_words this_towns this_op this_op_f this_arg this_arg_f this_codes this_names this_readNames this_namesMany this_readMany this_once this_lines this_facts this_facts_f this_pile R0.2 this_state this_undos this_isMarked this_weight this_rounding this_lacks this_alikes this_g) s.heap.size) args s 0 0 A) (F0 m 4 ls [])), ∀ (x2 : Int32) (x3 : Int32) (t0 : Int32) (t1 : Int32) (u_this_pile_f : Nat → Int32) (H : Heap) (locs : List Loc) (ls : Array Slot), va_P D vwCl (wd_X12_worthAt k this this_thrown this_tape this_taped this_size this_sort this_place this_value this_at this_fault this_words this_towns this_op this_op_f this_arg this_arg_f this_codes this_names this_readNames this_namesMany this_readMany this_once this_lines this_facts this_facts_f this_pile u_this_pile_f this_state this_undos this_isMarked this_weight this_rounding this_lacks this_alikes this_g) H → va_D A (wd_X12_worthAt k this this_thrown this_tape this_taped this_size this_sort this_place this_value this_at this_fault this_words this_towns this_op this_op_f this_arg this_arg_f this_codes this_names this_readNames this_namesMany this_readMany this_once this_lines this_facts this_facts_f this_pile u_this_pile_f this_state this_undos this_isMarked this_weight this_rounding this_lacks this_alikes this_g) → va_S A s.heap H locs → lv_has ls 5 [(0, .ref this), (2, .int x2), (3, .int x3)] → m_X12_worthAt_100 this_op_f this_arg_f this_facts_f q1 K4 x2 x3 t0 t1 u_this_pile_f = some R0 → W p l e (Rm 1 22) s m args below meth c H locs 0 0 (MQ below (QW D (some (.int R0.1)) (wd_X12_worthAt k this this_thrown this_tape this_taped this_size this_sort this_place this_value this_at this_fault this_words this_towns this_op this_op_f this_arg this_arg_f this_codes this_names this_readNames this_namesMany this_readMany this_once this_lines this_facts this_facts_f this_pile this_pile_f this_state this_undos this_isMarked this_weight this_rounding this_lacks this_alikes this_g) (wd_X12_worthAt k this this_thrown this_tape this_taped this_size this_sort this_place this_value this_at this_fault this_words this_towns this_op this_op_f this_arg this_arg_f this_codes this_names this_readNames this_namesMany this_readMany this_once this_lines this_facts this_facts_f this_pile R0.2 this_state this_undos this_isMarked this_weight this_rounding this_lacks this_alikes this_g) s.heap.size) args s 0 0 A) (F0 m 100 ls [.int t0, .int t1, .ref this_pile]) := by
    intro K4 hK4 x2 x3 t0 t1 u_this_pile_f H locs ls hP hD hS hl hm
    unfold m_X12_worthAt_100 at hm
    obtain ⟨hin, hm⟩ := gd hm
    refine va_iast (pc := 100) (D := D) hx hb hG.1 hP hD hS 4 0 rfl rfl hin dX12_worthAt_100 (fun H locs hP hD hS => ?_)
    have hP : va_P D vwCl (wd_X12_worthAt k this this_thrown this_tape this_taped this_size this_sort this_place this_value this_at this_fault this_words this_towns this_op this_op_f this_arg this_arg_f this_codes this_names this_readNames this_namesMany this_readMany this_once this_lines this_facts this_facts_f this_pile (upd u_this_pile_f t1.toNatClampNeg t0) this_state this_undos this_isMarked this_weight this_rounding this_lacks this_alikes this_g) H := hP
    have hD : va_D A (wd_X12_worthAt k this this_thrown this_tape this_taped this_size this_sort this_place this_value this_at this_fault this_words this_towns this_op this_op_f this_arg this_arg_f this_codes this_names this_readNames this_namesMany this_readMany this_once this_lines this_facts this_facts_f this_pile (upd u_this_pile_f t1.toNatClampNeg t0) this_state this_undos this_isMarked this_weight this_rounding this_lacks this_alikes this_g) := hD
    refine lv_goto (tgt := 134) (pc := 101) hx hb dX12_worthAt_101 (by decide) ?_
    refine lv_iinc (k := 2) (v := x3 + 1) (lv' := [(3, .int (x3 + 1)), (0, .ref this), (2, .int x2)]) (pc := 134) hx hb dX12_worthAt_134 hl rfl rfl (Nat.le_of_ble_eq_true rfl) rfl (fun ls hl => ?_)
    refine lv_goto (tgt := 4) (pc := 137) hx hb dX12_worthAt_137 (by decide) ?_
    exact hK4 x2 (x3 + 1) (upd u_this_pile_f t1.toNatClampNeg t0) H locs ls hP hD hS (lv_sub hl [1, 2, 0] rfl) hm
  have h_64 : ∀ (K4 : Int32 → Int32 → (Nat → Int32) → Option (Int32 × (Nat → Int32))) (hK4 : ∀ (x2 : Int32) (x3 : Int32) (u_this_pile_f : Nat → Int32) (H : Heap) (locs : List Loc) (ls : Array Slot), va_P D vwCl (wd_X12_worthAt k this this_thrown this_tape this_taped this_size this_sort this_place this_value this_at this_fault this_words this_towns this_op this_op_f this_arg this_arg_f this_codes this_names this_readNames this_namesMany this_readMany this_once this_lines this_facts this_facts_f this_pile u_this_pile_f this_state this_undos this_isMarked this_weight this_rounding this_lacks this_alikes this_g) H → va_D A (wd_X12_worthAt k this this_thrown this_tape this_taped this_size this_sort this_place this_value this_at this_fault this_words this_towns this_op this_op_f this_arg this_arg_f this_codes this_names this_readNames this_namesMany this_readMany this_once this_lines this_facts this_facts_f this_pile u_this_pile_f this_state this_undos this_isMarked this_weight this_rounding this_lacks this_alikes this_g) → va_S A s.heap H locs → lv_has ls 5 [(0, .ref this), (2, .int x2), (3, .int x3)] → K4 x2 x3 u_this_pile_f = some R0 → W p l e (Rm 1 22) s m args below meth c H locs 0 0 (MQ below (QW D (some (.int R0.1)) (wd_X12_worthAt k this this_thrown this_tape this_taped this_size this_sort this_place this_value this_at this_fault this_words this_towns this_op this_op_f this_arg this_arg_f this_codes this_names this_readNames this_namesMany this_readMany this_once this_lines this_facts this_facts_f this_pile this_pile_f this_state this_undos this_isMarked this_weight this_rounding this_lacks this_alikes this_g) (wd_X12_worthAt k this this_thrown this_tape this_taped this_size this_sort this_place this_value this_at this_fault this_words this_towns this_op this_op_f this_arg this_arg_f this_codes this_names this_readNames this_namesMany this_readMany this_once this_lines this_facts this_facts_f this_pile R0.2 this_state this_undos this_isMarked this_weight this_rounding this_lacks this_alikes this_g) s.heap.size) args s 0 0 A) (F0 m 4 ls [])), ∀ (x2 : Int32) (x3 : Int32) (t0 : Int32) (t1 : Int32) (u_this_pile_f : Nat → Int32) (H : Heap) (locs : List Loc) (ls : Array Slot), va_P D vwCl (wd_X12_worthAt k this this_thrown this_tape this_taped this_size this_sort this_place this_value this_at this_fault this_words this_towns this_op this_op_f this_arg this_arg_f this_codes this_names this_readNames this_namesMany this_readMany this_once this_lines this_facts this_facts_f this_pile u_this_pile_f this_state this_undos this_isMarked this_weight this_rounding this_lacks this_alikes this_g) H → va_D A (wd_X12_worthAt k this this_thrown this_tape this_taped this_size this_sort this_place this_value this_at this_fault this_words this_towns this_op this_op_f this_arg this_arg_f this_codes this_names this_readNames this_namesMany this_readMany this_once this_lines this_facts this_facts_f this_pile u_this_pile_f this_state this_undos this_isMarked this_weight this_rounding this_lacks this_alikes this_g) → va_S A s.heap H locs → lv_has ls 5 [(0, .ref this), (2, .int x2), (3, .int x3)] → m_X12_worthAt_64 this_op_f this_arg_f this_facts_f q1 K4 x2 x3 t0 t1 u_this_pile_f = some R0 → W p l e (Rm 1 22) s m args below meth c H locs 0 0 (MQ below (QW D (some (.int R0.1)) (wd_X12_worthAt k this this_thrown this_tape this_taped this_size this_sort this_place this_value this_at this_fault this_words this_towns this_op this_op_f this_arg this_arg_f this_codes this_names this_readNames this_namesMany this_readMany this_once this_lines this_facts this_facts_f this_pile this_pile_f this_state this_undos this_isMarked this_weight this_rounding this_lacks this_alikes this_g) (wd_X12_worthAt k this this_thrown this_tape this_taped this_size this_sort this_place this_value this_at this_fault this_words this_towns this_op this_op_f this_arg this_arg_f this_codes this_names this_readNames this_namesMany this_readMany this_once this_lines this_facts this_facts_f this_pile R0.2 this_state this_undos this_isMarked this_weight this_rounding this_lacks this_alikes this_g) s.heap.size) args s 0 0 A) (F0 m 64 ls [.int t0, .int t1, .ref this_pile]) := by
    intro K4 hK4 x2 x3 t0 t1 u_this_pile_f H locs ls hP hD hS hl hm
    unfold m_X12_worthAt_64 at hm
    obtain ⟨hin, hm⟩ := gd hm
    refine va_iast (pc := 64) (D := D) hx hb hG.1 hP hD hS 4 0 rfl rfl hin dX12_worthAt_64 (fun H locs hP hD hS => ?_)
    have hP : va_P D vwCl (wd_X12_worthAt k this this_thrown this_tape this_taped this_size this_sort this_place this_value this_at this_fault this_words this_towns this_op this_op_f this_arg this_arg_f this_codes this_names this_readNames this_namesMany this_readMany this_once this_lines this_facts this_facts_f this_pile (upd u_this_pile_f t1.toNatClampNeg t0) this_state this_undos this_isMarked this_weight this_rounding this_lacks this_alikes this_g) H := hP
    have hD : va_D A (wd_X12_worthAt k this this_thrown this_tape this_taped this_size this_sort this_place this_value this_at this_fault this_words this_towns this_op this_op_f this_arg this_arg_f this_codes this_names this_readNames this_namesMany this_readMany this_once this_lines this_facts this_facts_f this_pile (upd u_this_pile_f t1.toNatClampNeg t0) this_state this_undos this_isMarked this_weight this_rounding this_lacks this_alikes this_g) := hD
    refine lv_iinc (k := 1) (v := x2 + 1) (lv' := [(2, .int (x2 + 1)), (0, .ref this), (3, .int x3)]) (pc := 65) hx hb dX12_worthAt_65 hl rfl rfl (Nat.le_of_ble_eq_true rfl) rfl (fun ls hl => ?_)
    refine lv_goto (tgt := 134) (pc := 68) hx hb dX12_worthAt_68 (by decide) ?_
    refine lv_iinc (k := 2) (v := x3 + 1) (lv' := [(3, .int (x3 + 1)), (2, .int (x2 + 1)), (0, .ref this)]) (pc := 134) hx hb dX12_worthAt_134 hl rfl rfl (Nat.le_of_ble_eq_true rfl) rfl (fun ls hl => ?_)
    refine lv_goto (tgt := 4) (pc := 137) hx hb dX12_worthAt_137 (by decide) ?_
    exact hK4 (x2 + 1) (x3 + 1) (upd u_this_pile_f t1.toNatClampNeg t0) H locs ls hP hD hS (lv_sub hl [2, 1, 0] rfl) hm
  have h_33 : ∀ (K4 : Int32 → Int32 → (Nat → Int32) → Option (Int32 × (Nat → Int32))) (hK4 : ∀ (x2 : Int32) (x3 : Int32) (u_this_pile_f : Nat → Int32) (H : Heap) (locs : List Loc) (ls : Array Slot), va_P D vwCl (wd_X12_worthAt k this this_thrown this_tape this_taped this_size this_sort this_place this_value this_at this_fault this_words this_towns this_op this_op_f this_arg this_arg_f this_codes this_names this_readNames this_namesMany this_readMany this_once this_lines this_facts this_facts_f this_pile u_this_pile_f this_state this_undos this_isMarked this_weight this_rounding this_lacks this_alikes this_g) H → va_D A (wd_X12_worthAt k this this_thrown this_tape this_taped this_size this_sort this_place this_value this_at this_fault this_words this_towns this_op this_op_f this_arg this_arg_f this_codes this_names this_readNames this_namesMany this_readMany this_once this_lines this_facts this_facts_f this_pile u_this_pile_f this_state this_undos this_isMarked this_weight this_rounding this_lacks this_alikes this_g) → va_S A s.heap H locs → lv_has ls 5 [(0, .ref this), (2, .int x2), (3, .int x3)] → K4 x2 x3 u_this_pile_f = some R0 → W p l e (Rm 1 22) s m args below meth c H locs 0 0 (MQ below (QW D (some (.int R0.1)) (wd_X12_worthAt k this this_thrown this_tape this_taped this_size this_sort this_place this_value this_at this_fault this_words this_towns this_op this_op_f this_arg this_arg_f this_codes this_names this_readNames this_namesMany this_readMany this_once this_lines this_facts this_facts_f this_pile this_pile_f this_state this_undos this_isMarked this_weight this_rounding this_lacks this_alikes this_g) (wd_X12_worthAt k this this_thrown this_tape this_taped this_size this_sort this_place this_value this_at this_fault this_words this_towns this_op this_op_f this_arg this_arg_f this_codes this_names this_readNames this_namesMany this_readMany this_once this_lines this_facts this_facts_f this_pile R0.2 this_state this_undos this_isMarked this_weight this_rounding this_lacks this_alikes this_g) s.heap.size) args s 0 0 A) (F0 m 4 ls [])), ∀ (x2 : Int32) (x3 : Int32) (x4 : Int32) (u_this_pile_f : Nat → Int32) (H : Heap) (locs : List Loc) (ls : Array Slot), va_P D vwCl (wd_X12_worthAt k this this_thrown this_tape this_taped this_size this_sort this_place this_value this_at this_fault this_words this_towns this_op this_op_f this_arg this_arg_f this_codes this_names this_readNames this_namesMany this_readMany this_once this_lines this_facts this_facts_f this_pile u_this_pile_f this_state this_undos this_isMarked this_weight this_rounding this_lacks this_alikes this_g) H → va_D A (wd_X12_worthAt k this this_thrown this_tape this_taped this_size this_sort this_place this_value this_at this_fault this_words this_towns this_op this_op_f this_arg this_arg_f this_codes this_names this_readNames this_namesMany this_readMany this_once this_lines this_facts this_facts_f this_pile u_this_pile_f this_state this_undos this_isMarked this_weight this_rounding this_lacks this_alikes this_g) → va_S A s.heap H locs → lv_has ls 5 [(0, .ref this), (2, .int x2), (3, .int x3), (4, .int x4)] → m_X12_worthAt_33 this_op_f this_arg_f this_facts_f q1 K4 x2 x3 x4 u_this_pile_f = some R0 → W p l e (Rm 1 22) s m args below meth c H locs 0 0 (MQ below (QW D (some (.int R0.1)) (wd_X12_worthAt k this this_thrown this_tape this_taped this_size this_sort this_place this_value this_at this_fault this_words this_towns this_op this_op_f this_arg this_arg_f this_codes this_names this_readNames this_namesMany this_readMany this_once this_lines this_facts this_facts_f this_pile this_pile_f this_state this_undos this_isMarked this_weight this_rounding this_lacks this_alikes this_g) (wd_X12_worthAt k this this_thrown this_tape this_taped this_size this_sort this_place this_value this_at this_fault this_words this_towns this_op this_op_f this_arg this_arg_f this_codes this_names this_readNames this_namesMany this_readMany this_once this_lines this_facts this_facts_f this_pile R0.2 this_state this_undos this_isMarked this_weight this_rounding this_lacks this_alikes this_g) s.heap.size) args s 0 0 A) (F0 m 33 ls []) := by
    intro K4 hK4 x2 x3 x4 u_this_pile_f H locs ls hP hD hS hl hm
    unfold m_X12_worthAt_33 at hm
    refine lv_aload_n (pc := 33) hx hb dX12_worthAt_33 rfl (lv_at hl 0 rfl) ?_
    refine va_get (pc := 34) (D := D) (ci := 10) (C := RX12) (T := TX12) (N := 30) hx hb hts hiX12 hown hG.1 hP 0 rfl rfl 21 (Nat.le_of_ble_eq_true rfl) (hts _ kw_1278) (fun _ h9 => h9) rfl dX12_worthAt_34 ?_
    refine lv_iload_n (pc := 37) hx hb dX12_worthAt_37 rfl (lv_at hl 1 rfl) ?_
    refine lv_iload (pc := 38) hx hb dX12_worthAt_38 (lv_at hl 3 rfl) ?_
    refine lv_iconst (v := 1) (pc := 40) hx hb dX12_worthAt_40 (by decide) ?_
    refine lv_icmp_ne (tgt := 53) (pc := 41) hx hb dX12_worthAt_41 (by decide) (fun hc => ?_) (fun hc => ?_)
    · rw [if_neg hc] at hm
      refine lv_aload_n (pc := 53) hx hb dX12_worthAt_53 rfl (lv_at hl 0 rfl) ?_
      refine va_get (pc := 54) (D := D) (ci := 10) (C := RX12) (T := TX12) (N := 30) hx hb hts hiX12 hown hG.1 hP 0 rfl rfl 20 (Nat.le_of_ble_eq_true rfl) (hts _ kw_1277) (fun _ h9 => h9) rfl dX12_worthAt_54 ?_
      refine lv_aload_n (pc := 57) hx hb dX12_worthAt_57 rfl (lv_at hl 0 rfl) ?_
      refine va_get (pc := 58) (D := D) (ci := 10) (C := RX12) (T := TX12) (N := 30) hx hb hts hiX12 hown hG.1 hP 0 rfl rfl 12 (Nat.le_of_ble_eq_true rfl) (hts _ kw_1269) (fun _ h9 => h9) rfl dX12_worthAt_58 ?_
      refine lv_iload_n (pc := 61) hx hb dX12_worthAt_61 rfl (lv_at hl 2 rfl) ?_
      obtain ⟨hin, hm⟩ := gd hm
      refine va_iald (pc := 62) (D := D) hx hb hG.1 hP 2 0 rfl rfl hin dX12_worthAt_62 ?_
      obtain ⟨hin, hm⟩ := gd hm
      refine va_iald (pc := 63) (D := D) hx hb hG.1 hP 3 0 rfl rfl hin dX12_worthAt_63 ?_
      exact h_64 K4 hK4 x2 x3 (this_facts_f (this_arg_f x3.toNatClampNeg).toNatClampNeg) x2 u_this_pile_f H locs ls hP hD hS (lv_sub hl [0, 1, 2] rfl) hm
    · rw [if_pos hc] at hm
      refine lv_aload_n (pc := 44) hx hb dX12_worthAt_44 rfl (lv_at hl 0 rfl) ?_
      refine va_get (pc := 45) (D := D) (ci := 10) (C := RX12) (T := TX12) (N := 30) hx hb hts hiX12 hown hG.1 hP 0 rfl rfl 12 (Nat.le_of_ble_eq_true rfl) (hts _ kw_1269) (fun _ h9 => h9) rfl dX12_worthAt_45 ?_
      refine lv_iload_n (pc := 48) hx hb dX12_worthAt_48 rfl (lv_at hl 2 rfl) ?_
      obtain ⟨hin, hm⟩ := gd hm
      refine va_iald (pc := 49) (D := D) hx hb hG.1 hP 2 0 rfl rfl hin dX12_worthAt_49 ?_
      refine lv_goto (tgt := 64) (pc := 50) hx hb dX12_worthAt_50 (by decide) ?_
      exact h_64 K4 hK4 x2 x3 (this_arg_f x3.toNatClampNeg) x2 u_this_pile_f H locs ls hP hD hS (lv_sub hl [0, 1, 2] rfl) hm
  have h_4 : ∀ (n : Nat), ∀ (x2 : Int32) (x3 : Int32) (u_this_pile_f : Nat → Int32) (H : Heap) (locs : List Loc) (ls : Array Slot), va_P D vwCl (wd_X12_worthAt k this this_thrown this_tape this_taped this_size this_sort this_place this_value this_at this_fault this_words this_towns this_op this_op_f this_arg this_arg_f this_codes this_names this_readNames this_namesMany this_readMany this_once this_lines this_facts this_facts_f this_pile u_this_pile_f this_state this_undos this_isMarked this_weight this_rounding this_lacks this_alikes this_g) H → va_D A (wd_X12_worthAt k this this_thrown this_tape this_taped this_size this_sort this_place this_value this_at this_fault this_words this_towns this_op this_op_f this_arg this_arg_f this_codes this_names this_readNames this_namesMany this_readMany this_once this_lines this_facts this_facts_f this_pile u_this_pile_f this_state this_undos this_isMarked this_weight this_rounding this_lacks this_alikes this_g) → va_S A s.heap H locs → lv_has ls 5 [(0, .ref this), (2, .int x2), (3, .int x3)] → m_X12_worthAt_4 this_op_f this_arg_f this_facts_f q1 n x2 x3 u_this_pile_f = some R0 → W p l e (Rm 1 22) s m args below meth c H locs 0 0 (MQ below (QW D (some (.int R0.1)) (wd_X12_worthAt k this this_thrown this_tape this_taped this_size this_sort this_place this_value this_at this_fault this_words this_towns this_op this_op_f this_arg this_arg_f this_codes this_names this_readNames this_namesMany this_readMany this_once this_lines this_facts this_facts_f this_pile this_pile_f this_state this_undos this_isMarked this_weight this_rounding this_lacks this_alikes this_g) (wd_X12_worthAt k this this_thrown this_tape this_taped this_size this_sort this_place this_value this_at this_fault this_words this_towns this_op this_op_f this_arg this_arg_f this_codes this_names this_readNames this_namesMany this_readMany this_once this_lines this_facts this_facts_f this_pile R0.2 this_state this_undos this_isMarked this_weight this_rounding this_lacks this_alikes this_g) s.heap.size) args s 0 0 A) (F0 m 4 ls []) := by
    intro n
    induction n with
    | zero => intro x2 x3 u_this_pile_f H locs ls hP hD hS hl hm; cases hm
    | succ n ih =>
      intro x2 x3 u_this_pile_f H locs ls hP hD hS hl hm
      unfold m_X12_worthAt_4 at hm
      refine lv_aload_n (pc := 4) hx hb dX12_worthAt_4 rfl (lv_at hl 0 rfl) ?_
      refine va_get (pc := 5) (D := D) (ci := 10) (C := RX12) (T := TX12) (N := 30) hx hb hts hiX12 hown hG.1 hP 0 rfl rfl 11 (Nat.le_of_ble_eq_true rfl) (hts _ kw_1268) (fun _ h9 => h9) rfl dX12_worthAt_5 ?_
      refine lv_iload_n (pc := 8) hx hb dX12_worthAt_8 rfl (lv_at hl 2 rfl) ?_
      obtain ⟨hin, hm⟩ := gd hm
      refine va_iald (pc := 9) (D := D) hx hb hG.1 hP 1 0 rfl rfl hin dX12_worthAt_9 ?_
      refine lv_if_eq (tgt := 140) (pc := 10) hx hb dX12_worthAt_10 (by decide) (fun hc => ?_) (fun hc => ?_)
      · rw [if_pos hc] at hm
        refine lv_aload_n (pc := 140) hx hb dX12_worthAt_140 rfl (lv_at hl 0 rfl) ?_
        refine va_get (pc := 141) (D := D) (ci := 10) (C := RX12) (T := TX12) (N := 30) hx hb hts hiX12 hown hG.1 hP 0 rfl rfl 21 (Nat.le_of_ble_eq_true rfl) (hts _ kw_1278) (fun _ h9 => h9) rfl dX12_worthAt_141 ?_
        refine lv_iconst (v := 0) (pc := 144) hx hb dX12_worthAt_144 (by decide) ?_
        refine va_iald (pc := 145) (D := D) hx hb hG.1 hP 4 0 rfl rfl (pn_in (Nat.le_of_ble_eq_true rfl) (Nat.le_of_ble_eq_true rfl)) dX12_worthAt_145 ?_
        rw [← Option.some.inj hm]
        exact W.iret hx hb hr (fun t ht _ => hq _ _ H t ht hP hD locs hS) hS.2.2 dX12_worthAt_146 hlocks
      · rw [if_neg hc] at hm
        refine lv_aload_n (pc := 13) hx hb dX12_worthAt_13 rfl (lv_at hl 0 rfl) ?_
        refine va_get (pc := 14) (D := D) (ci := 10) (C := RX12) (T := TX12) (N := 30) hx hb hts hiX12 hown hG.1 hP 0 rfl rfl 11 (Nat.le_of_ble_eq_true rfl) (hts _ kw_1268) (fun _ h9 => h9) rfl dX12_worthAt_14 ?_
        refine lv_iload_n (pc := 17) hx hb dX12_worthAt_17 rfl (lv_at hl 2 rfl) ?_
        obtain ⟨hin, hm⟩ := gd hm
        refine va_iald (pc := 18) (D := D) hx hb hG.1 hP 1 0 rfl rfl hin dX12_worthAt_18 ?_
        refine lv_istore (lv' := [(4, .int (this_op_f x3.toNatClampNeg)), (0, .ref this), (2, .int x2), (3, .int x3)]) (pc := 19) hx hb dX12_worthAt_19 hl (Nat.le_of_ble_eq_true rfl) rfl (fun ls hl => ?_)
        refine lv_iload (pc := 21) hx hb dX12_worthAt_21 (lv_at hl 0 rfl) ?_
        refine lv_iconst (v := 1) (pc := 23) hx hb dX12_worthAt_23 (by decide) ?_
        refine lv_icmp_eq (tgt := 33) (pc := 24) hx hb dX12_worthAt_24 (by decide) (fun hc => ?_) (fun hc => ?_)
        · rw [if_pos hc] at hm
          exact h_33 (m_X12_worthAt_4 this_op_f this_arg_f this_facts_f q1 n) ih x2 x3 (this_op_f x3.toNatClampNeg) u_this_pile_f H locs ls hP hD hS (lv_sub hl [1, 2, 3, 0] rfl) hm
        · rw [if_neg hc] at hm
          refine lv_iload (pc := 27) hx hb dX12_worthAt_27 (lv_at hl 0 rfl) ?_
          refine lv_iconst (v := 2) (pc := 29) hx hb dX12_worthAt_29 (by decide) ?_
          refine lv_icmp_ne (tgt := 71) (pc := 30) hx hb dX12_worthAt_30 (by decide) (fun hc => ?_) (fun hc => ?_)
          · rw [if_neg hc] at hm
            refine lv_iload (pc := 71) hx hb dX12_worthAt_71 (lv_at hl 0 rfl) ?_
            refine lv_iconst (v := 3) (pc := 73) hx hb dX12_worthAt_73 (by decide) ?_
            refine lv_icmp_ne (tgt := 104) (pc := 74) hx hb dX12_worthAt_74 (by decide) (fun hc => ?_) (fun hc => ?_)
            · rw [if_neg hc] at hm
              refine lv_iinc (k := 2) (v := x2 + (-1)) (lv' := [(2, .int (x2 + (-1))), (4, .int (this_op_f x3.toNatClampNeg)), (0, .ref this), (3, .int x3)]) (pc := 104) hx hb dX12_worthAt_104 hl rfl rfl (Nat.le_of_ble_eq_true rfl) rfl (fun ls hl => ?_)
              refine lv_aload_n (pc := 107) hx hb dX12_worthAt_107 rfl (lv_at hl 2 rfl) ?_
              refine va_get (pc := 108) (D := D) (ci := 10) (C := RX12) (T := TX12) (N := 30) hx hb hts hiX12 hown hG.1 hP 0 rfl rfl 21 (Nat.le_of_ble_eq_true rfl) (hts _ kw_1278) (fun _ h9 => h9) rfl dX12_worthAt_108 ?_
              refine lv_iload_n (pc := 111) hx hb dX12_worthAt_111 rfl (lv_at hl 0 rfl) ?_
              refine lv_iconst (v := 1) (pc := 112) hx hb dX12_worthAt_112 (by decide) ?_
              refine lv_isub (pc := 113) hx hb dX12_worthAt_113 ?_
              refine lv_iload (pc := 114) hx hb dX12_worthAt_114 (lv_at hl 1 rfl) ?_
              refine lv_aload_n (pc := 116) hx hb dX12_worthAt_116 rfl (lv_at hl 2 rfl) ?_
              refine va_get (pc := 117) (D := D) (ci := 10) (C := RX12) (T := TX12) (N := 30) hx hb hts hiX12 hown hG.1 hP 0 rfl rfl 21 (Nat.le_of_ble_eq_true rfl) (hts _ kw_1278) (fun _ h9 => h9) rfl dX12_worthAt_117 ?_
              refine lv_iload_n (pc := 120) hx hb dX12_worthAt_120 rfl (lv_at hl 0 rfl) ?_
              refine lv_iconst (v := 1) (pc := 121) hx hb dX12_worthAt_121 (by decide) ?_
              refine lv_isub (pc := 122) hx hb dX12_worthAt_122 ?_
              obtain ⟨hin, hm⟩ := gd hm
              refine va_iald (pc := 123) (D := D) hx hb hG.1 hP 4 0 rfl rfl hin dX12_worthAt_123 ?_
              refine lv_aload_n (pc := 124) hx hb dX12_worthAt_124 rfl (lv_at hl 2 rfl) ?_
              refine va_get (pc := 125) (D := D) (ci := 10) (C := RX12) (T := TX12) (N := 30) hx hb hts hiX12 hown hG.1 hP 0 rfl rfl 21 (Nat.le_of_ble_eq_true rfl) (hts _ kw_1278) (fun _ h9 => h9) rfl dX12_worthAt_125 ?_
              refine lv_iload_n (pc := 128) hx hb dX12_worthAt_128 rfl (lv_at hl 0 rfl) ?_
              obtain ⟨hin, hm⟩ := gd hm
              refine va_iald (pc := 129) (D := D) hx hb hG.1 hP 4 0 rfl rfl hin dX12_worthAt_129 ?_
              obtain ⟨r3, hcl, hm⟩ := bd hm
              refine cr_back (run_S (pc := 130) (n := 3) (As := [.int (this_op_f x3.toNatClampNeg), .int (u_this_pile_f ((x2 + (-1)) - 1).toNatClampNeg), .int (u_this_pile_f (x2 + (-1)).toNatClampNeg)]) (rest := [.int ((x2 + (-1)) - 1), .ref this_pile]) ⟨hx, hb, hml, hown, hts⟩ (c_X12_both l D k (this_op_f x3.toNatClampNeg) (u_this_pile_f ((x2 + (-1)) - 1).toNatClampNeg) (u_this_pile_f (x2 + (-1)).toNatClampNeg) r3 hcl) ⟨kw_1548, kw_16, by decide +kernel⟩ kw_1546 kw_1547 ⟨Nat.le_of_ble_eq_true rfl, Nat.le_of_ble_eq_true rfl⟩ pr_blind (prR (hP.sub [] rfl) hG) rfl hl.1 rfl (Nat.le_of_ble_eq_true rfl) dX12_worthAt_130 ⟨Nat.zero_le _, Nat.zero_le _⟩) ?_
              obtain ⟨hin, hm⟩ := gd hm
              refine va_iast (pc := 133) (D := D) hx hb hG.1 hP hD hS 4 0 rfl rfl hin dX12_worthAt_133 (fun H locs hP hD hS => ?_)
              have hP : va_P D vwCl (wd_X12_worthAt k this this_thrown this_tape this_taped this_size this_sort this_place this_value this_at this_fault this_words this_towns this_op this_op_f this_arg this_arg_f this_codes this_names this_readNames this_namesMany this_readMany this_once this_lines this_facts this_facts_f this_pile (upd u_this_pile_f ((x2 + (-1)) - 1).toNatClampNeg r3) this_state this_undos this_isMarked this_weight this_rounding this_lacks this_alikes this_g) H := hP
              have hD : va_D A (wd_X12_worthAt k this this_thrown this_tape this_taped this_size this_sort this_place this_value this_at this_fault this_words this_towns this_op this_op_f this_arg this_arg_f this_codes this_names this_readNames this_namesMany this_readMany this_once this_lines this_facts this_facts_f this_pile (upd u_this_pile_f ((x2 + (-1)) - 1).toNatClampNeg r3) this_state this_undos this_isMarked this_weight this_rounding this_lacks this_alikes this_g) := hD
              refine lv_iinc (k := 3) (v := x3 + 1) (lv' := [(3, .int (x3 + 1)), (2, .int (x2 + (-1))), (4, .int (this_op_f x3.toNatClampNeg)), (0, .ref this)]) (pc := 134) hx hb dX12_worthAt_134 hl rfl rfl (Nat.le_of_ble_eq_true rfl) rfl (fun ls hl => ?_)
              refine lv_goto (tgt := 4) (pc := 137) hx hb dX12_worthAt_137 (by decide) ?_
              exact ih (x2 + (-1)) (x3 + 1) (upd u_this_pile_f ((x2 + (-1)) - 1).toNatClampNeg r3) H locs ls hP hD hS (lv_sub hl [3, 1, 0] rfl) hm
            · rw [if_pos hc] at hm
              refine lv_aload_n (pc := 77) hx hb dX12_worthAt_77 rfl (lv_at hl 1 rfl) ?_
              refine va_get (pc := 78) (D := D) (ci := 10) (C := RX12) (T := TX12) (N := 30) hx hb hts hiX12 hown hG.1 hP 0 rfl rfl 21 (Nat.le_of_ble_eq_true rfl) (hts _ kw_1278) (fun _ h9 => h9) rfl dX12_worthAt_78 ?_
              refine lv_iload_n (pc := 81) hx hb dX12_worthAt_81 rfl (lv_at hl 2 rfl) ?_
              refine lv_iconst (v := 1) (pc := 82) hx hb dX12_worthAt_82 (by decide) ?_
              refine lv_isub (pc := 83) hx hb dX12_worthAt_83 ?_
              refine lv_aload_n (pc := 84) hx hb dX12_worthAt_84 rfl (lv_at hl 1 rfl) ?_
              refine va_get (pc := 85) (D := D) (ci := 10) (C := RX12) (T := TX12) (N := 30) hx hb hts hiX12 hown hG.1 hP 0 rfl rfl 21 (Nat.le_of_ble_eq_true rfl) (hts _ kw_1278) (fun _ h9 => h9) rfl dX12_worthAt_85 ?_
              refine lv_iload_n (pc := 88) hx hb dX12_worthAt_88 rfl (lv_at hl 2 rfl) ?_
              refine lv_iconst (v := 1) (pc := 89) hx hb dX12_worthAt_89 (by decide) ?_
              refine lv_isub (pc := 90) hx hb dX12_worthAt_90 ?_
              obtain ⟨hin, hm⟩ := gd hm
              refine va_iald (pc := 91) (D := D) hx hb hG.1 hP 4 0 rfl rfl hin dX12_worthAt_91 ?_
              refine lv_if_ne (tgt := 99) (pc := 92) hx hb dX12_worthAt_92 (by decide) (fun hc => ?_) (fun hc => ?_)
              · rw [if_neg hc] at hm
                refine lv_iconst (v := 0) (pc := 99) hx hb dX12_worthAt_99 (by decide) ?_
                exact h_100 (m_X12_worthAt_4 this_op_f this_arg_f this_facts_f q1 n) ih x2 x3 0 (x2 - 1) u_this_pile_f H locs ls hP hD hS (lv_sub hl [1, 2, 3] rfl) hm
              · rw [if_pos hc] at hm
                refine lv_iconst (v := 1) (pc := 95) hx hb dX12_worthAt_95 (by decide) ?_
                refine lv_goto (tgt := 100) (pc := 96) hx hb dX12_worthAt_96 (by decide) ?_
                exact h_100 (m_X12_worthAt_4 this_op_f this_arg_f this_facts_f q1 n) ih x2 x3 1 (x2 - 1) u_this_pile_f H locs ls hP hD hS (lv_sub hl [1, 2, 3] rfl) hm
          · rw [if_pos hc] at hm
            exact h_33 (m_X12_worthAt_4 this_op_f this_arg_f this_facts_f q1 n) ih x2 x3 (this_op_f x3.toNatClampNeg) u_this_pile_f H locs ls hP hD hS (lv_sub hl [1, 2, 3, 0] rfl) hm
  unfold m_X12_worthAt at hm
  suffices hgo : ∀ (H : Heap) (locs : List Loc), va_P D vwCl (wd_X12_worthAt k this this_thrown this_tape this_taped this_size this_sort this_place this_value this_at this_fault this_words this_towns this_op this_op_f this_arg this_arg_f this_codes this_names this_readNames this_namesMany this_readMany this_once this_lines this_facts this_facts_f this_pile this_pile_f this_state this_undos this_isMarked this_weight this_rounding this_lacks this_alikes this_g) H → va_D A (wd_X12_worthAt k this this_thrown this_tape this_taped this_size this_sort this_place this_value this_at this_fault this_words this_towns this_op this_op_f this_arg this_arg_f this_codes this_names this_readNames this_namesMany this_readMany this_once this_lines this_facts this_facts_f this_pile this_pile_f this_state this_undos this_isMarked this_weight this_rounding this_lacks this_alikes this_g) → va_S A s.heap H locs → W p l e (Rm 1 22) s m args below meth c H locs 0 0 (MQ below (QW D (some (.int R0.1)) (wd_X12_worthAt k this this_thrown this_tape this_taped this_size this_sort this_place this_value this_at this_fault this_words this_towns this_op this_op_f this_arg this_arg_f this_codes this_names this_readNames this_namesMany this_readMany this_once this_lines this_facts this_facts_f this_pile this_pile_f this_state this_undos this_isMarked this_weight this_rounding this_lacks this_alikes this_g) (wd_X12_worthAt k this this_thrown this_tape this_taped this_size this_sort this_place this_value this_at this_fault this_words this_towns this_op this_op_f this_arg this_arg_f this_codes this_names this_readNames this_namesMany this_readMany this_once this_lines this_facts this_facts_f this_pile R0.2 this_state this_undos this_isMarked this_weight this_rounding this_lacks this_alikes this_g) s.heap.size) args s 0 0 A) (F0 m 0 ls []) from hgo _ _ hP hD hS
  clear hP hD hS
  intro H locs hP hD hS
  refine lv_iconst (v := 0) (pc := 0) hx hb dX12_worthAt_0 (by decide) ?_
  refine lv_istore_n (lv' := [(2, .int 0), (0, .ref this), (1, .int q1)]) (pc := 1) hx hb dX12_worthAt_1 rfl hl (Nat.le_of_ble_eq_true rfl) rfl (fun ls hl => ?_)
  refine lv_iload_n (pc := 2) hx hb dX12_worthAt_2 rfl (lv_at hl 2 rfl) ?_
  refine lv_istore_n (lv' := [(3, .int q1), (2, .int 0), (0, .ref this), (1, .int q1)]) (pc := 3) hx hb dX12_worthAt_3 rfl hl (Nat.le_of_ble_eq_true rfl) rfl (fun ls hl => ?_)
  exact h_4 FU 0 q1 this_pile_f H locs ls hP hD hS (lv_sub hl [2, 1, 0] rfl) hm
