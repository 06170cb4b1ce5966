theorem dX12_rests_0 : decode cX12_rests 0 = .ok (.iload_n 1, 1) := by decide +kernel
theorem dX12_rests_1 : decode cX12_rests 1 = .ok (.iconst 0, 1) := by decide +kernel
theorem dX12_rests_2 : decode cX12_rests 2 = .ok (.bipush 9, 2) := by decide +kernel
theorem dX12_rests_4 : decode cX12_rests 4 = .ok (.invokestatic 306, 3) := by decide +kernel
theorem dX12_rests_7 : decode cX12_rests 7 = .ok (.ifCond .eq 33, 3) := by decide +kernel
theorem dX12_rests_10 : decode cX12_rests 10 = .ok (.iload_n 2, 1) := by decide +kernel
theorem dX12_rests_11 : decode cX12_rests 11 = .ok (.iconst 0, 1) := by decide +kernel
theorem dX12_rests_12 : decode cX12_rests 12 = .ok (.bipush 9, 2) := by decide +kernel
theorem dX12_rests_14 : decode cX12_rests 14 = .ok (.invokestatic 306, 3) := by decide +kernel
theorem dX12_rests_17 : decode cX12_rests 17 = .ok (.ifCond .eq 23, 3) := by decide +kernel
theorem dX12_rests_20 : decode cX12_rests 20 = .ok (.iload_n 3, 1) := by decide +kernel
theorem dX12_rests_21 : decode cX12_rests 21 = .ok (.iconst 0, 1) := by decide +kernel
theorem dX12_rests_22 : decode cX12_rests 22 = .ok (.bipush 9, 2) := by decide +kernel
theorem dX12_rests_24 : decode cX12_rests 24 = .ok (.invokestatic 306, 3) := by decide +kernel
theorem dX12_rests_27 : decode cX12_rests 27 = .ok (.ifCond .eq 13, 3) := by decide +kernel
theorem dX12_rests_30 : decode cX12_rests 30 = .ok (.iload 4, 2) := by decide +kernel
theorem dX12_rests_32 : decode cX12_rests 32 = .ok (.iconst (-1), 1) := by decide +kernel
theorem dX12_rests_33 : decode cX12_rests 33 = .ok (.if_icmp .lt 7, 3) := by decide +kernel
theorem dX12_rests_36 : decode cX12_rests 36 = .ok (.iconst 1, 1) := by decide +kernel
theorem dX12_rests_37 : decode cX12_rests 37 = .ok (.goto 4, 3) := by decide +kernel
theorem dX12_rests_40 : decode cX12_rests 40 = .ok (.iconst 0, 1) := by decide +kernel
theorem dX12_rests_41 : decode cX12_rests 41 = .ok (.istore 5, 2) := by decide +kernel
theorem dX12_rests_43 : decode cX12_rests 43 = .ok (.iconst 0, 1) := by decide +kernel
theorem dX12_rests_44 : decode cX12_rests 44 = .ok (.istore 6, 2) := by decide +kernel
theorem dX12_rests_46 : decode cX12_rests 46 = .ok (.iconst (-1), 1) := by decide +kernel
theorem dX12_rests_47 : decode cX12_rests 47 = .ok (.istore 7, 2) := by decide +kernel
theorem dX12_rests_49 : decode cX12_rests 49 = .ok (.iconst 0, 1) := by decide +kernel
theorem dX12_rests_50 : decode cX12_rests 50 = .ok (.istore 8, 2) := by decide +kernel
theorem dX12_rests_52 : decode cX12_rests 52 = .ok (.iload 8, 2) := by decide +kernel
theorem dX12_rests_54 : decode cX12_rests 54 = .ok (.iconst 4, 1) := by decide +kernel
theorem dX12_rests_55 : decode cX12_rests 55 = .ok (.if_icmp .ge 119, 3) := by decide +kernel
theorem dX12_rests_58 : decode cX12_rests 58 = .ok (.iload 5, 2) := by decide +kernel
theorem dX12_rests_60 : decode cX12_rests 60 = .ok (.ifCond .eq 114, 3) := by decide +kernel
theorem dX12_rests_63 : decode cX12_rests 63 = .ok (.iload 8, 2) := by decide +kernel
theorem dX12_rests_65 : decode cX12_rests 65 = .ok (.iconst 2, 1) := by decide +kernel
theorem dX12_rests_66 : decode cX12_rests 66 = .ok (.idiv, 1) := by decide +kernel
theorem dX12_rests_67 : decode cX12_rests 67 = .ok (.istore 9, 2) := by decide +kernel
theorem dX12_rests_69 : decode cX12_rests 69 = .ok (.iload 8, 2) := by decide +kernel
theorem dX12_rests_71 : decode cX12_rests 71 = .ok (.iconst 2, 1) := by decide +kernel
theorem dX12_rests_72 : decode cX12_rests 72 = .ok (.irem, 1) := by decide +kernel
theorem dX12_rests_73 : decode cX12_rests 73 = .ok (.istore 10, 2) := by decide +kernel
theorem dX12_rests_75 : decode cX12_rests 75 = .ok (.iconst 1, 1) := by decide +kernel
theorem dX12_rests_76 : decode cX12_rests 76 = .ok (.iload 9, 2) := by decide +kernel
theorem dX12_rests_78 : decode cX12_rests 78 = .ok (.isub, 1) := by decide +kernel
theorem dX12_rests_79 : decode cX12_rests 79 = .ok (.iload 10, 2) := by decide +kernel
theorem dX12_rests_81 : decode cX12_rests 81 = .ok (.iload_n 1, 1) := by decide +kernel
theorem dX12_rests_82 : decode cX12_rests 82 = .ok (.iload_n 2, 1) := by decide +kernel
theorem dX12_rests_83 : decode cX12_rests 83 = .ok (.iload_n 3, 1) := by decide +kernel
theorem dX12_rests_84 : decode cX12_rests 84 = .ok (.invokestatic 352, 3) := by decide +kernel
theorem dX12_rests_87 : decode cX12_rests 87 = .ok (.iload 9, 2) := by decide +kernel
theorem dX12_rests_89 : decode cX12_rests 89 = .ok (.iload 10, 2) := by decide +kernel
theorem dX12_rests_91 : decode cX12_rests 91 = .ok (.iload_n 1, 1) := by decide +kernel
theorem dX12_rests_92 : decode cX12_rests 92 = .ok (.iload_n 2, 1) := by decide +kernel
theorem dX12_rests_93 : decode cX12_rests 93 = .ok (.iload_n 3, 1) := by decide +kernel
theorem dX12_rests_94 : decode cX12_rests 94 = .ok (.invokestatic 352, 3) := by decide +kernel
theorem dX12_rests_97 : decode cX12_rests 97 = .ok (.if_icmp .gt 32, 3) := by decide +kernel
theorem dX12_rests_100 : decode cX12_rests 100 = .ok (.iconst 1, 1) := by decide +kernel
theorem dX12_rests_101 : decode cX12_rests 101 = .ok (.iload 10, 2) := by decide +kernel
theorem dX12_rests_103 : decode cX12_rests 103 = .ok (.isub, 1) := by decide +kernel
theorem dX12_rests_104 : decode cX12_rests 104 = .ok (.iload 9, 2) := by decide +kernel
theorem dX12_rests_106 : decode cX12_rests 106 = .ok (.iload_n 1, 1) := by decide +kernel
theorem dX12_rests_107 : decode cX12_rests 107 = .ok (.iload_n 2, 1) := by decide +kernel
theorem dX12_rests_108 : decode cX12_rests 108 = .ok (.iload_n 3, 1) := by decide +kernel
theorem dX12_rests_109 : decode cX12_rests 109 = .ok (.invokestatic 352, 3) := by decide +kernel
theorem dX12_rests_112 : decode cX12_rests 112 = .ok (.iload 10, 2) := by decide +kernel
theorem dX12_rests_114 : decode cX12_rests 114 = .ok (.iload 9, 2) := by decide +kernel
theorem dX12_rests_116 : decode cX12_rests 116 = .ok (.iload_n 1, 1) := by decide +kernel
theorem dX12_rests_117 : decode cX12_rests 117 = .ok (.iload_n 2, 1) := by decide +kernel
theorem dX12_rests_118 : decode cX12_rests 118 = .ok (.iload_n 3, 1) := by decide +kernel
theorem dX12_rests_119 : decode cX12_rests 119 = .ok (.invokestatic 352, 3) := by decide +kernel
theorem dX12_rests_122 : decode cX12_rests 122 = .ok (.if_icmp .gt 7, 3) := by decide +kernel
theorem dX12_rests_125 : decode cX12_rests 125 = .ok (.iconst 1, 1) := by decide +kernel
theorem dX12_rests_126 : decode cX12_rests 126 = .ok (.goto 4, 3) := by decide +kernel
theorem dX12_rests_129 : decode cX12_rests 129 = .ok (.iconst 0, 1) := by decide +kernel
theorem dX12_rests_130 : decode cX12_rests 130 = .ok (.istore 11, 2) := by decide +kernel
theorem dX12_rests_132 : decode cX12_rests 132 = .ok (.iload 11, 2) := by decide +kernel
theorem dX12_rests_134 : decode cX12_rests 134 = .ok (.ifCond .eq 15, 3) := by decide +kernel
theorem dX12_rests_137 : decode cX12_rests 137 = .ok (.iload 6, 2) := by decide +kernel
theorem dX12_rests_139 : decode cX12_rests 139 = .ok (.iload 4, 2) := by decide +kernel
theorem dX12_rests_141 : decode cX12_rests 141 = .ok (.if_icmp .ne 8, 3) := by decide +kernel
theorem dX12_rests_144 : decode cX12_rests 144 = .ok (.iload 8, 2) := by decide +kernel
theorem dX12_rests_146 : decode cX12_rests 146 = .ok (.goto 5, 3) := by decide +kernel
theorem dX12_rests_149 : decode cX12_rests 149 = .ok (.iload 7, 2) := by decide +kernel
theorem dX12_rests_151 : decode cX12_rests 151 = .ok (.istore 7, 2) := by decide +kernel
theorem dX12_rests_153 : decode cX12_rests 153 = .ok (.iload 6, 2) := by decide +kernel
theorem dX12_rests_155 : decode cX12_rests 155 = .ok (.iload 11, 2) := by decide +kernel
theorem dX12_rests_157 : decode cX12_rests 157 = .ok (.ifCond .eq 7, 3) := by decide +kernel
theorem dX12_rests_160 : decode cX12_rests 160 = .ok (.iconst 1, 1) := by decide +kernel
theorem dX12_rests_161 : decode cX12_rests 161 = .ok (.goto 4, 3) := by decide +kernel
theorem dX12_rests_164 : decode cX12_rests 164 = .ok (.iconst 0, 1) := by decide +kernel
theorem dX12_rests_165 : decode cX12_rests 165 = .ok (.iadd, 1) := by decide +kernel
theorem dX12_rests_166 : decode cX12_rests 166 = .ok (.istore 6, 2) := by decide +kernel
theorem dX12_rests_168 : decode cX12_rests 168 = .ok (.iinc 8 1, 3) := by decide +kernel
theorem dX12_rests_171 : decode cX12_rests 171 = .ok (.goto (-119), 3) := by decide +kernel
theorem dX12_rests_174 : decode cX12_rests 174 = .ok (.aload_n 0, 1) := by decide +kernel
theorem dX12_rests_175 : decode cX12_rests 175 = .ok (.iload 5, 2) := by decide +kernel
theorem dX12_rests_177 : decode cX12_rests 177 = .ok (.ifCond .eq 17, 3) := by decide +kernel
theorem dX12_rests_180 : decode cX12_rests 180 = .ok (.iload 4, 2) := by decide +kernel
theorem dX12_rests_182 : decode cX12_rests 182 = .ok (.ifCond .lt 8, 3) := by decide +kernel
theorem dX12_rests_185 : decode cX12_rests 185 = .ok (.iload 7, 2) := by decide +kernel
theorem dX12_rests_187 : decode cX12_rests 187 = .ok (.ifCond .lt 7, 3) := by decide +kernel
theorem dX12_rests_190 : decode cX12_rests 190 = .ok (.iconst 0, 1) := by decide +kernel
theorem dX12_rests_191 : decode cX12_rests 191 = .ok (.goto 4, 3) := by decide +kernel
theorem dX12_rests_194 : decode cX12_rests 194 = .ok (.iconst 1, 1) := by decide +kernel
theorem dX12_rests_195 : decode cX12_rests 195 = .ok (.putfield 1, 3) := by decide +kernel
theorem dX12_rests_198 : decode cX12_rests 198 = .ok (.aload_n 0, 1) := by decide +kernel
theorem dX12_rests_199 : decode cX12_rests 199 = .ok (.getfield 1, 3) := by decide +kernel
theorem dX12_rests_202 : decode cX12_rests 202 = .ok (.ifCond .le 7, 3) := by decide +kernel
theorem dX12_rests_205 : decode cX12_rests 205 = .ok (.iconst 0, 1) := by decide +kernel
theorem dX12_rests_206 : decode cX12_rests 206 = .ok (.goto 15, 3) := by decide +kernel
theorem dX12_rests_209 : decode cX12_rests 209 = .ok (.iload 4, 2) := by decide +kernel
theorem dX12_rests_211 : decode cX12_rests 211 = .ok (.ifCond .ge 8, 3) := by decide +kernel
theorem dX12_rests_214 : decode cX12_rests 214 = .ok (.iload 6, 2) := by decide +kernel
theorem dX12_rests_216 : decode cX12_rests 216 = .ok (.goto 5, 3) := by decide +kernel
theorem dX12_rests_219 : decode cX12_rests 219 = .ok (.iload 7, 2) := by decide +kernel
theorem dX12_rests_221 : decode cX12_rests 221 = .ok (.ireturn, 1) := by decide +kernel
abbrev wd_X12_rests (k : Nat → ClassId) (this : Nat) (this_thrown : Int32) (this_tape : Nat) (this_taped : Int32) (this_size : Int32) (this_sort : Nat) (this_place : Nat) (this_value : Nat) (this_at : Int32) (this_fault : Int32) (this_words : Nat) (this_towns : Nat) (this_op : Nat) (this_arg : Nat) (this_codes : Int32) (this_names : Nat) (this_readNames : Nat) (this_namesMany : Int32) (this_readMany : Int32) (this_once : Int32) (this_lines : Nat) (this_facts : Nat) (this_pile : Nat) (this_state : Nat) (this_undos : Int32) (this_isMarked : Nat) (this_weight : Int32) (this_rounding : Int32) (this_lacks : Nat) (this_alikes : Nat) (this_g : Int64) : va_W := [(this, .inr (10, [.int this_thrown, .ref this_tape, .int this_taped, .int this_size, .ref this_sort, .ref this_place, .ref this_value, .int this_at, .int this_fault, .ref this_words, .ref this_towns, .ref this_op, .ref this_arg, .int this_codes, .ref this_names, .ref this_readNames, .int this_namesMany, .int this_readMany, .int this_once, .ref this_lines, .ref this_facts, .ref this_pile, .ref this_state, .int this_undos, .ref this_isMarked, .int this_weight, .int this_rounding, .ref this_lacks, .ref this_alikes, .long this_g]))]
set_option maxHeartbeats 4000000 in
set_option maxRecDepth 100000 in
theorem c_X12_rests (l : Launch) (D : va_G) (k : Nat → ClassId) (this : Nat) (this_thrown : Int32) (this_tape : Nat) (this_taped : Int32) (this_size : Int32) (this_sort : Nat) (this_place : Nat) (this_value : Nat) (this_at : Int32) (this_fault : Int32) (this_words : Nat) (this_towns : Nat) (this_op : Nat) (this_arg : Nat) (this_codes : Int32) (this_names : Nat) (this_readNames : Nat) (this_namesMany : Int32) (this_readMany : Int32) (this_once : Int32) (this_lines : Nat) (this_facts : Nat) (this_pile : Nat) (this_state : Nat) (this_undos : Int32) (this_isMarked : Nat) (this_weight : Int32) (this_rounding : Int32) (this_lacks : Nat) (this_alikes : Nat) (this_g : Int64) (q1 : Int32) (q2 : Int32) (q3 : Int32) (q4 : Int32) (R0 : Int32 × Int32) (hm : m_X12_rests this_thrown q1 q2 q3 q4 = some R0) : CW l D (TY k) yX12_rests cX12_rests 12 (some .int) 1 24 [.ref this, .int q1, .int q2, .int q3, .int q4] (wd_X12_rests k this this_thrown this_tape this_taped this_size this_sort this_place this_value this_at this_fault this_words this_towns this_op this_arg this_codes this_names this_readNames this_namesMany this_readMany this_once this_lines this_facts this_pile this_state this_undos this_isMarked this_weight this_rounding this_lacks this_alikes this_g) (some (.int R0.1)) (wd_X12_rests k this R0.2 this_tape this_taped this_size this_sort this_place this_value this_at this_fault this_words this_towns this_op this_arg this_codes this_names this_readNames this_namesMany this_readMany this_once this_lines this_facts this_pile this_state this_undos this_isMarked this_weight this_rounding this_lacks this_alikes this_g) := by
  refine CW.mk (by decide) (Nat.le_of_ble_eq_true rfl) ?_
  intro p e s m args below meth c ls A ⟨hx, hb, hr, hts, hown, hlocks, hml⟩ hP hG hD hA hl hS hq
  have hl : lv_has ls 12 [(0, .ref this), (1, .int q1), (2, .int q2), (3, .int q3), (4, .int q4)] := hl
  have h_195 : ∀ (x6 : Int32) (x7 : Int32) (t0 : Int32) (u_this_thrown : Int32) (H : Heap) (locs : List Loc) (ls : Array Slot), va_P D vwCl (wd_X12_rests k this u_this_thrown this_tape this_taped this_size this_sort this_place this_value this_at this_fault this_words this_towns this_op this_arg this_codes this_names this_readNames this_namesMany this_readMany this_once this_lines this_facts this_pile this_state this_undos this_isMarked this_weight this_rounding this_lacks this_alikes this_g) H → va_D A (wd_X12_rests k this u_this_thrown this_tape this_taped this_size this_sort this_place this_value this_at this_fault this_words this_towns this_op this_arg this_codes this_names this_readNames this_namesMany this_readMany this_once this_lines this_facts this_pile this_state this_undos this_isMarked this_weight this_rounding this_lacks this_alikes this_g) → va_S A s.heap H locs → lv_has ls 12 [(0, .ref this), (4, .int q4), (6, .int x6), (7, .int x7)] → m_X12_rests_195 q1 q2 q3 q4 x6 x7 t0 u_this_thrown = some R0 → W p l e (Rm 1 24) s m args below meth c H locs 0 0 (MQ below (QW D (some (.int R0.1)) (wd_X12_rests k this this_thrown this_tape this_taped this_size this_sort this_place this_value this_at this_fault this_words this_towns this_op this_arg this_codes this_names this_readNames this_namesMany this_readMany this_once this_lines this_facts this_pile this_state this_undos this_isMarked this_weight this_rounding this_lacks this_alikes this_g) (wd_X12_rests k this R0.2 this_tape this_taped this_size this_sort this_place this_value this_at this_fault this_words this_towns this_op this_arg this_codes this_names this_readNames this_namesMany this_readMany this_once this_lines this_facts this_pile this_state this_undos this_isMarked this_weight this_rounding this_lacks this_alikes this_g) s.heap.size) args s 0 0 A) (F0 m 195 ls [.int t0, .ref this]) := by
    intro  x6 x7 t0 u_this_thrown H locs ls hP hD hS hl hm
    unfold m_X12_rests_195 at hm
    refine va_put (pc := 195) (D := D) (ci := 10) (v := .int t0) (ty := .int) (C := RX12) (T := TX12) (N := 30) hx hb hts hiX12 tyX12 tyX12_ok nmX12 hown hG.1 hP hD hS 0 rfl rfl 0 (Nat.le_of_ble_eq_true rfl) (hts _ kw_1257) (fun _ h9 => h9) rfl (by decide +kernel) rfl rfl (Nat.le_of_ble_eq_true rfl) dX12_rests_195 (fun H locs hP hD hS => ?_)
    have hP : va_P D vwCl (wd_X12_rests k this t0 this_tape this_taped this_size this_sort this_place this_value this_at this_fault this_words this_towns this_op this_arg this_codes this_names this_readNames this_namesMany this_readMany this_once this_lines this_facts this_pile this_state this_undos this_isMarked this_weight this_rounding this_lacks this_alikes this_g) H := hP
    have hD : va_D A (wd_X12_rests k this t0 this_tape this_taped this_size this_sort this_place this_value this_at this_fault this_words this_towns this_op this_arg this_codes this_names this_readNames this_namesMany this_readMany this_once this_lines this_facts this_pile this_state this_undos this_isMarked this_weight this_rounding this_lacks this_alikes this_g) := hD
    refine lv_aload_n (pc := 198) hx hb dX12_rests_198 rfl (lv_at hl 0 rfl) ?_
    refine va_get (pc := 199) (D := D) (ci := 10) (C := RX12) (T := TX12) (N := 30) hx hb hts hiX12 hown hG.1 hP 0 rfl rfl 0 (Nat.le_of_ble_eq_true rfl) (hts _ kw_1257) (fun _ h9 => h9) rfl dX12_rests_199 ?_
    refine lv_if_le (tgt := 209) (pc := 202) hx hb dX12_rests_202 (by decide) (fun hc => ?_) (fun hc => ?_)
    · rw [if_pos hc] at hm
      refine lv_iload (pc := 209) hx hb dX12_rests_209 (lv_at hl 1 rfl) ?_
      refine lv_if_ge (tgt := 219) (pc := 211) hx hb dX12_rests_211 (by decide) (fun hc => ?_) (fun hc => ?_)
      · rw [if_pos hc] at hm
        refine lv_iload (pc := 219) hx hb dX12_rests_219 (lv_at hl 3 rfl) ?_
        rw [← Option.some.inj hm]
        exact W.iret hx hb hr (fun t ht _ => hq _ _ H t ht hP hD locs hS) hS.2.2 dX12_rests_221 hlocks
      · rw [if_neg hc] at hm
        refine lv_iload (pc := 214) hx hb dX12_rests_214 (lv_at hl 2 rfl) ?_
        refine lv_goto (tgt := 221) (pc := 216) hx hb dX12_rests_216 (by decide) ?_
        rw [← Option.some.inj hm]
        exact W.iret hx hb hr (fun t ht _ => hq _ _ H t ht hP hD locs hS) hS.2.2 dX12_rests_221 hlocks
    · rw [if_neg hc] at hm
      refine lv_iconst (v := 0) (pc := 205) hx hb dX12_rests_205 (by decide) ?_
      refine lv_goto (tgt := 221) (pc := 206) hx hb dX12_rests_206 (by decide) ?_
      rw [← Option.some.inj hm]
      exact W.iret hx hb hr (fun t ht _ => hq _ _ H t ht hP hD locs hS) hS.2.2 dX12_rests_221 hlocks
  have h_194 : ∀ (x6 : Int32) (x7 : Int32) (u_this_thrown : Int32) (H : Heap) (locs : List Loc) (ls : Array Slot), va_P D vwCl (wd_X12_rests k this u_this_thrown this_tape this_taped this_size this_sort this_place this_value this_at this_fault this_words this_towns this_op this_arg this_codes this_names this_readNames this_namesMany this_readMany this_once this_lines this_facts this_pile this_state this_undos this_isMarked this_weight this_rounding this_lacks this_alikes this_g) H → va_D A (wd_X12_rests k this u_this_thrown this_tape this_taped this_size this_sort this_place this_value this_at this_fault this_words this_towns this_op this_arg this_codes this_names this_readNames this_namesMany this_readMany this_once this_lines this_facts this_pile this_state this_undos this_isMarked this_weight this_rounding this_lacks this_alikes this_g) → va_S A s.heap H locs → lv_has ls 12 [(0, .ref this), (4, .int q4), (6, .int x6), (7, .int x7)] → m_X12_rests_194 q1 q2 q3 q4 x6 x7 u_this_thrown = some R0 → W p l e (Rm 1 24) s m args below meth c H locs 0 0 (MQ below (QW D (some (.int R0.1)) (wd_X12_rests k this this_thrown this_tape this_taped this_size this_sort this_place this_value this_at this_fault this_words this_towns this_op this_arg this_codes this_names this_readNames this_namesMany this_readMany this_once this_lines this_facts this_pile this_state this_undos this_isMarked this_weight this_rounding this_lacks this_alikes this_g) (wd_X12_rests k this R0.2 this_tape this_taped this_size this_sort this_place this_value this_at this_fault this_words this_towns this_op this_arg this_codes this_names this_readNames this_namesMany this_readMany this_once this_lines this_facts this_pile this_state this_undos this_isMarked this_weight this_rounding this_lacks this_alikes this_g) s.heap.size) args s 0 0 A) (F0 m 194 ls [.ref this]) := by
    intro  x6 x7 u_this_thrown H locs ls hP hD hS hl hm
    unfold m_X12_rests_194 at hm
    refine lv_iconst (v := 1) (pc := 194) hx hb dX12_rests_194 (by decide) ?_
    exact h_195 x6 x7 1 u_this_thrown H locs ls hP hD hS (lv_sub hl [0, 1, 2, 3] rfl) hm
  have h_190 : ∀ (x6 : Int32) (x7 : Int32) (u_this_thrown : Int32) (H : Heap) (locs : List Loc) (ls : Array Slot), va_P D vwCl (wd_X12_rests k this u_this_thrown this_tape this_taped this_size this_sort this_place this_value this_at this_fault this_words this_towns this_op this_arg this_codes this_names this_readNames this_namesMany this_readMany this_once this_lines this_facts this_pile this_state this_undos this_isMarked this_weight this_rounding this_lacks this_alikes this_g) H → va_D A (wd_X12_rests k this u_this_thrown this_tape this_taped this_size this_sort this_place this_value this_at this_fault this_words this_towns this_op this_arg this_codes this_names this_readNames this_namesMany this_readMany this_once this_lines this_facts this_pile this_state this_undos this_isMarked this_weight this_rounding this_lacks this_alikes this_g) → va_S A s.heap H locs → lv_has ls 12 [(0, .ref this), (4, .int q4), (6, .int x6), (7, .int x7)] → m_X12_rests_190 q1 q2 q3 q4 x6 x7 u_this_thrown = some R0 → W p l e (Rm 1 24) s m args below meth c H locs 0 0 (MQ below (QW D (some (.int R0.1)) (wd_X12_rests k this this_thrown this_tape this_taped this_size this_sort this_place this_value this_at this_fault this_words this_towns this_op this_arg this_codes this_names this_readNames this_namesMany this_readMany this_once this_lines this_facts this_pile this_state this_undos this_isMarked this_weight this_rounding this_lacks this_alikes this_g) (wd_X12_rests k this R0.2 this_tape this_taped this_size this_sort this_place this_value this_at this_fault this_words this_towns this_op this_arg this_codes this_names this_readNames this_namesMany this_readMany this_once this_lines this_facts this_pile this_state this_undos this_isMarked this_weight this_rounding this_lacks this_alikes this_g) s.heap.size) args s 0 0 A) (F0 m 190 ls [.ref this]) := by
    intro  x6 x7 u_this_thrown H locs ls hP hD hS hl hm
    unfold m_X12_rests_190 at hm
    refine lv_iconst (v := 0) (pc := 190) hx hb dX12_rests_190 (by decide) ?_
    refine lv_goto (tgt := 195) (pc := 191) hx hb dX12_rests_191 (by decide) ?_
    exact h_195 x6 x7 0 u_this_thrown H locs ls hP hD hS (lv_sub hl [0, 1, 2, 3] rfl) hm
  have h_174 : ∀ (x5 : Int32) (x6 : Int32) (x7 : Int32) (u_this_thrown : Int32) (H : Heap) (locs : List Loc) (ls : Array Slot), va_P D vwCl (wd_X12_rests k this u_this_thrown this_tape this_taped this_size this_sort this_place this_value this_at this_fault this_words this_towns this_op this_arg this_codes this_names this_readNames this_namesMany this_readMany this_once this_lines this_facts this_pile this_state this_undos this_isMarked this_weight this_rounding this_lacks this_alikes this_g) H → va_D A (wd_X12_rests k this u_this_thrown this_tape this_taped this_size this_sort this_place this_value this_at this_fault this_words this_towns this_op this_arg this_codes this_names this_readNames this_namesMany this_readMany this_once this_lines this_facts this_pile this_state this_undos this_isMarked this_weight this_rounding this_lacks this_alikes this_g) → va_S A s.heap H locs → lv_has ls 12 [(0, .ref this), (4, .int q4), (5, .int x5), (6, .int x6), (7, .int x7)] → m_X12_rests_174 q1 q2 q3 q4 x5 x6 x7 u_this_thrown = some R0 → W p l e (Rm 1 24) s m args below meth c H locs 0 0 (MQ below (QW D (some (.int R0.1)) (wd_X12_rests k this this_thrown this_tape this_taped this_size this_sort this_place this_value this_at this_fault this_words this_towns this_op this_arg this_codes this_names this_readNames this_namesMany this_readMany this_once this_lines this_facts this_pile this_state this_undos this_isMarked this_weight this_rounding this_lacks this_alikes this_g) (wd_X12_rests k this R0.2 this_tape this_taped this_size this_sort this_place this_value this_at this_fault this_words this_towns this_op this_arg this_codes this_names this_readNames this_namesMany this_readMany this_once this_lines this_facts this_pile this_state this_undos this_isMarked this_weight this_rounding this_lacks this_alikes this_g) s.heap.size) args s 0 0 A) (F0 m 174 ls []) := by
    intro  x5 x6 x7 u_this_thrown H locs ls hP hD hS hl hm
    unfold m_X12_rests_174 at hm
    refine lv_aload_n (pc := 174) hx hb dX12_rests_174 rfl (lv_at hl 0 rfl) ?_
    refine lv_iload (pc := 175) hx hb dX12_rests_175 (lv_at hl 2 rfl) ?_
    refine lv_if_eq (tgt := 194) (pc := 177) hx hb dX12_rests_177 (by decide) (fun hc => ?_) (fun hc => ?_)
    · rw [if_pos hc] at hm
      exact h_194 x6 x7 u_this_thrown H locs ls hP hD hS (lv_sub hl [0, 1, 3, 4] rfl) hm
    · rw [if_neg hc] at hm
      refine lv_iload (pc := 180) hx hb dX12_rests_180 (lv_at hl 1 rfl) ?_
      refine lv_if_lt (tgt := 190) (pc := 182) hx hb dX12_rests_182 (by decide) (fun hc => ?_) (fun hc => ?_)
      · rw [if_pos hc] at hm
        exact h_190 x6 x7 u_this_thrown H locs ls hP hD hS (lv_sub hl [0, 1, 3, 4] rfl) hm
      · rw [if_neg hc] at hm
        refine lv_iload (pc := 185) hx hb dX12_rests_185 (lv_at hl 4 rfl) ?_
        refine lv_if_lt (tgt := 194) (pc := 187) hx hb dX12_rests_187 (by decide) (fun hc => ?_) (fun hc => ?_)
        · rw [if_pos hc] at hm
          exact h_194 x6 x7 u_this_thrown H locs ls hP hD hS (lv_sub hl [0, 1, 3, 4] rfl) hm
        · rw [if_neg hc] at hm
          exact h_190 x6 x7 u_this_thrown H locs ls hP hD hS (lv_sub hl [0, 1, 3, 4] rfl) hm
  have h_151 : ∀ (K52 : Int32 → Int32 → Int32 → Int32 → Int32 → Option (Int32 × Int32)) (hK52 : ∀ (x5 : Int32) (x6 : Int32) (x7 : Int32) (x8 : Int32) (u_this_thrown : Int32) (H : Heap) (locs : List Loc) (ls : Array Slot), va_P D vwCl (wd_X12_rests k this u_this_thrown this_tape this_taped this_size this_sort this_place this_value this_at this_fault this_words this_towns this_op this_arg this_codes this_names this_readNames this_namesMany this_readMany this_once this_lines this_facts this_pile this_state this_undos this_isMarked this_weight this_rounding this_lacks this_alikes this_g) H → va_D A (wd_X12_rests k this u_this_thrown this_tape this_taped this_size this_sort this_place this_value this_at this_fault this_words this_towns this_op this_arg this_codes this_names this_readNames this_namesMany this_readMany this_once this_lines this_facts this_pile this_state this_undos this_isMarked this_weight this_rounding this_lacks this_alikes this_g) → va_S A s.heap H locs → lv_has ls 12 [(0, .ref this), (1, .int q1), (2, .int q2), (3, .int q3), (4, .int q4), (5, .int x5), (6, .int x6), (7, .int x7), (8, .int x8)] → K52 x5 x6 x7 x8 u_this_thrown = some R0 → W p l e (Rm 1 24) s m args below meth c H locs 0 0 (MQ below (QW D (some (.int R0.1)) (wd_X12_rests k this this_thrown this_tape this_taped this_size this_sort this_place this_value this_at this_fault this_words this_towns this_op this_arg this_codes this_names this_readNames this_namesMany this_readMany this_once this_lines this_facts this_pile this_state this_undos this_isMarked this_weight this_rounding this_lacks this_alikes this_g) (wd_X12_rests k this R0.2 this_tape this_taped this_size this_sort this_place this_value this_at this_fault this_words this_towns this_op this_arg this_codes this_names this_readNames this_namesMany this_readMany this_once this_lines this_facts this_pile this_state this_undos this_isMarked this_weight this_rounding this_lacks this_alikes this_g) s.heap.size) args s 0 0 A) (F0 m 52 ls [])), ∀ (x5 : Int32) (x6 : Int32) (x8 : Int32) (x11 : Int32) (t0 : Int32) (u_this_thrown : Int32) (H : Heap) (locs : List Loc) (ls : Array Slot), va_P D vwCl (wd_X12_rests k this u_this_thrown this_tape this_taped this_size this_sort this_place this_value this_at this_fault this_words this_towns this_op this_arg this_codes this_names this_readNames this_namesMany this_readMany this_once this_lines this_facts this_pile this_state this_undos this_isMarked this_weight this_rounding this_lacks this_alikes this_g) H → va_D A (wd_X12_rests k this u_this_thrown this_tape this_taped this_size this_sort this_place this_value this_at this_fault this_words this_towns this_op this_arg this_codes this_names this_readNames this_namesMany this_readMany this_once this_lines this_facts this_pile this_state this_undos this_isMarked this_weight this_rounding this_lacks this_alikes this_g) → va_S A s.heap H locs → lv_has ls 12 [(0, .ref this), (1, .int q1), (2, .int q2), (3, .int q3), (4, .int q4), (5, .int x5), (6, .int x6), (8, .int x8), (11, .int x11)] → m_X12_rests_151 q1 q2 q3 q4 K52 x5 x6 x8 x11 t0 u_this_thrown = some R0 → W p l e (Rm 1 24) s m args below meth c H locs 0 0 (MQ below (QW D (some (.int R0.1)) (wd_X12_rests k this this_thrown this_tape this_taped this_size this_sort this_place this_value this_at this_fault this_words this_towns this_op this_arg this_codes this_names this_readNames this_namesMany this_readMany this_once this_lines this_facts this_pile this_state this_undos this_isMarked this_weight this_rounding this_lacks this_alikes this_g) (wd_X12_rests k this R0.2 this_tape this_taped this_size this_sort this_place this_value this_at this_fault this_words this_towns this_op this_arg this_codes this_names this_readNames this_namesMany this_readMany this_once this_lines this_facts this_pile this_state this_undos this_isMarked this_weight this_rounding this_lacks this_alikes this_g) s.heap.size) args s 0 0 A) (F0 m 151 ls [.int t0]) := by
    intro K52 hK52 x5 x6 x8 x11 t0 u_this_thrown H locs ls hP hD hS hl hm
    unfold m_X12_rests_151 at hm
    refine lv_istore (lv' := [(7, .int t0), (0, .ref this), (1, .int q1), (2, .int q2), (3, .int q3), (4, .int q4), (5, .int x5), (6, .int x6), (8, .int x8), (11, .int x11)]) (pc := 151) hx hb dX12_rests_151 hl (Nat.le_of_ble_eq_true rfl) rfl (fun ls hl => ?_)
    refine lv_iload (pc := 153) hx hb dX12_rests_153 (lv_at hl 7 rfl) ?_
    refine lv_iload (pc := 155) hx hb dX12_rests_155 (lv_at hl 9 rfl) ?_
    refine lv_if_eq (tgt := 164) (pc := 157) hx hb dX12_rests_157 (by decide) (fun hc => ?_) (fun hc => ?_)
    · rw [if_pos hc] at hm
      refine lv_iconst (v := 0) (pc := 164) hx hb dX12_rests_164 (by decide) ?_
      refine lv_iadd (pc := 165) hx hb dX12_rests_165 ?_
      refine lv_istore (lv' := [(6, .int (x6 + 0)), (7, .int t0), (0, .ref this), (1, .int q1), (2, .int q2), (3, .int q3), (4, .int q4), (5, .int x5), (8, .int x8), (11, .int x11)]) (pc := 166) hx hb dX12_rests_166 hl (Nat.le_of_ble_eq_true rfl) rfl (fun ls hl => ?_)
      refine lv_iinc (k := 8) (v := x8 + 1) (lv' := [(8, .int (x8 + 1)), (6, .int (x6 + 0)), (7, .int t0), (0, .ref this), (1, .int q1), (2, .int q2), (3, .int q3), (4, .int q4), (5, .int x5), (11, .int x11)]) (pc := 168) hx hb dX12_rests_168 hl rfl rfl (Nat.le_of_ble_eq_true rfl) rfl (fun ls hl => ?_)
      refine lv_goto (tgt := 52) (pc := 171) hx hb dX12_rests_171 (by decide) ?_
      exact hK52 x5 (x6 + 0) t0 (x8 + 1) u_this_thrown H locs ls hP hD hS (lv_sub hl [3, 4, 5, 6, 7, 8, 1, 2, 0] rfl) hm
    · rw [if_neg hc] at hm
      refine lv_iconst (v := 1) (pc := 160) hx hb dX12_rests_160 (by decide) ?_
      refine lv_goto (tgt := 165) (pc := 161) hx hb dX12_rests_161 (by decide) ?_
      refine lv_iadd (pc := 165) hx hb dX12_rests_165 ?_
      refine lv_istore (lv' := [(6, .int (x6 + 1)), (7, .int t0), (0, .ref this), (1, .int q1), (2, .int q2), (3, .int q3), (4, .int q4), (5, .int x5), (8, .int x8), (11, .int x11)]) (pc := 166) hx hb dX12_rests_166 hl (Nat.le_of_ble_eq_true rfl) rfl (fun ls hl => ?_)
      refine lv_iinc (k := 8) (v := x8 + 1) (lv' := [(8, .int (x8 + 1)), (6, .int (x6 + 1)), (7, .int t0), (0, .ref this), (1, .int q1), (2, .int q2), (3, .int q3), (4, .int q4), (5, .int x5), (11, .int x11)]) (pc := 168) hx hb dX12_rests_168 hl rfl rfl (Nat.le_of_ble_eq_true rfl) rfl (fun ls hl => ?_)
      refine lv_goto (tgt := 52) (pc := 171) hx hb dX12_rests_171 (by decide) ?_
      exact hK52 x5 (x6 + 1) t0 (x8 + 1) u_this_thrown H locs ls hP hD hS (lv_sub hl [3, 4, 5, 6, 7, 8, 1, 2, 0] rfl) hm
  have h_149 : ∀ (K52 : Int32 → Int32 → Int32 → Int32 → Int32 → Option (Int32 × Int32)) (hK52 : ∀ (x5 : Int32) (x6 : Int32) (x7 : Int32) (x8 : Int32) (u_this_thrown : Int32) (H : Heap) (locs : List Loc) (ls : Array Slot), va_P D vwCl (wd_X12_rests k this u_this_thrown this_tape this_taped this_size this_sort this_place this_value this_at this_fault this_words this_towns this_op this_arg this_codes this_names this_readNames this_namesMany this_readMany this_once this_lines this_facts this_pile this_state this_undos this_isMarked this_weight this_rounding this_lacks this_alikes this_g) H → va_D A (wd_X12_rests k this u_this_thrown this_tape this_taped this_size this_sort this_place this_value this_at this_fault this_words this_towns this_op this_arg this_codes this_names this_readNames this_namesMany this_readMany this_once this_lines this_facts this_pile this_state this_undos this_isMarked this_weight this_rounding this_lacks this_alikes this_g) → va_S A s.heap H locs → lv_has ls 12 [(0, .ref this), (1, .int q1), (2, .int q2), (3, .int q3), (4, .int q4), (5, .int x5), (6, .int x6), (7, .int x7), (8, .int x8)] → K52 x5 x6 x7 x8 u_this_thrown = some R0 → W p l e (Rm 1 24) s m args below meth c H locs 0 0 (MQ below (QW D (some (.int R0.1)) (wd_X12_rests k this this_thrown this_tape this_taped this_size this_sort this_place this_value this_at this_fault this_words this_towns this_op this_arg this_codes this_names this_readNames this_namesMany this_readMany this_once this_lines this_facts this_pile this_state this_undos this_isMarked this_weight this_rounding this_lacks this_alikes this_g) (wd_X12_rests k this R0.2 this_tape this_taped this_size this_sort this_place this_value this_at this_fault this_words this_towns this_op this_arg this_codes this_names this_readNames this_namesMany this_readMany this_once this_lines this_facts this_pile this_state this_undos this_isMarked this_weight this_rounding this_lacks this_alikes this_g) s.heap.size) args s 0 0 A) (F0 m 52 ls [])), ∀ (x5 : Int32) (x6 : Int32) (x7 : Int32) (x8 : Int32) (x11 : Int32) (u_this_thrown : Int32) (H : Heap) (locs : List Loc) (ls : Array Slot), va_P D vwCl (wd_X12_rests k this u_this_thrown this_tape this_taped this_size this_sort this_place this_value this_at this_fault this_words this_towns this_op this_arg this_codes this_names this_readNames this_namesMany this_readMany this_once this_lines this_facts this_pile this_state this_undos this_isMarked this_weight this_rounding this_lacks this_alikes this_g) H → va_D A (wd_X12_rests k this u_this_thrown this_tape this_taped this_size this_sort this_place this_value this_at this_fault this_words this_towns this_op this_arg this_codes this_names this_readNames this_namesMany this_readMany this_once this_lines this_facts this_pile this_state this_undos this_isMarked this_weight this_rounding this_lacks this_alikes this_g) → va_S A s.heap H locs → lv_has ls 12 [(0, .ref this), (1, .int q1), (2, .int q2), (3, .int q3), (4, .int q4), (5, .int x5), (6, .int x6), (7, .int x7), (8, .int x8), (11, .int x11)] → m_X12_rests_149 q1 q2 q3 q4 K52 x5 x6 x7 x8 x11 u_this_thrown = some R0 → W p l e (Rm 1 24) s m args below meth c H locs 0 0 (MQ below (QW D (some (.int R0.1)) (wd_X12_rests k this this_thrown this_tape this_taped this_size this_sort this_place this_value this_at this_fault this_words this_towns this_op this_arg this_codes this_names this_readNames this_namesMany this_readMany this_once this_lines this_facts this_pile this_state this_undos this_isMarked this_weight this_rounding this_lacks this_alikes this_g) (wd_X12_rests k this R0.2 this_tape this_taped this_size this_sort this_place this_value this_at this_fault this_words this_towns this_op this_arg this_codes this_names this_readNames this_namesMany this_readMany this_once this_lines this_facts this_pile this_state this_undos this_isMarked this_weight this_rounding this_lacks this_alikes this_g) s.heap.size) args s 0 0 A) (F0 m 149 ls []) := by
    intro K52 hK52 x5 x6 x7 x8 x11 u_this_thrown H locs ls hP hD hS hl hm
    unfold m_X12_rests_149 at hm
    refine lv_iload (pc := 149) hx hb dX12_rests_149 (lv_at hl 7 rfl) ?_
    exact h_151 K52 hK52 x5 x6 x8 x11 x7 u_this_thrown H locs ls hP hD hS (lv_sub hl [0, 1, 2, 3, 4, 5, 6, 8, 9] rfl) hm
  have h_130 : ∀ (K52 : Int32 → Int32 → Int32 → Int32 → Int32 → Option (Int32 × Int32)) (hK52 : ∀ (x5 : Int32) (x6 : Int32) (x7 : Int32) (x8 : Int32) (u_this_thrown : Int32) (H : Heap) (locs : List Loc) (ls : Array Slot), va_P D vwCl (wd_X12_rests k this u_this_thrown this_tape this_taped this_size this_sort this_place this_value this_at this_fault this_words this_towns this_op this_arg this_codes this_names this_readNames this_namesMany this_readMany this_once this_lines this_facts this_pile this_state this_undos this_isMarked this_weight this_rounding this_lacks this_alikes this_g) H → va_D A (wd_X12_rests k this u_this_thrown this_tape this_taped this_size this_sort this_place this_value this_at this_fault this_words this_towns this_op this_arg this_codes this_names this_readNames this_namesMany this_readMany this_once this_lines this_facts this_pile this_state this_undos this_isMarked this_weight this_rounding this_lacks this_alikes this_g) → va_S A s.heap H locs → lv_has ls 12 [(0, .ref this), (1, .int q1), (2, .int q2), (3, .int q3), (4, .int q4), (5, .int x5), (6, .int x6), (7, .int x7), (8, .int x8)] → K52 x5 x6 x7 x8 u_this_thrown = some R0 → W p l e (Rm 1 24) s m args below meth c H locs 0 0 (MQ below (QW D (some (.int R0.1)) (wd_X12_rests k this this_thrown this_tape this_taped this_size this_sort this_place this_value this_at this_fault this_words this_towns this_op this_arg this_codes this_names this_readNames this_namesMany this_readMany this_once this_lines this_facts this_pile this_state this_undos this_isMarked this_weight this_rounding this_lacks this_alikes this_g) (wd_X12_rests k this R0.2 this_tape this_taped this_size this_sort this_place this_value this_at this_fault this_words this_towns this_op this_arg this_codes this_names this_readNames this_namesMany this_readMany this_once this_lines this_facts this_pile this_state this_undos this_isMarked this_weight this_rounding this_lacks this_alikes this_g) s.heap.size) args s 0 0 A) (F0 m 52 ls [])), ∀ (x5 : Int32) (x6 : Int32) (x7 : Int32) (x8 : Int32) (t0 : Int32) (u_this_thrown : Int32) (H : Heap) (locs : List Loc) (ls : Array Slot), va_P D vwCl (wd_X12_rests k this u_this_thrown this_tape this_taped this_size this_sort this_place this_value this_at this_fault this_words this_towns this_op this_arg this_codes this_names this_readNames this_namesMany this_readMany this_once this_lines this_facts this_pile this_state this_undos this_isMarked this_weight this_rounding this_lacks this_alikes this_g) H → va_D A (wd_X12_rests k this u_this_thrown this_tape this_taped this_size this_sort this_place this_value this_at this_fault this_words this_towns this_op this_arg this_codes this_names this_readNames this_namesMany this_readMany this_once this_lines this_facts this_pile this_state this_undos this_isMarked this_weight this_rounding this_lacks this_alikes this_g) → va_S A s.heap H locs → lv_has ls 12 [(0, .ref this), (1, .int q1), (2, .int q2), (3, .int q3), (4, .int q4), (5, .int x5), (6, .int x6), (7, .int x7), (8, .int x8)] → m_X12_rests_130 q1 q2 q3 q4 K52 x5 x6 x7 x8 t0 u_this_thrown = some R0 → W p l e (Rm 1 24) s m args below meth c H locs 0 0 (MQ below (QW D (some (.int R0.1)) (wd_X12_rests k this this_thrown this_tape this_taped this_size this_sort this_place this_value this_at this_fault this_words this_towns this_op this_arg this_codes this_names this_readNames this_namesMany this_readMany this_once this_lines this_facts this_pile this_state this_undos this_isMarked this_weight this_rounding this_lacks this_alikes this_g) (wd_X12_rests k this R0.2 this_tape this_taped this_size this_sort this_place this_value this_at this_fault this_words this_towns this_op this_arg this_codes this_names this_readNames this_namesMany this_readMany this_once this_lines this_facts this_pile this_state this_undos this_isMarked this_weight this_rounding this_lacks this_alikes this_g) s.heap.size) args s 0 0 A) (F0 m 130 ls [.int t0]) := by
    intro K52 hK52 x5 x6 x7 x8 t0 u_this_thrown H locs ls hP hD hS hl hm
    unfold m_X12_rests_130 at hm
    refine lv_istore (lv' := [(11, .int t0), (0, .ref this), (1, .int q1), (2, .int q2), (3, .int q3), (4, .int q4), (5, .int x5), (6, .int x6), (7, .int x7), (8, .int x8)]) (pc := 130) hx hb dX12_rests_130 hl (Nat.le_of_ble_eq_true rfl) rfl (fun ls hl => ?_)
    refine lv_iload (pc := 132) hx hb dX12_rests_132 (lv_at hl 0 rfl) ?_
    refine lv_if_eq (tgt := 149) (pc := 134) hx hb dX12_rests_134 (by decide) (fun hc => ?_) (fun hc => ?_)
    · rw [if_pos hc] at hm
      exact h_149 K52 hK52 x5 x6 x7 x8 t0 u_this_thrown H locs ls hP hD hS (lv_sub hl [1, 2, 3, 4, 5, 6, 7, 8, 9, 0] rfl) hm
    · rw [if_neg hc] at hm
      refine lv_iload (pc := 137) hx hb dX12_rests_137 (lv_at hl 7 rfl) ?_
      refine lv_iload (pc := 139) hx hb dX12_rests_139 (lv_at hl 5 rfl) ?_
      refine lv_icmp_ne (tgt := 149) (pc := 141) hx hb dX12_rests_141 (by decide) (fun hc => ?_) (fun hc => ?_)
      · rw [if_neg hc] at hm
        exact h_149 K52 hK52 x5 x6 x7 x8 t0 u_this_thrown H locs ls hP hD hS (lv_sub hl [1, 2, 3, 4, 5, 6, 7, 8, 9, 0] rfl) hm
      · rw [if_pos hc] at hm
        refine lv_iload (pc := 144) hx hb dX12_rests_144 (lv_at hl 9 rfl) ?_
        refine lv_goto (tgt := 151) (pc := 146) hx hb dX12_rests_146 (by decide) ?_
        exact h_151 K52 hK52 x5 x6 x8 t0 x8 u_this_thrown H locs ls hP hD hS (lv_sub hl [1, 2, 3, 4, 5, 6, 7, 9, 0] rfl) hm
  have h_129 : ∀ (K52 : Int32 → Int32 → Int32 → Int32 → Int32 → Option (Int32 × Int32)) (hK52 : ∀ (x5 : Int32) (x6 : Int32) (x7 : Int32) (x8 : Int32) (u_this_thrown : Int32) (H : Heap) (locs : List Loc) (ls : Array Slot), va_P D vwCl (wd_X12_rests k this u_this_thrown this_tape this_taped this_size this_sort this_place this_value this_at this_fault this_words this_towns this_op this_arg this_codes this_names this_readNames this_namesMany this_readMany this_once this_lines this_facts this_pile this_state this_undos this_isMarked this_weight this_rounding this_lacks this_alikes this_g) H → va_D A (wd_X12_rests k this u_this_thrown this_tape this_taped this_size this_sort this_place this_value this_at this_fault this_words this_towns this_op this_arg this_codes this_names this_readNames this_namesMany this_readMany this_once this_lines this_facts this_pile this_state this_undos this_isMarked this_weight this_rounding this_lacks this_alikes this_g) → va_S A s.heap H locs → lv_has ls 12 [(0, .ref this), (1, .int q1), (2, .int q2), (3, .int q3), (4, .int q4), (5, .int x5), (6, .int x6), (7, .int x7), (8, .int x8)] → K52 x5 x6 x7 x8 u_this_thrown = some R0 → W p l e (Rm 1 24) s m args below meth c H locs 0 0 (MQ below (QW D (some (.int R0.1)) (wd_X12_rests k this this_thrown this_tape this_taped this_size this_sort this_place this_value this_at this_fault this_words this_towns this_op this_arg this_codes this_names this_readNames this_namesMany this_readMany this_once this_lines this_facts this_pile this_state this_undos this_isMarked this_weight this_rounding this_lacks this_alikes this_g) (wd_X12_rests k this R0.2 this_tape this_taped this_size this_sort this_place this_value this_at this_fault this_words this_towns this_op this_arg this_codes this_names this_readNames this_namesMany this_readMany this_once this_lines this_facts this_pile this_state this_undos this_isMarked this_weight this_rounding this_lacks this_alikes this_g) s.heap.size) args s 0 0 A) (F0 m 52 ls [])), ∀ (x5 : Int32) (x6 : Int32) (x7 : Int32) (x8 : Int32) (u_this_thrown : Int32) (H : Heap) (locs : List Loc) (ls : Array Slot), va_P D vwCl (wd_X12_rests k this u_this_thrown this_tape this_taped this_size this_sort this_place this_value this_at this_fault this_words this_towns this_op this_arg this_codes this_names this_readNames this_namesMany this_readMany this_once this_lines this_facts this_pile this_state this_undos this_isMarked this_weight this_rounding this_lacks this_alikes this_g) H → va_D A (wd_X12_rests k this u_this_thrown this_tape this_taped this_size this_sort this_place this_value this_at this_fault this_words this_towns this_op this_arg this_codes this_names this_readNames this_namesMany this_readMany this_once this_lines this_facts this_pile this_state this_undos this_isMarked this_weight this_rounding this_lacks this_alikes this_g) → va_S A s.heap H locs → lv_has ls 12 [(0, .ref this), (1, .int q1), (2, .int q2), (3, .int q3), (4, .int q4), (5, .int x5), (6, .int x6), (7, .int x7), (8, .int x8)] → m_X12_rests_129 q1 q2 q3 q4 K52 x5 x6 x7 x8 u_this_thrown = some R0 → W p l e (Rm 1 24) s m args below meth c H locs 0 0 (MQ below (QW D (some (.int R0.1)) (wd_X12_rests k this this_thrown this_tape this_taped this_size this_sort this_place this_value this_at this_fault this_words this_towns this_op this_arg this_codes this_names this_readNames this_namesMany this_readMany this_once this_lines this_facts this_pile this_state this_undos this_isMarked this_weight this_rounding this_lacks this_alikes this_g) (wd_X12_rests k this R0.2 this_tape this_taped this_size this_sort this_place this_value this_at this_fault this_words this_towns this_op this_arg this_codes this_names this_readNames this_namesMany this_readMany this_once this_lines this_facts this_pile this_state this_undos this_isMarked this_weight this_rounding this_lacks this_alikes this_g) s.heap.size) args s 0 0 A) (F0 m 129 ls []) := by
    intro K52 hK52 x5 x6 x7 x8 u_this_thrown H locs ls hP hD hS hl hm
    unfold m_X12_rests_129 at hm
    refine lv_iconst (v := 0) (pc := 129) hx hb dX12_rests_129 (by decide) ?_
    exact h_130 K52 hK52 x5 x6 x7 x8 0 u_this_thrown H locs ls hP hD hS (lv_sub hl [0, 1, 2, 3, 4, 5, 6, 7, 8] rfl) hm
  have h_52 : ∀ (n : Nat), ∀ (x5 : Int32) (x6 : Int32) (x7 : Int32) (x8 : Int32) (u_this_thrown : Int32) (H : Heap) (locs : List Loc) (ls : Array Slot), va_P D vwCl (wd_X12_rests k this u_this_thrown this_tape this_taped this_size this_sort this_place this_value this_at this_fault this_words this_towns this_op this_arg this_codes this_names this_readNames this_namesMany this_readMany this_once this_lines this_facts this_pile this_state this_undos this_isMarked this_weight this_rounding this_lacks this_alikes this_g) H → va_D A (wd_X12_rests k this u_this_thrown this_tape this_taped this_size this_sort this_place this_value this_at this_fault this_words this_towns this_op this_arg this_codes this_names this_readNames this_namesMany this_readMany this_once this_lines this_facts this_pile this_state this_undos this_isMarked this_weight this_rounding this_lacks this_alikes this_g) → va_S A s.heap H locs → lv_has ls 12 [(0, .ref this), (1, .int q1), (2, .int q2), (3, .int q3), (4, .int q4), (5, .int x5), (6, .int x6), (7, .int x7), (8, .int x8)] → m_X12_rests_52 q1 q2 q3 q4 n x5 x6 x7 x8 u_this_thrown = some R0 → W p l e (Rm 1 24) s m args below meth c H locs 0 0 (MQ below (QW D (some (.int R0.1)) (wd_X12_rests k this this_thrown this_tape this_taped this_size this_sort this_place this_value this_at this_fault this_words this_towns this_op this_arg this_codes this_names this_readNames this_namesMany this_readMany this_once this_lines this_facts this_pile this_state this_undos this_isMarked this_weight this_rounding this_lacks this_alikes this_g) (wd_X12_rests k this R0.2 this_tape this_taped this_size this_sort this_place this_value this_at this_fault this_words this_towns this_op this_arg this_codes this_names this_readNames this_namesMany this_readMany this_once this_lines this_facts this_pile this_state this_undos this_isMarked this_weight this_rounding this_lacks this_alikes this_g) s.heap.size) args s 0 0 A) (F0 m 52 ls []) := by
    intro n
    induction n with
    | zero => intro x5 x6 x7 x8 u_this_thrown H locs ls hP hD hS hl hm; cases hm
    | succ n ih =>
      intro x5 x6 x7 x8 u_this_thrown H locs ls hP hD hS hl hm
      unfold m_X12_rests_52 at hm
      refine lv_iload (pc := 52) hx hb dX12_rests_52 (lv_at hl 8 rfl) ?_
      refine lv_iconst (v := 4) (pc := 54) hx hb dX12_rests_54 (by decide) ?_
      refine lv_icmp_ge (tgt := 174) (pc := 55) hx hb dX12_rests_55 (by decide) (fun hc => ?_) (fun hc => ?_)
      · rw [if_pos hc] at hm
        exact h_174 x5 x6 x7 u_this_thrown H locs ls hP hD hS (lv_sub hl [0, 4, 5, 6, 7] rfl) hm
      · rw [if_neg hc] at hm
        refine lv_iload (pc := 58) hx hb dX12_rests_58 (lv_at hl 5 rfl) ?_
        refine lv_if_eq (tgt := 174) (pc := 60) hx hb dX12_rests_60 (by decide) (fun hc => ?_) (fun hc => ?_)
        · rw [if_pos hc] at hm
          exact h_174 x5 x6 x7 u_this_thrown H locs ls hP hD hS (lv_sub hl [0, 4, 5, 6, 7] rfl) hm
        · rw [if_neg hc] at hm
          refine lv_iload (pc := 63) hx hb dX12_rests_63 (lv_at hl 8 rfl) ?_
          refine lv_iconst (v := 2) (pc := 65) hx hb dX12_rests_65 (by decide) ?_
          refine lv_idiv (pc := 66) hx hb dX12_rests_66 (by decide) ?_
          refine lv_istore (lv' := [(9, .int (x8 / 2)), (0, .ref this), (1, .int q1), (2, .int q2), (3, .int q3), (4, .int q4), (5, .int x5), (6, .int x6), (7, .int x7), (8, .int x8)]) (pc := 67) hx hb dX12_rests_67 hl (Nat.le_of_ble_eq_true rfl) rfl (fun ls hl => ?_)
          refine lv_iload (pc := 69) hx hb dX12_rests_69 (lv_at hl 9 rfl) ?_
          refine lv_iconst (v := 2) (pc := 71) hx hb dX12_rests_71 (by decide) ?_
          refine lv_irem (pc := 72) hx hb dX12_rests_72 (by decide) ?_
          refine lv_istore (lv' := [(10, .int (x8 - x8 / 2 * 2)), (9, .int (x8 / 2)), (0, .ref this), (1, .int q1), (2, .int q2), (3, .int q3), (4, .int q4), (5, .int x5), (6, .int x6), (7, .int x7), (8, .int x8)]) (pc := 73) hx hb dX12_rests_73 hl (Nat.le_of_ble_eq_true rfl) rfl (fun ls hl => ?_)
          refine lv_iconst (v := 1) (pc := 75) hx hb dX12_rests_75 (by decide) ?_
          refine lv_iload (pc := 76) hx hb dX12_rests_76 (lv_at hl 1 rfl) ?_
          refine lv_isub (pc := 78) hx hb dX12_rests_78 ?_
          refine lv_iload (pc := 79) hx hb dX12_rests_79 (lv_at hl 0 rfl) ?_
          refine lv_iload_n (pc := 81) hx hb dX12_rests_81 rfl (lv_at hl 3 rfl) ?_
          refine lv_iload_n (pc := 82) hx hb dX12_rests_82 rfl (lv_at hl 4 rfl) ?_
          refine lv_iload_n (pc := 83) hx hb dX12_rests_83 rfl (lv_at hl 5 rfl) ?_
          obtain ⟨r8, hcl, hm⟩ := bd hm
          refine cr_back (run_S (pc := 84) (n := 5) (As := [.int (1 - (x8 / 2)), .int (x8 - x8 / 2 * 2), .int q1, .int q2, .int q3]) (rest := []) ⟨hx, hb, hml, hown, hts⟩ (c_X12_getsBy l D k (1 - (x8 / 2)) (x8 - x8 / 2 * 2) q1 q2 q3 r8 hcl) ⟨kw_1723, kw_16, by decide +kernel⟩ kw_1721 kw_1722 ⟨Nat.le_of_ble_eq_true rfl, Nat.le_of_ble_eq_true rfl⟩ pr_blind (prR (hP.sub [] rfl) hG) rfl hl.1 rfl (Nat.le_of_ble_eq_true rfl) dX12_rests_84 ⟨Nat.zero_le _, Nat.zero_le _⟩) ?_
          refine lv_iload (pc := 87) hx hb dX12_rests_87 (lv_at hl 1 rfl) ?_
          refine lv_iload (pc := 89) hx hb dX12_rests_89 (lv_at hl 0 rfl) ?_
          refine lv_iload_n (pc := 91) hx hb dX12_rests_91 rfl (lv_at hl 3 rfl) ?_
          refine lv_iload_n (pc := 92) hx hb dX12_rests_92 rfl (lv_at hl 4 rfl) ?_
          refine lv_iload_n (pc := 93) hx hb dX12_rests_93 rfl (lv_at hl 5 rfl) ?_
          obtain ⟨r9, hcl, hm⟩ := bd hm
          refine cr_back (run_S (pc := 94) (n := 5) (As := [.int (x8 / 2), .int (x8 - x8 / 2 * 2), .int q1, .int q2, .int q3]) (rest := [.int r8]) ⟨hx, hb, hml, hown, hts⟩ (c_X12_getsBy l D k (x8 / 2) (x8 - x8 / 2 * 2) q1 q2 q3 r9 hcl) ⟨kw_1723, kw_16, by decide +kernel⟩ kw_1721 kw_1722 ⟨Nat.le_of_ble_eq_true rfl, Nat.le_of_ble_eq_true rfl⟩ pr_blind (prR (hP.sub [] rfl) hG) rfl hl.1 rfl (Nat.le_of_ble_eq_true rfl) dX12_rests_94 ⟨Nat.zero_le _, Nat.zero_le _⟩) ?_
          refine lv_icmp_gt (tgt := 129) (pc := 97) hx hb dX12_rests_97 (by decide) (fun hc => ?_) (fun hc => ?_)
          · rw [if_pos hc] at hm
            exact h_129 (m_X12_rests_52 q1 q2 q3 q4 n) ih x5 x6 x7 x8 u_this_thrown H locs ls hP hD hS (lv_sub hl [2, 3, 4, 5, 6, 7, 8, 9, 10] rfl) hm
          · rw [if_neg hc] at hm
            refine lv_iconst (v := 1) (pc := 100) hx hb dX12_rests_100 (by decide) ?_
            refine lv_iload (pc := 101) hx hb dX12_rests_101 (lv_at hl 0 rfl) ?_
            refine lv_isub (pc := 103) hx hb dX12_rests_103 ?_
            refine lv_iload (pc := 104) hx hb dX12_rests_104 (lv_at hl 1 rfl) ?_
            refine lv_iload_n (pc := 106) hx hb dX12_rests_106 rfl (lv_at hl 3 rfl) ?_
            refine lv_iload_n (pc := 107) hx hb dX12_rests_107 rfl (lv_at hl 4 rfl) ?_
            refine lv_iload_n (pc := 108) hx hb dX12_rests_108 rfl (lv_at hl 5 rfl) ?_
            obtain ⟨r10, hcl, hm⟩ := bd hm
            refine cr_back (run_S (pc := 109) (n := 5) (As := [.int (1 - (x8 - x8 / 2 * 2)), .int (x8 / 2), .int q1, .int q2, .int q3]) (rest := []) ⟨hx, hb, hml, hown, hts⟩ (c_X12_getsBy l D k (1 - (x8 - x8 / 2 * 2)) (x8 / 2) q1 q2 q3 r10 hcl) ⟨kw_1723, kw_16, by decide +kernel⟩ kw_1721 kw_1722 ⟨Nat.le_of_ble_eq_true rfl, Nat.le_of_ble_eq_true rfl⟩ pr_blind (prR (hP.sub [] rfl) hG) rfl hl.1 rfl (Nat.le_of_ble_eq_true rfl) dX12_rests_109 ⟨Nat.zero_le _, Nat.zero_le _⟩) ?_
            refine lv_iload (pc := 112) hx hb dX12_rests_112 (lv_at hl 0 rfl) ?_
            refine lv_iload (pc := 114) hx hb dX12_rests_114 (lv_at hl 1 rfl) ?_
            refine lv_iload_n (pc := 116) hx hb dX12_rests_116 rfl (lv_at hl 3 rfl) ?_
            refine lv_iload_n (pc := 117) hx hb dX12_rests_117 rfl (lv_at hl 4 rfl) ?_
            refine lv_iload_n (pc := 118) hx hb dX12_rests_118 rfl (lv_at hl 5 rfl) ?_
            obtain ⟨r11, hcl, hm⟩ := bd hm
            refine cr_back (run_S (pc := 119) (n := 5) (As := [.int (x8 - x8 / 2 * 2), .int (x8 / 2), .int q1, .int q2, .int q3]) (rest := [.int r10]) ⟨hx, hb, hml, hown, hts⟩ (c_X12_getsBy l D k (x8 - x8 / 2 * 2) (x8 / 2) q1 q2 q3 r11 hcl) ⟨kw_1723, kw_16, by decide +kernel⟩ kw_1721 kw_1722 ⟨Nat.le_of_ble_eq_true rfl, Nat.le_of_ble_eq_true rfl⟩ pr_blind (prR (hP.sub [] rfl) hG) rfl hl.1 rfl (Nat.le_of_ble_eq_true rfl) dX12_rests_119 ⟨Nat.zero_le _, Nat.zero_le _⟩) ?_
            refine lv_icmp_gt (tgt := 129) (pc := 122) hx hb dX12_rests_122 (by decide) (fun hc => ?_) (fun hc => ?_)
            · rw [if_pos hc] at hm
              exact h_129 (m_X12_rests_52 q1 q2 q3 q4 n) ih x5 x6 x7 x8 u_this_thrown H locs ls hP hD hS (lv_sub hl [2, 3, 4, 5, 6, 7, 8, 9, 10] rfl) hm
            · rw [if_neg hc] at hm
              refine lv_iconst (v := 1) (pc := 125) hx hb dX12_rests_125 (by decide) ?_
              refine lv_goto (tgt := 130) (pc := 126) hx hb dX12_rests_126 (by decide) ?_
              exact h_130 (m_X12_rests_52 q1 q2 q3 q4 n) ih x5 x6 x7 x8 1 u_this_thrown H locs ls hP hD hS (lv_sub hl [2, 3, 4, 5, 6, 7, 8, 9, 10] rfl) hm
  unfold m_X12_rests at hm
  suffices hgo : ∀ (H : Heap) (locs : List Loc), va_P D vwCl (wd_X12_rests k this this_thrown this_tape this_taped this_size this_sort this_place this_value this_at this_fault this_words this_towns this_op this_arg this_codes this_names this_readNames this_namesMany this_readMany this_once this_lines this_facts this_pile this_state this_undos this_isMarked this_weight this_rounding this_lacks this_alikes this_g) H → va_D A (wd_X12_rests k this this_thrown this_tape this_taped this_size this_sort this_place this_value this_at this_fault this_words this_towns this_op this_arg this_codes this_names this_readNames this_namesMany this_readMany this_once this_lines this_facts this_pile this_state this_undos this_isMarked this_weight this_rounding this_lacks this_alikes this_g) → va_S A s.heap H locs → W p l e (Rm 1 24) s m args below meth c H locs 0 0 (MQ below (QW D (some (.int R0.1)) (wd_X12_rests k this this_thrown this_tape this_taped this_size this_sort this_place this_value this_at this_fault this_words this_towns this_op this_arg this_codes this_names this_readNames this_namesMany this_readMany this_once this_lines this_facts this_pile this_state this_undos this_isMarked this_weight this_rounding this_lacks this_alikes this_g) (wd_X12_rests k this R0.2 this_tape this_taped this_size this_sort this_place this_value this_at this_fault this_words this_towns this_op this_arg this_codes this_names this_readNames this_namesMany this_readMany this_once this_lines this_facts this_pile this_state this_undos this_isMarked this_weight this_rounding this_lacks this_alikes this_g) s.heap.size) args s 0 0 A) (F0 m 0 ls []) from hgo _ _ hP hD hS
  clear hP hD hS
  intro H locs hP hD hS
  refine lv_iload_n (pc := 0) hx hb dX12_rests_0 rfl (lv_at hl 1 rfl) ?_
  refine lv_iconst (v := 0) (pc := 1) hx hb dX12_rests_1 (by decide) ?_
  refine lv_bipush (v := 9) (pc := 2) hx hb dX12_rests_2 (by decide) ?_
  obtain ⟨r12, hcl, hm⟩ := bd hm
  refine cr_back (run_S (pc := 4) (n := 3) (As := [.int q1, .int 0, .int 9]) (rest := []) ⟨hx, hb, hml, hown, hts⟩ (c_X12_within l D k q1 0 9 r12 hcl) ⟨kw_1501, kw_16, by decide +kernel⟩ kw_1499 kw_1500 ⟨Nat.le_of_ble_eq_true rfl, Nat.le_of_ble_eq_true rfl⟩ pr_blind (prR (hP.sub [] rfl) hG) rfl hl.1 rfl (Nat.le_of_ble_eq_true rfl) dX12_rests_4 ⟨Nat.zero_le _, Nat.zero_le _⟩) ?_
  refine lv_if_eq (tgt := 40) (pc := 7) hx hb dX12_rests_7 (by decide) (fun hc => ?_) (fun hc => ?_)
  · rw [if_pos hc] at hm
    refine lv_iconst (v := 0) (pc := 40) hx hb dX12_rests_40 (by decide) ?_
    refine lv_istore (lv' := [(5, .int 0), (0, .ref this), (1, .int q1), (2, .int q2), (3, .int q3), (4, .int q4)]) (pc := 41) hx hb dX12_rests_41 hl (Nat.le_of_ble_eq_true rfl) rfl (fun ls hl => ?_)
    refine lv_iconst (v := 0) (pc := 43) hx hb dX12_rests_43 (by decide) ?_
    refine lv_istore (lv' := [(6, .int 0), (5, .int 0), (0, .ref this), (1, .int q1), (2, .int q2), (3, .int q3), (4, .int q4)]) (pc := 44) hx hb dX12_rests_44 hl (Nat.le_of_ble_eq_true rfl) rfl (fun ls hl => ?_)
    refine lv_iconst (v := (-1)) (pc := 46) hx hb dX12_rests_46 (by decide) ?_
    refine lv_istore (lv' := [(7, .int (-1)), (6, .int 0), (5, .int 0), (0, .ref this), (1, .int q1), (2, .int q2), (3, .int q3), (4, .int q4)]) (pc := 47) hx hb dX12_rests_47 hl (Nat.le_of_ble_eq_true rfl) rfl (fun ls hl => ?_)
    refine lv_iconst (v := 0) (pc := 49) hx hb dX12_rests_49 (by decide) ?_
    refine lv_istore (lv' := [(8, .int 0), (7, .int (-1)), (6, .int 0), (5, .int 0), (0, .ref this), (1, .int q1), (2, .int q2), (3, .int q3), (4, .int q4)]) (pc := 50) hx hb dX12_rests_50 hl (Nat.le_of_ble_eq_true rfl) rfl (fun ls hl => ?_)
    exact h_52 FU 0 0 (-1) 0 this_thrown H locs ls hP hD hS (lv_sub hl [4, 5, 6, 7, 8, 3, 2, 1, 0] rfl) hm
  · rw [if_neg hc] at hm
    refine lv_iload_n (pc := 10) hx hb dX12_rests_10 rfl (lv_at hl 2 rfl) ?_
    refine lv_iconst (v := 0) (pc := 11) hx hb dX12_rests_11 (by decide) ?_
    refine lv_bipush (v := 9) (pc := 12) hx hb dX12_rests_12 (by decide) ?_
    obtain ⟨r13, hcl, hm⟩ := bd hm
    refine cr_back (run_S (pc := 14) (n := 3) (As := [.int q2, .int 0, .int 9]) (rest := []) ⟨hx, hb, hml, hown, hts⟩ (c_X12_within l D k q2 0 9 r13 hcl) ⟨kw_1501, kw_16, by decide +kernel⟩ kw_1499 kw_1500 ⟨Nat.le_of_ble_eq_true rfl, Nat.le_of_ble_eq_true rfl⟩ pr_blind (prR (hP.sub [] rfl) hG) rfl hl.1 rfl (Nat.le_of_ble_eq_true rfl) dX12_rests_14 ⟨Nat.zero_le _, Nat.zero_le _⟩) ?_
    refine lv_if_eq (tgt := 40) (pc := 17) hx hb dX12_rests_17 (by decide) (fun hc => ?_) (fun hc => ?_)
    · rw [if_pos hc] at hm
      refine lv_iconst (v := 0) (pc := 40) hx hb dX12_rests_40 (by decide) ?_
      refine lv_istore (lv' := [(5, .int 0), (0, .ref this), (1, .int q1), (2, .int q2), (3, .int q3), (4, .int q4)]) (pc := 41) hx hb dX12_rests_41 hl (Nat.le_of_ble_eq_true rfl) rfl (fun ls hl => ?_)
      refine lv_iconst (v := 0) (pc := 43) hx hb dX12_rests_43 (by decide) ?_
      refine lv_istore (lv' := [(6, .int 0), (5, .int 0), (0, .ref this), (1, .int q1), (2, .int q2), (3, .int q3), (4, .int q4)]) (pc := 44) hx hb dX12_rests_44 hl (Nat.le_of_ble_eq_true rfl) rfl (fun ls hl => ?_)
      refine lv_iconst (v := (-1)) (pc := 46) hx hb dX12_rests_46 (by decide) ?_
      refine lv_istore (lv' := [(7, .int (-1)), (6, .int 0), (5, .int 0), (0, .ref this), (1, .int q1), (2, .int q2), (3, .int q3), (4, .int q4)]) (pc := 47) hx hb dX12_rests_47 hl (Nat.le_of_ble_eq_true rfl) rfl (fun ls hl => ?_)
      refine lv_iconst (v := 0) (pc := 49) hx hb dX12_rests_49 (by decide) ?_
      refine lv_istore (lv' := [(8, .int 0), (7, .int (-1)), (6, .int 0), (5, .int 0), (0, .ref this), (1, .int q1), (2, .int q2), (3, .int q3), (4, .int q4)]) (pc := 50) hx hb dX12_rests_50 hl (Nat.le_of_ble_eq_true rfl) rfl (fun ls hl => ?_)
      exact h_52 FU 0 0 (-1) 0 this_thrown H locs ls hP hD hS (lv_sub hl [4, 5, 6, 7, 8, 3, 2, 1, 0] rfl) hm
    · rw [if_neg hc] at hm
      refine lv_iload_n (pc := 20) hx hb dX12_rests_20 rfl (lv_at hl 3 rfl) ?_
      refine lv_iconst (v := 0) (pc := 21) hx hb dX12_rests_21 (by decide) ?_
      refine lv_bipush (v := 9) (pc := 22) hx hb dX12_rests_22 (by decide) ?_
      obtain ⟨r14, hcl, hm⟩ := bd hm
      refine cr_back (run_S (pc := 24) (n := 3) (As := [.int q3, .int 0, .int 9]) (rest := []) ⟨hx, hb, hml, hown, hts⟩ (c_X12_within l D k q3 0 9 r14 hcl) ⟨kw_1501, kw_16, by decide +kernel⟩ kw_1499 kw_1500 ⟨Nat.le_of_ble_eq_true rfl, Nat.le_of_ble_eq_true rfl⟩ pr_blind (prR (hP.sub [] rfl) hG) rfl hl.1 rfl (Nat.le_of_ble_eq_true rfl) dX12_rests_24 ⟨Nat.zero_le _, Nat.zero_le _⟩) ?_
      refine lv_if_eq (tgt := 40) (pc := 27) hx hb dX12_rests_27 (by decide) (fun hc => ?_) (fun hc => ?_)
      · rw [if_pos hc] at hm
        refine lv_iconst (v := 0) (pc := 40) hx hb dX12_rests_40 (by decide) ?_
        refine lv_istore (lv' := [(5, .int 0), (0, .ref this), (1, .int q1), (2, .int q2), (3, .int q3), (4, .int q4)]) (pc := 41) hx hb dX12_rests_41 hl (Nat.le_of_ble_eq_true rfl) rfl (fun ls hl => ?_)
        refine lv_iconst (v := 0) (pc := 43) hx hb dX12_rests_43 (by decide) ?_
        refine lv_istore (lv' := [(6, .int 0), (5, .int 0), (0, .ref this), (1, .int q1), (2, .int q2), (3, .int q3), (4, .int q4)]) (pc := 44) hx hb dX12_rests_44 hl (Nat.le_of_ble_eq_true rfl) rfl (fun ls hl => ?_)
        refine lv_iconst (v := (-1)) (pc := 46) hx hb dX12_rests_46 (by decide) ?_
        refine lv_istore (lv' := [(7, .int (-1)), (6, .int 0), (5, .int 0), (0, .ref this), (1, .int q1), (2, .int q2), (3, .int q3), (4, .int q4)]) (pc := 47) hx hb dX12_rests_47 hl (Nat.le_of_ble_eq_true rfl) rfl (fun ls hl => ?_)
        refine lv_iconst (v := 0) (pc := 49) hx hb dX12_rests_49 (by decide) ?_
        refine lv_istore (lv' := [(8, .int 0), (7, .int (-1)), (6, .int 0), (5, .int 0), (0, .ref this), (1, .int q1), (2, .int q2), (3, .int q3), (4, .int q4)]) (pc := 50) hx hb dX12_rests_50 hl (Nat.le_of_ble_eq_true rfl) rfl (fun ls hl => ?_)
        exact h_52 FU 0 0 (-1) 0 this_thrown H locs ls hP hD hS (lv_sub hl [4, 5, 6, 7, 8, 3, 2, 1, 0] rfl) hm
      · rw [if_neg hc] at hm
        refine lv_iload (pc := 30) hx hb dX12_rests_30 (lv_at hl 4 rfl) ?_
        refine lv_iconst (v := (-1)) (pc := 32) hx hb dX12_rests_32 (by decide) ?_
        refine lv_icmp_lt (tgt := 40) (pc := 33) hx hb dX12_rests_33 (by decide) (fun hc => ?_) (fun hc => ?_)
        · rw [if_pos hc] at hm
          refine lv_iconst (v := 0) (pc := 40) hx hb dX12_rests_40 (by decide) ?_
          refine lv_istore (lv' := [(5, .int 0), (0, .ref this), (1, .int q1), (2, .int q2), (3, .int q3), (4, .int q4)]) (pc := 41) hx hb dX12_rests_41 hl (Nat.le_of_ble_eq_true rfl) rfl (fun ls hl => ?_)
          refine lv_iconst (v := 0) (pc := 43) hx hb dX12_rests_43 (by decide) ?_
          refine lv_istore (lv' := [(6, .int 0), (5, .int 0), (0, .ref this), (1, .int q1), (2, .int q2), (3, .int q3), (4, .int q4)]) (pc := 44) hx hb dX12_rests_44 hl (Nat.le_of_ble_eq_true rfl) rfl (fun ls hl => ?_)
          refine lv_iconst (v := (-1)) (pc := 46) hx hb dX12_rests_46 (by decide) ?_
          refine lv_istore (lv' := [(7, .int (-1)), (6, .int 0), (5, .int 0), (0, .ref this), (1, .int q1), (2, .int q2), (3, .int q3), (4, .int q4)]) (pc := 47) hx hb dX12_rests_47 hl (Nat.le_of_ble_eq_true rfl) rfl (fun ls hl => ?_)
          refine lv_iconst (v := 0) (pc := 49) hx hb dX12_rests_49 (by decide) ?_
          refine lv_istore (lv' := [(8, .int 0), (7, .int (-1)), (6, .int 0), (5, .int 0), (0, .ref this), (1, .int q1), (2, .int q2), (3, .int q3), (4, .int q4)]) (pc := 50) hx hb dX12_rests_50 hl (Nat.le_of_ble_eq_true rfl) rfl (fun ls hl => ?_)
          exact h_52 FU 0 0 (-1) 0 this_thrown H locs ls hP hD hS (lv_sub hl [4, 5, 6, 7, 8, 3, 2, 1, 0] rfl) hm
        · rw [if_neg hc] at hm
          refine lv_iconst (v := 1) (pc := 36) hx hb dX12_rests_36 (by decide) ?_
          refine lv_goto (tgt := 41) (pc := 37) hx hb dX12_rests_37 (by decide) ?_
          refine lv_istore (lv' := [(5, .int 1), (0, .ref this), (1, .int q1), (2, .int q2), (3, .int q3), (4, .int q4)]) (pc := 41) hx hb dX12_rests_41 hl (Nat.le_of_ble_eq_true rfl) rfl (fun ls hl => ?_)
          refine lv_iconst (v := 0) (pc := 43) hx hb dX12_rests_43 (by decide) ?_
          refine lv_istore (lv' := [(6, .int 0), (5, .int 1), (0, .ref this), (1, .int q1), (2, .int q2), (3, .int q3), (4, .int q4)]) (pc := 44) hx hb dX12_rests_44 hl (Nat.le_of_ble_eq_true rfl) rfl (fun ls hl => ?_)
          refine lv_iconst (v := (-1)) (pc := 46) hx hb dX12_rests_46 (by decide) ?_
          refine lv_istore (lv' := [(7, .int (-1)), (6, .int 0), (5, .int 1), (0, .ref this), (1, .int q1), (2, .int q2), (3, .int q3), (4, .int q4)]) (pc := 47) hx hb dX12_rests_47 hl (Nat.le_of_ble_eq_true rfl) rfl (fun ls hl => ?_)
          refine lv_iconst (v := 0) (pc := 49) hx hb dX12_rests_49 (by decide) ?_
          refine lv_istore (lv' := [(8, .int 0), (7, .int (-1)), (6, .int 0), (5, .int 1), (0, .ref this), (1, .int q1), (2, .int q2), (3, .int q3), (4, .int q4)]) (pc := 50) hx hb dX12_rests_50 hl (Nat.le_of_ble_eq_true rfl) rfl (fun ls hl => ?_)
          exact h_52 FU 1 0 (-1) 0 this_thrown H locs ls hP hD hS (lv_sub hl [4, 5, 6, 7, 8, 3, 2, 1, 0] rfl) hm
theorem dX12_draw_0 : decode cX12_draw 0 = .ok (.aload_n 0, 1) := by decide +kernel
theorem dX12_draw_1 : decode cX12_draw 1 = .ok (.aload_n 0, 1) := by decide +kernel
theorem dX12_draw_2 : decode cX12_draw 2 = .ok (.getfield 356, 3) := by decide +kernel
theorem dX12_draw_5 : decode cX12_draw 5 = .ok (.ldc2_w 360, 3) := by decide +kernel
theorem dX12_draw_8 : decode cX12_draw 8 = .ok (.lmul, 1) := by decide +kernel
theorem dX12_draw_9 : decode cX12_draw 9 = .ok (.ldc2_w 362, 3) := by decide +kernel
theorem dX12_draw_12 : decode cX12_draw 12 = .ok (.ladd, 1) := by decide +kernel
theorem dX12_draw_13 : decode cX12_draw 13 = .ok (.ldc2_w 364, 3) := by decide +kernel
theorem dX12_draw_16 : decode cX12_draw 16 = .ok (.lrem, 1) := by decide +kernel
theorem dX12_draw_17 : decode cX12_draw 17 = .ok (.putfield 356, 3) := by decide +kernel
theorem dX12_draw_20 : decode cX12_draw 20 = .ok (.aload_n 0, 1) := by decide +kernel
theorem dX12_draw_21 : decode cX12_draw 21 = .ok (.getfield 356, 3) := by decide +kernel
theorem dX12_draw_24 : decode cX12_draw 24 = .ok (.ldc2_w 366, 3) := by decide +kernel
theorem dX12_draw_27 : decode cX12_draw 27 = .ok (.ldiv, 1) := by decide +kernel
theorem dX12_draw_28 : decode cX12_draw 28 = .ok (.iload_n 1, 1) := by decide +kernel
theorem dX12_draw_29 : decode cX12_draw 29 = .ok (.i2l, 1) := by decide +kernel
theorem dX12_draw_30 : decode cX12_draw 30 = .ok (.lrem, 1) := by decide +kernel
theorem dX12_draw_31 : decode cX12_draw 31 = .ok (.l2i, 1) := by decide +kernel
theorem dX12_draw_32 : decode cX12_draw 32 = .ok (.ireturn, 1) := by decide +kernel
abbrev wd_X12_draw (k : Nat → ClassId) (this : Nat) (this_thrown : Int32) (this_tape : Nat) (this_taped : Int32) (this_size : Int32) (this_sort : Nat) (this_place : Nat) (this_value : Nat) (this_at : Int32) (this_fault : Int32) (this_words : Nat) (this_towns : Nat) (this_op : Nat) (this_arg : Nat) (this_codes : Int32) (this_names : Nat) (this_readNames : Nat) (this_namesMany : Int32) (this_readMany : Int32) (this_once : Int32) (this_lines : Nat) (this_facts : Nat) (this_pile : Nat) (this_state : Nat) (this_undos : Int32) (this_isMarked : Nat) (this_weight : Int32) (this_rounding : Int32) (this_lacks : Nat) (this_alikes : Nat) (this_g : Int64) : va_W := [(this, .inr (10, [.int this_thrown, .ref this_tape, .int this_taped, .int this_size, .ref this_sort, .ref this_place, .ref this_value, .int this_at, .int this_fault, .ref this_words, .ref this_towns, .ref this_op, .ref this_arg, .int this_codes, .ref this_names, .ref this_readNames, .int this_namesMany, .int this_readMany, .int this_once, .ref this_lines, .ref this_facts, .ref this_pile, .ref this_state, .int this_undos, .ref this_isMarked, .int this_weight, .int this_rounding, .ref this_lacks, .ref this_alikes, .long this_g]))]
set_option maxHeartbeats 4000000 in
set_option maxRecDepth 100000 in
theorem c_X12_draw (l : Launch) (D : va_G) (k : Nat → ClassId) (this : Nat) (this_thrown : Int32) (this_tape : Nat) (this_taped : Int32) (this_size : Int32) (this_sort : Nat) (this_place : Nat) (this_value : Nat) (this_at : Int32) (this_fault : Int32) (this_words : Nat) (this_towns : Nat) (this_op : Nat) (this_arg : Nat) (this_codes : Int32) (this_names : Nat) (this_readNames : Nat) (this_namesMany : Int32) (this_readMany : Int32) (this_once : Int32) (this_lines : Nat) (this_facts : Nat) (this_pile : Nat) (this_state : Nat) (this_undos : Int32) (this_isMarked : Nat) (this_weight : Int32) (this_rounding : Int32) (this_lacks : Nat) (this_alikes : Nat) (this_g : Int64) (q1 : Int32) (R0 : Int32 × Int64) (hm : m_X12_draw this_g q1 = some R0) : CW l D (TY k) yX12_draw cX12_draw 2 (some .int) 0 0 [.ref this, .int q1] (wd_X12_draw k this this_thrown this_tape this_taped this_size this_sort this_place this_value this_at this_fault this_words this_towns this_op this_arg this_codes this_names this_readNames this_namesMany this_readMany this_once this_lines this_facts this_pile this_state this_undos this_isMarked this_weight this_rounding this_lacks this_alikes this_g) (some (.int R0.1)) (wd_X12_draw k this this_thrown this_tape this_taped this_size this_sort this_place this_value this_at this_fault this_words this_towns this_op this_arg this_codes this_names this_readNames this_namesMany this_readMany this_once this_lines this_facts this_pile this_state this_undos this_isMarked this_weight this_rounding this_lacks this_alikes R0.2) := by
  refine CW.mk (by decide) (Nat.le_of_ble_eq_true rfl) ?_
  intro p e s m args below meth c ls A ⟨hx, hb, hr, hts, hown, hlocks, hml⟩ hP hG hD hA hl hS hq
  have hl : lv_has ls 2 [(0, .ref this), (1, .int q1)] := hl
  unfold m_X12_draw at hm
  suffices hgo : ∀ (H : Heap) (locs : List Loc), va_P D vwCl (wd_X12_draw k this this_thrown this_tape this_taped this_size this_sort this_place this_value this_at this_fault this_words this_towns this_op this_arg this_codes this_names this_readNames this_namesMany this_readMany this_once this_lines this_facts this_pile this_state this_undos this_isMarked this_weight this_rounding this_lacks this_alikes this_g) H → va_D A (wd_X12_draw k this this_thrown this_tape this_taped this_size this_sort this_place this_value this_at this_fault this_words this_towns this_op this_arg this_codes this_names this_readNames this_namesMany this_readMany this_once this_lines this_facts this_pile this_state this_undos this_isMarked this_weight this_rounding this_lacks this_alikes this_g) → va_S A s.heap H locs → W p l e (Rm 0 0) s m args below meth c H locs 0 0 (MQ below (QW D (some (.int R0.1)) (wd_X12_draw k this this_thrown this_tape this_taped this_size this_sort this_place this_value this_at this_fault this_words this_towns this_op this_arg this_codes this_names this_readNames this_namesMany this_readMany this_once this_lines this_facts this_pile this_state this_undos this_isMarked this_weight this_rounding this_lacks this_alikes this_g) (wd_X12_draw k this this_thrown this_tape this_taped this_size this_sort this_place this_value this_at this_fault this_words this_towns this_op this_arg this_codes this_names this_readNames this_namesMany this_readMany this_once this_lines this_facts this_pile this_state this_undos this_isMarked this_weight this_rounding this_lacks this_alikes R0.2) s.heap.size) args s 0 0 A) (F0 m 0 ls []) from hgo _ _ hP hD hS
  clear hP hD hS
  intro H locs hP hD hS
  refine lv_aload_n (pc := 0) hx hb dX12_draw_0 rfl (lv_at hl 0 rfl) ?_
  refine lv_aload_n (pc := 1) hx hb dX12_draw_1 rfl (lv_at hl 0 rfl) ?_
  refine va_get (pc := 2) (D := D) (ci := 10) (C := RX12) (T := TX12) (N := 30) hx hb hts hiX12 hown hG.1 hP 0 rfl rfl 29 (Nat.le_of_ble_eq_true rfl) (hts _ kw_1286) (fun _ h9 => h9) rfl dX12_draw_2 ?_
  refine lv_ldc2 (pc := 5) (own := RX12) hx hb hown (hts _ kw_1736) dX12_draw_5 ?_
  refine lv_lmul (pc := 8) hx hb dX12_draw_8 ?_
  refine lv_ldc2 (pc := 9) (own := RX12) hx hb hown (hts _ kw_1737) dX12_draw_9 ?_
  refine lv_ladd (pc := 12) hx hb dX12_draw_12 ?_
  refine lv_ldc2 (pc := 13) (own := RX12) hx hb hown (hts _ kw_1738) dX12_draw_13 ?_
  refine lv_lrem (pc := 16) hx hb dX12_draw_16 (by decide) ?_
  refine va_put (pc := 17) (D := D) (ci := 10) (v := .long (((this_g * 1103515245) + 12345) - ((this_g * 1103515245) + 12345) / 2147483648 * 2147483648)) (ty := .long) (C := RX12) (T := TX12) (N := 30) hx hb hts hiX12 tyX12 tyX12_ok nmX12 hown hG.1 hP hD hS 0 rfl rfl 29 (Nat.le_of_ble_eq_true rfl) (hts _ kw_1286) (fun _ h9 => h9) rfl (by decide +kernel) rfl rfl (Nat.le_of_ble_eq_true rfl) dX12_draw_17 (fun H locs hP hD hS => ?_)
  have hP : va_P D vwCl (wd_X12_draw k this this_thrown this_tape this_taped this_size this_sort this_place this_value this_at this_fault this_words this_towns this_op this_arg this_codes this_names this_readNames this_namesMany this_readMany this_once this_lines this_facts this_pile this_state this_undos this_isMarked this_weight this_rounding this_lacks this_alikes (((this_g * 1103515245) + 12345) - ((this_g * 1103515245) + 12345) / 2147483648 * 2147483648)) H := hP
  have hD : va_D A (wd_X12_draw k this this_thrown this_tape this_taped this_size this_sort this_place this_value this_at this_fault this_words this_towns this_op this_arg this_codes this_names this_readNames this_namesMany this_readMany this_once this_lines this_facts this_pile this_state this_undos this_isMarked this_weight this_rounding this_lacks this_alikes (((this_g * 1103515245) + 12345) - ((this_g * 1103515245) + 12345) / 2147483648 * 2147483648)) := hD
  refine lv_aload_n (pc := 20) hx hb dX12_draw_20 rfl (lv_at hl 0 rfl) ?_
  refine va_get (pc := 21) (D := D) (ci := 10) (C := RX12) (T := TX12) (N := 30) hx hb hts hiX12 hown hG.1 hP 0 rfl rfl 29 (Nat.le_of_ble_eq_true rfl) (hts _ kw_1286) (fun _ h9 => h9) rfl dX12_draw_21 ?_
  refine lv_ldc2 (pc := 24) (own := RX12) hx hb hown (hts _ kw_1739) dX12_draw_24 ?_
  refine lv_ldiv (pc := 27) hx hb dX12_draw_27 (by decide) ?_
  refine lv_iload_n (pc := 28) hx hb dX12_draw_28 rfl (lv_at hl 1 rfl) ?_
  refine lv_i2l (pc := 29) hx hb dX12_draw_29 rfl ?_
  obtain ⟨hnz, hm⟩ := gd hm
  refine lv_lrem (pc := 30) hx hb dX12_draw_30 hnz ?_
  refine lv_l2i (pc := 31) hx hb dX12_draw_31 rfl ?_
  rw [← Option.some.inj hm]
  exact W.iret hx hb hr (fun t ht _ => hq _ _ H t ht hP hD locs hS) hS.2.2 dX12_draw_32 hlocks
theorem dX12_drawsDeed_0 : decode cX12_drawsDeed 0 = .ok (.aload_n 0, 1) := by decide +kernel
theorem dX12_drawsDeed_1 : decode cX12_drawsDeed 1 = .ok (.aload_n 0, 1) := by decide +kernel
theorem dX12_drawsDeed_2 : decode cX12_drawsDeed 2 = .ok (.invokevirtual 255, 3) := by decide +kernel
theorem dX12_drawsDeed_5 : decode cX12_drawsDeed 5 = .ok (.invokevirtual 368, 3) := by decide +kernel
theorem dX12_drawsDeed_8 : decode cX12_drawsDeed 8 = .ok (.istore_n 1, 1) := by decide +kernel
theorem dX12_drawsDeed_9 : decode cX12_drawsDeed 9 = .ok (.aload_n 0, 1) := by decide +kernel
theorem dX12_drawsDeed_10 : decode cX12_drawsDeed 10 = .ok (.iconst 4, 1) := by decide +kernel
theorem dX12_drawsDeed_11 : decode cX12_drawsDeed 11 = .ok (.invokevirtual 368, 3) := by decide +kernel
theorem dX12_drawsDeed_14 : decode cX12_drawsDeed 14 = .ok (.istore_n 2, 1) := by decide +kernel
theorem dX12_drawsDeed_15 : decode cX12_drawsDeed 15 = .ok (.iload_n 2, 1) := by decide +kernel
theorem dX12_drawsDeed_16 : decode cX12_drawsDeed 16 = .ok (.iconst 3, 1) := by decide +kernel
theorem dX12_drawsDeed_17 : decode cX12_drawsDeed 17 = .ok (.if_icmp .ge 34, 3) := by decide +kernel
theorem dX12_drawsDeed_20 : decode cX12_drawsDeed 20 = .ok (.aload_n 0, 1) := by decide +kernel
theorem dX12_drawsDeed_21 : decode cX12_drawsDeed 21 = .ok (.bipush 20, 2) := by decide +kernel
theorem dX12_drawsDeed_23 : decode cX12_drawsDeed 23 = .ok (.invokevirtual 368, 3) := by decide +kernel
theorem dX12_drawsDeed_26 : decode cX12_drawsDeed 26 = .ok (.iconst 1, 1) := by decide +kernel
theorem dX12_drawsDeed_27 : decode cX12_drawsDeed 27 = .ok (.iadd, 1) := by decide +kernel
theorem dX12_drawsDeed_28 : decode cX12_drawsDeed 28 = .ok (.istore_n 3, 1) := by decide +kernel
theorem dX12_drawsDeed_29 : decode cX12_drawsDeed 29 = .ok (.aload_n 0, 1) := by decide +kernel
theorem dX12_drawsDeed_30 : decode cX12_drawsDeed 30 = .ok (.sipush 1056, 3) := by decide +kernel
theorem dX12_drawsDeed_33 : decode cX12_drawsDeed 33 = .ok (.iload_n 1, 1) := by decide +kernel
theorem dX12_drawsDeed_34 : decode cX12_drawsDeed 34 = .ok (.iload_n 2, 1) := by decide +kernel
theorem dX12_drawsDeed_35 : decode cX12_drawsDeed 35 = .ok (.iconst 2, 1) := by decide +kernel
theorem dX12_drawsDeed_36 : decode cX12_drawsDeed 36 = .ok (.if_icmp .ge 7, 3) := by decide +kernel
theorem dX12_drawsDeed_39 : decode cX12_drawsDeed 39 = .ok (.iload_n 3, 1) := by decide +kernel
theorem dX12_drawsDeed_40 : decode cX12_drawsDeed 40 = .ok (.goto 5, 3) := by decide +kernel
theorem dX12_drawsDeed_43 : decode cX12_drawsDeed 43 = .ok (.iload_n 3, 1) := by decide +kernel
theorem dX12_drawsDeed_44 : decode cX12_drawsDeed 44 = .ok (.ineg, 1) := by decide +kernel
theorem dX12_drawsDeed_45 : decode cX12_drawsDeed 45 = .ok (.invokevirtual 312, 3) := by decide +kernel
theorem dX12_drawsDeed_48 : decode cX12_drawsDeed 48 = .ok (.goto 14, 3) := by decide +kernel
theorem dX12_drawsDeed_51 : decode cX12_drawsDeed 51 = .ok (.aload_n 0, 1) := by decide +kernel
theorem dX12_drawsDeed_52 : decode cX12_drawsDeed 52 = .ok (.getfield 113, 3) := by decide +kernel
theorem dX12_drawsDeed_55 : decode cX12_drawsDeed 55 = .ok (.sipush 1057, 3) := by decide +kernel
theorem dX12_drawsDeed_58 : decode cX12_drawsDeed 58 = .ok (.iload_n 1, 1) := by decide +kernel
theorem dX12_drawsDeed_59 : decode cX12_drawsDeed 59 = .ok (.iadd, 1) := by decide +kernel
theorem dX12_drawsDeed_60 : decode cX12_drawsDeed 60 = .ok (.iconst 0, 1) := by decide +kernel
theorem dX12_drawsDeed_61 : decode cX12_drawsDeed 61 = .ok (.iastore, 1) := by decide +kernel
theorem dX12_drawsDeed_62 : decode cX12_drawsDeed 62 = .ok (.return_, 1) := by decide +kernel
abbrev wd_X12_drawsDeed (k : Nat → ClassId) (this : Nat) (this_thrown : Int32) (this_tape : Nat) (this_taped : Int32) (this_size : Int32) (this_sort : Nat) (this_place : Nat) (this_value : Nat) (this_at : Int32) (this_fault : Int32) (this_words : Nat) (this_towns : Nat) (this_towns_f : Nat → Int32) (this_op : Nat) (this_arg : Nat) (this_codes : Int32) (this_names : Nat) (this_readNames : Nat) (this_namesMany : Int32) (this_readMany : Int32) (this_once : Int32) (this_lines : Nat) (this_facts : Nat) (this_pile : Nat) (this_state : Nat) (this_state_f : Nat → Int32) (this_undos : Int32) (this_isMarked : Nat) (this_weight : Int32) (this_rounding : Int32) (this_lacks : Nat) (this_alikes : Nat) (this_g : Int64) : va_W := [(this, .inr (10, [.int this_thrown, .ref this_tape, .int this_taped, .int this_size, .ref this_sort, .ref this_place, .ref this_value, .int this_at, .int this_fault, .ref this_words, .ref this_towns, .ref this_op, .ref this_arg, .int this_codes, .ref this_names, .ref this_readNames, .int this_namesMany, .int this_readMany, .int this_once, .ref this_lines, .ref this_facts, .ref this_pile, .ref this_state, .int this_undos, .ref this_isMarked, .int this_weight, .int this_rounding, .ref this_lacks, .ref this_alikes, .long this_g])), (this_towns, .inl (k 0, 60, .inl this_towns_f)), (this_state, .inl (k 0, 1104, .inl this_state_f))]
set_option maxHeartbeats 4000000 in
set_option maxRecDepth 100000 in
theorem c_X12_drawsDeed (l : Launch) (D : va_G) (k : Nat → ClassId) (this : Nat) (this_thrown : Int32) (this_tape : Nat) (this_taped : Int32) (this_size : Int32) (this_sort : Nat) (this_place : Nat) (this_value : Nat) (this_at : Int32) (this_fault : Int32) (this_words : Nat) (this_towns : Nat) (this_towns_f : Nat → Int32) (this_op : Nat) (this_arg : Nat) (this_codes : Int32) (this_names : Nat) (this_readNames : Nat) (this_namesMany : Int32) (this_readMany : Int32) (this_once : Int32) (this_lines : Nat) (this_facts : Nat) (this_pile : Nat) (this_state : Nat) (this_state_f : Nat → Int32) (this_undos : Int32) (this_isMarked : Nat) (this_weight : Int32) (this_rounding : Int32) (this_lacks : Nat) (this_alikes : Nat) (this_g : Int64) (R0 : Int64 × (Nat → Int32)) (hm : m_X12_drawsDeed this_towns_f this_state_f this_g = some R0) : CW l D (TY k) yX12_drawsDeed cX12_drawsDeed 4 none 2 45 [.ref this] (wd_X12_drawsDeed k this this_thrown this_tape this_taped this_size this_sort this_place this_value this_at this_fault this_words this_towns this_towns_f this_op this_arg this_codes this_names this_readNames this_namesMany this_readMany this_once this_lines this_facts this_pile this_state this_state_f this_undos this_isMarked this_weight this_rounding this_lacks this_alikes this_g) none (wd_X12_drawsDeed k this this_thrown this_tape this_taped this_size this_sort this_place this_value this_at this_fault this_words this_towns this_towns_f this_op this_arg this_codes this_names this_readNames this_namesMany this_readMany this_once this_lines this_facts this_pile this_state R0.2 this_undos this_isMarked this_weight this_rounding this_lacks this_alikes R0.1) := by
  refine CW.mk (by decide) (Nat.le_of_ble_eq_true rfl) ?_
  intro p e s m args below meth c ls A ⟨hx, hb, hr, hts, hown, hlocks, hml⟩ hP hG hD hA hl hS hq
  have hl : lv_has ls 4 [(0, .ref this)] := hl
  have h_45 : ∀ (t0 : Int32) (t1 : Int32) (t2 : Int32) (u_this_g : Int64) (u_this_state_f : Nat → Int32) (H : Heap) (locs : List Loc) (ls : Array Slot), va_P D vwCl (wd_X12_drawsDeed k this this_thrown this_tape this_taped this_size this_sort this_place this_value this_at this_fault this_words this_towns this_towns_f this_op this_arg this_codes this_names this_readNames this_namesMany this_readMany this_once this_lines this_facts this_pile this_state u_this_state_f this_undos this_isMarked this_weight this_rounding this_lacks this_alikes u_this_g) H → va_D A (wd_X12_drawsDeed k this this_thrown this_tape this_taped this_size this_sort this_place this_value this_at this_fault this_words this_towns this_towns_f this_op this_arg this_codes this_names this_readNames this_namesMany this_readMany this_once this_lines this_facts this_pile this_state u_this_state_f this_undos this_isMarked this_weight this_rounding this_lacks this_alikes u_this_g) → va_S A s.heap H locs → lv_has ls 4 [] → m_X12_drawsDeed_45 this_towns_f t0 t1 t2 u_this_g u_this_state_f = some R0 → W p l e (Rm 2 45) s m args below meth c H locs 0 0 (MQ below (QW D none (wd_X12_drawsDeed k this this_thrown this_tape this_taped this_size this_sort this_place this_value this_at this_fault this_words this_towns this_towns_f this_op this_arg this_codes this_names this_readNames this_namesMany this_readMany this_once this_lines this_facts this_pile this_state this_state_f this_undos this_isMarked this_weight this_rounding this_lacks this_alikes this_g) (wd_X12_drawsDeed k this this_thrown this_tape this_taped this_size this_sort this_place this_value this_at this_fault this_words this_towns this_towns_f this_op this_arg this_codes this_names this_readNames this_namesMany this_readMany this_once this_lines this_facts this_pile this_state R0.2 this_undos this_isMarked this_weight this_rounding this_lacks this_alikes R0.1) s.heap.size) args s 0 0 A) (F0 m 45 ls [.int t0, .int t1, .int t2, .ref this]) := by
    intro  t0 t1 t2 u_this_g u_this_state_f H locs ls hP hD hS hl hm
    unfold m_X12_drawsDeed_45 at hm
    obtain ⟨r6, hcl, hm⟩ := bd hm
    refine cw_mask (ws' := (wd_X12_drawsDeed k this this_thrown this_tape this_taped this_size this_sort this_place this_value this_at this_fault this_words this_towns this_towns_f this_op this_arg this_codes this_names this_readNames this_namesMany this_readMany this_once this_lines this_facts this_pile this_state r6 this_undos this_isMarked this_weight this_rounding this_lacks this_alikes u_this_g)) (run_V (pc := 45) (n := 3) (As := [.int t2, .int t1, .int t0]) (rest := []) ⟨hx, hb, hml, hown, hts⟩ ((c_X12_loses l D k this this_thrown this_tape this_taped this_size this_sort this_place this_value this_at this_fault this_words this_towns this_op this_arg this_codes this_names this_readNames this_namesMany this_readMany this_once this_lines this_facts this_pile this_state u_this_state_f this_undos this_isMarked this_weight this_rounding this_lacks this_alikes u_this_g t2 t1 t0 r6 hcl) H.size) ⟨kw_1517, kw_16, by decide +kernel⟩ kw_1514 kw_1516 ks_130 ⟨Nat.le_of_ble_eq_true rfl, Nat.le_of_ble_eq_true rfl⟩ pw_blind (prW (P_pick [true, false, true] rfl hP) hG (D_pick [true, false, true] rfl hD)) (va_recv hG.1 hP (ci := 10) (q0 := 0) rfl rfl) rfl hl.1 rfl (Nat.le_of_ble_eq_true rfl) dX12_drawsDeed_45 ⟨Nat.zero_le _, Nat.zero_le _⟩) hP hD hS hA [true, false, true] rfl rfl rfl (fun H locs hP hD hS => ?_)
    refine lv_goto (tgt := 62) (pc := 48) hx hb dX12_drawsDeed_48 (by decide) ?_
    rw [← Option.some.inj hm]
    exact W.vret hx hb hr (fun t ht _ => hq _ _ H t ht hP hD locs hS) hS.2.2 dX12_drawsDeed_62 hlocks
  unfold m_X12_drawsDeed at hm
  suffices hgo : ∀ (H : Heap) (locs : List Loc), va_P D vwCl (wd_X12_drawsDeed k this this_thrown this_tape this_taped this_size this_sort this_place this_value this_at this_fault this_words this_towns this_towns_f this_op this_arg this_codes this_names this_readNames this_namesMany this_readMany this_once this_lines this_facts this_pile this_state this_state_f this_undos this_isMarked this_weight this_rounding this_lacks this_alikes this_g) H → va_D A (wd_X12_drawsDeed k this this_thrown this_tape this_taped this_size this_sort this_place this_value this_at this_fault this_words this_towns this_towns_f this_op this_arg this_codes this_names this_readNames this_namesMany this_readMany this_once this_lines this_facts this_pile this_state this_state_f this_undos this_isMarked this_weight this_rounding this_lacks this_alikes this_g) → va_S A s.heap H locs → W p l e (Rm 2 45) s m args below meth c H locs 0 0 (MQ below (QW D none (wd_X12_drawsDeed k this this_thrown this_tape this_taped this_size this_sort this_place this_value this_at this_fault this_words this_towns this_towns_f this_op this_arg this_codes this_names this_readNames this_namesMany this_readMany this_once this_lines this_facts this_pile this_state this_state_f this_undos this_isMarked this_weight this_rounding this_lacks this_alikes this_g) (wd_X12_drawsDeed k this this_thrown this_tape this_taped this_size this_sort this_place this_value this_at this_fault this_words this_towns this_towns_f this_op this_arg this_codes this_names this_readNames this_namesMany this_readMany this_once this_lines this_facts this_pile this_state R0.2 this_undos this_isMarked this_weight this_rounding this_lacks this_alikes R0.1) s.heap.size) args s 0 0 A) (F0 m 0 ls []) from hgo _ _ hP hD hS
  clear hP hD hS
  intro H locs hP hD hS
  refine lv_aload_n (pc := 0) hx hb dX12_drawsDeed_0 rfl (lv_at hl 0 rfl) ?_
  refine lv_aload_n (pc := 1) hx hb dX12_drawsDeed_1 rfl (lv_at hl 0 rfl) ?_
  obtain ⟨r7, hcl, hm⟩ := bd hm
  refine cr_back (run_V (pc := 2) (n := 0) (As := []) (rest := [.ref this]) ⟨hx, hb, hml, hown, hts⟩ (c_X12_persons l D k this this_thrown this_tape this_taped this_size this_sort this_place this_value this_at this_fault this_words this_towns this_towns_f this_op this_arg this_codes this_names this_readNames this_namesMany this_readMany this_once this_lines this_facts this_pile this_state this_undos this_isMarked this_weight this_rounding this_lacks this_alikes this_g r7 hcl) ⟨kw_1252, kw_16, by decide +kernel⟩ kw_1249 kw_1251 ks_97 ⟨Nat.le_of_ble_eq_true rfl, Nat.le_of_ble_eq_true rfl⟩ pr_blind (prR (hP.sub [0, 1] rfl) hG) (va_recv hG.1 hP (ci := 10) (q0 := 0) rfl rfl) rfl hl.1 rfl (Nat.le_of_ble_eq_true rfl) dX12_drawsDeed_2 ⟨Nat.zero_le _, Nat.zero_le _⟩) ?_
  obtain ⟨r8, hcl, hm⟩ := bd hm
  refine cw_mask (ws' := (wd_X12_drawsDeed k this this_thrown this_tape this_taped this_size this_sort this_place this_value this_at this_fault this_words this_towns this_towns_f this_op this_arg this_codes this_names this_readNames this_namesMany this_readMany this_once this_lines this_facts this_pile this_state this_state_f this_undos this_isMarked this_weight this_rounding this_lacks this_alikes r8.2)) (run_V (pc := 5) (n := 1) (As := [.int r7]) (rest := []) ⟨hx, hb, hml, hown, hts⟩ ((c_X12_draw l D k this this_thrown this_tape this_taped this_size this_sort this_place this_value this_at this_fault this_words this_towns this_op this_arg this_codes this_names this_readNames this_namesMany this_readMany this_once this_lines this_facts this_pile this_state this_undos this_isMarked this_weight this_rounding this_lacks this_alikes this_g r7 r8 hcl) H.size) ⟨kw_1735, kw_16, by decide +kernel⟩ kw_1732 kw_1734 ks_144 ⟨Nat.le_of_ble_eq_true rfl, Nat.le_of_ble_eq_true rfl⟩ pw_blind (prW (P_pick [true] rfl hP) hG (D_pick [true] rfl hD)) (va_recv hG.1 hP (ci := 10) (q0 := 0) rfl rfl) rfl hl.1 rfl (Nat.le_of_ble_eq_true rfl) dX12_drawsDeed_5 ⟨Nat.zero_le _, Nat.zero_le _⟩) hP hD hS hA [true] rfl rfl rfl (fun H locs hP hD hS => ?_)
  refine lv_istore_n (lv' := [(1, .int r8.1), (0, .ref this)]) (pc := 8) hx hb dX12_drawsDeed_8 rfl hl (Nat.le_of_ble_eq_true rfl) rfl (fun ls hl => ?_)
  refine lv_aload_n (pc := 9) hx hb dX12_drawsDeed_9 rfl (lv_at hl 1 rfl) ?_
  refine lv_iconst (v := 4) (pc := 10) hx hb dX12_drawsDeed_10 (by decide) ?_
  obtain ⟨r9, hcl, hm⟩ := bd hm
  refine cw_mask (ws' := (wd_X12_drawsDeed k this this_thrown this_tape this_taped this_size this_sort this_place this_value this_at this_fault this_words this_towns this_towns_f this_op this_arg this_codes this_names this_readNames this_namesMany this_readMany this_once this_lines this_facts this_pile this_state this_state_f this_undos this_isMarked this_weight this_rounding this_lacks this_alikes r9.2)) (run_V (pc := 11) (n := 1) (As := [.int 4]) (rest := []) ⟨hx, hb, hml, hown, hts⟩ ((c_X12_draw l D k this this_thrown this_tape this_taped this_size this_sort this_place this_value this_at this_fault this_words this_towns this_op this_arg this_codes this_names this_readNames this_namesMany this_readMany this_once this_lines this_facts this_pile this_state this_undos this_isMarked this_weight this_rounding this_lacks this_alikes r8.2 4 r9 hcl) H.size) ⟨kw_1735, kw_16, by decide +kernel⟩ kw_1732 kw_1734 ks_144 ⟨Nat.le_of_ble_eq_true rfl, Nat.le_of_ble_eq_true rfl⟩ pw_blind (prW (P_pick [true] rfl hP) hG (D_pick [true] rfl hD)) (va_recv hG.1 hP (ci := 10) (q0 := 0) rfl rfl) rfl hl.1 rfl (Nat.le_of_ble_eq_true rfl) dX12_drawsDeed_11 ⟨Nat.zero_le _, Nat.zero_le _⟩) hP hD hS hA [true] rfl rfl rfl (fun H locs hP hD hS => ?_)
  refine lv_istore_n (lv' := [(2, .int r9.1), (1, .int r8.1), (0, .ref this)]) (pc := 14) hx hb dX12_drawsDeed_14 rfl hl (Nat.le_of_ble_eq_true rfl) rfl (fun ls hl => ?_)
  refine lv_iload_n (pc := 15) hx hb dX12_drawsDeed_15 rfl (lv_at hl 0 rfl) ?_
  refine lv_iconst (v := 3) (pc := 16) hx hb dX12_drawsDeed_16 (by decide) ?_
  refine lv_icmp_ge (tgt := 51) (pc := 17) hx hb dX12_drawsDeed_17 (by decide) (fun hc => ?_) (fun hc => ?_)
  · rw [if_pos hc] at hm
    refine lv_aload_n (pc := 51) hx hb dX12_drawsDeed_51 rfl (lv_at hl 2 rfl) ?_
    refine va_get (pc := 52) (D := D) (ci := 10) (C := RX12) (T := TX12) (N := 30) hx hb hts hiX12 hown hG.1 hP 0 rfl rfl 22 (Nat.le_of_ble_eq_true rfl) (hts _ kw_1279) (fun _ h9 => h9) rfl dX12_drawsDeed_52 ?_
    refine lv_sipush (v := 1057) (pc := 55) hx hb dX12_drawsDeed_55 (by decide) ?_
    refine lv_iload_n (pc := 58) hx hb dX12_drawsDeed_58 rfl (lv_at hl 1 rfl) ?_
    refine lv_iadd (pc := 59) hx hb dX12_drawsDeed_59 ?_
    refine lv_iconst (v := 0) (pc := 60) hx hb dX12_drawsDeed_60 (by decide) ?_
    obtain ⟨hin, hm⟩ := gd hm
    refine va_iast (pc := 61) (D := D) hx hb hG.1 hP hD hS 2 0 rfl rfl hin dX12_drawsDeed_61 (fun H locs hP hD hS => ?_)
    have hP : va_P D vwCl (wd_X12_drawsDeed k this this_thrown this_tape this_taped this_size this_sort this_place this_value this_at this_fault this_words this_towns this_towns_f this_op this_arg this_codes this_names this_readNames this_namesMany this_readMany this_once this_lines this_facts this_pile this_state (upd this_state_f (1057 + r8.1).toNatClampNeg 0) this_undos this_isMarked this_weight this_rounding this_lacks this_alikes r9.2) H := hP
    have hD : va_D A (wd_X12_drawsDeed k this this_thrown this_tape this_taped this_size this_sort this_place this_value this_at this_fault this_words this_towns this_towns_f this_op this_arg this_codes this_names this_readNames this_namesMany this_readMany this_once this_lines this_facts this_pile this_state (upd this_state_f (1057 + r8.1).toNatClampNeg 0) this_undos this_isMarked this_weight this_rounding this_lacks this_alikes r9.2) := hD
    rw [← Option.some.inj hm]
    exact W.vret hx hb hr (fun t ht _ => hq _ _ H t ht hP hD locs hS) hS.2.2 dX12_drawsDeed_62 hlocks
  · rw [if_neg hc] at hm
    refine lv_aload_n (pc := 20) hx hb dX12_drawsDeed_20 rfl (lv_at hl 2 rfl) ?_
    refine lv_bipush (v := 20) (pc := 21) hx hb dX12_drawsDeed_21 (by decide) ?_
    obtain ⟨r10, hcl, hm⟩ := bd hm
    refine cw_mask (ws' := (wd_X12_drawsDeed k this this_thrown this_tape this_taped this_size this_sort this_place this_value this_at this_fault this_words this_towns this_towns_f this_op this_arg this_codes this_names this_readNames this_namesMany this_readMany this_once this_lines this_facts this_pile this_state this_state_f this_undos this_isMarked this_weight this_rounding this_lacks this_alikes r10.2)) (run_V (pc := 23) (n := 1) (As := [.int 20]) (rest := []) ⟨hx, hb, hml, hown, hts⟩ ((c_X12_draw l D k this this_thrown this_tape this_taped this_size this_sort this_place this_value this_at this_fault this_words this_towns this_op this_arg this_codes this_names this_readNames this_namesMany this_readMany this_once this_lines this_facts this_pile this_state this_undos this_isMarked this_weight this_rounding this_lacks this_alikes r9.2 20 r10 hcl) H.size) ⟨kw_1735, kw_16, by decide +kernel⟩ kw_1732 kw_1734 ks_144 ⟨Nat.le_of_ble_eq_true rfl, Nat.le_of_ble_eq_true rfl⟩ pw_blind (prW (P_pick [true] rfl hP) hG (D_pick [true] rfl hD)) (va_recv hG.1 hP (ci := 10) (q0 := 0) rfl rfl) rfl hl.1 rfl (Nat.le_of_ble_eq_true rfl) dX12_drawsDeed_23 ⟨Nat.zero_le _, Nat.zero_le _⟩) hP hD hS hA [true] rfl rfl rfl (fun H locs hP hD hS => ?_)
    refine lv_iconst (v := 1) (pc := 26) hx hb dX12_drawsDeed_26 (by decide) ?_
    refine lv_iadd (pc := 27) hx hb dX12_drawsDeed_27 ?_
    refine lv_istore_n (lv' := [(3, .int (r10.1 + 1)), (2, .int r9.1), (1, .int r8.1), (0, .ref this)]) (pc := 28) hx hb dX12_drawsDeed_28 rfl hl (Nat.le_of_ble_eq_true rfl) rfl (fun ls hl => ?_)
    refine lv_aload_n (pc := 29) hx hb dX12_drawsDeed_29 rfl (lv_at hl 3 rfl) ?_
    refine lv_sipush (v := 1056) (pc := 30) hx hb dX12_drawsDeed_30 (by decide) ?_
    refine lv_iload_n (pc := 33) hx hb dX12_drawsDeed_33 rfl (lv_at hl 2 rfl) ?_
    refine lv_iload_n (pc := 34) hx hb dX12_drawsDeed_34 rfl (lv_at hl 1 rfl) ?_
    refine lv_iconst (v := 2) (pc := 35) hx hb dX12_drawsDeed_35 (by decide) ?_
    refine lv_icmp_ge (tgt := 43) (pc := 36) hx hb dX12_drawsDeed_36 (by decide) (fun hc => ?_) (fun hc => ?_)
    · rw [if_pos hc] at hm
      refine lv_iload_n (pc := 43) hx hb dX12_drawsDeed_43 rfl (lv_at hl 0 rfl) ?_
      refine lv_ineg (pc := 44) hx hb dX12_drawsDeed_44 ?_
      exact h_45 (-(r10.1 + 1)) r8.1 1056 r10.2 this_state_f H locs ls hP hD hS (lv_sub hl [] rfl) hm
    · rw [if_neg hc] at hm
      refine lv_iload_n (pc := 39) hx hb dX12_drawsDeed_39 rfl (lv_at hl 0 rfl) ?_
      refine lv_goto (tgt := 45) (pc := 40) hx hb dX12_drawsDeed_40 (by decide) ?_
      exact h_45 (r10.1 + 1) r8.1 1056 r10.2 this_state_f H locs ls hP hD hS (lv_sub hl [] rfl) hm
theorem dX12_years_0 : decode cX12_years 0 = .ok (.aload_n 0, 1) := by decide +kernel
theorem dX12_years_1 : decode cX12_years 1 = .ok (.iconst 0, 1) := by decide +kernel
theorem dX12_years_2 : decode cX12_years 2 = .ok (.putfield 1, 3) := by decide +kernel
theorem dX12_years_5 : decode cX12_years 5 = .ok (.iload_n 1, 1) := by decide +kernel
theorem dX12_years_6 : decode cX12_years 6 = .ok (.iconst 0, 1) := by decide +kernel
theorem dX12_years_7 : decode cX12_years 7 = .ok (.sipush 9999, 3) := by decide +kernel
theorem dX12_years_10 : decode cX12_years 10 = .ok (.invokestatic 306, 3) := by decide +kernel
theorem dX12_years_13 : decode cX12_years 13 = .ok (.ifCond .eq 22, 3) := by decide +kernel
theorem dX12_years_16 : decode cX12_years 16 = .ok (.iload_n 2, 1) := by decide +kernel
theorem dX12_years_17 : decode cX12_years 17 = .ok (.iconst 1, 1) := by decide +kernel
theorem dX12_years_18 : decode cX12_years 18 = .ok (.bipush 99, 2) := by decide +kernel
theorem dX12_years_20 : decode cX12_years 20 = .ok (.invokestatic 306, 3) := by decide +kernel
theorem dX12_years_23 : decode cX12_years 23 = .ok (.ifCond .eq 12, 3) := by decide +kernel
theorem dX12_years_26 : decode cX12_years 26 = .ok (.iload_n 3, 1) := by decide +kernel
theorem dX12_years_27 : decode cX12_years 27 = .ok (.iconst 0, 1) := by decide +kernel
theorem dX12_years_28 : decode cX12_years 28 = .ok (.iconst 2, 1) := by decide +kernel
theorem dX12_years_29 : decode cX12_years 29 = .ok (.invokestatic 306, 3) := by decide +kernel
theorem dX12_years_32 : decode cX12_years 32 = .ok (.ifCond .ne 5, 3) := by decide +kernel
theorem dX12_years_35 : decode cX12_years 35 = .ok (.iconst (-1), 1) := by decide +kernel
theorem dX12_years_36 : decode cX12_years 36 = .ok (.ireturn, 1) := by decide +kernel
theorem dX12_years_37 : decode cX12_years 37 = .ok (.aload_n 0, 1) := by decide +kernel
theorem dX12_years_38 : decode cX12_years 38 = .ok (.iconst 0, 1) := by decide +kernel
theorem dX12_years_39 : decode cX12_years 39 = .ok (.sipush 1056, 3) := by decide +kernel
theorem dX12_years_42 : decode cX12_years 42 = .ok (.bipush 13, 2) := by decide +kernel
theorem dX12_years_44 : decode cX12_years 44 = .ok (.invokevirtual 277, 3) := by decide +kernel
theorem dX12_years_47 : decode cX12_years 47 = .ok (.aload_n 0, 1) := by decide +kernel
theorem dX12_years_48 : decode cX12_years 48 = .ok (.iload_n 1, 1) := by decide +kernel
theorem dX12_years_49 : decode cX12_years 49 = .ok (.i2l, 1) := by decide +kernel
theorem dX12_years_50 : decode cX12_years 50 = .ok (.putfield 356, 3) := by decide +kernel
theorem dX12_years_53 : decode cX12_years 53 = .ok (.iconst 0, 1) := by decide +kernel
theorem dX12_years_54 : decode cX12_years 54 = .ok (.istore 4, 2) := by decide +kernel
theorem dX12_years_56 : decode cX12_years 56 = .ok (.iconst 0, 1) := by decide +kernel
theorem dX12_years_57 : decode cX12_years 57 = .ok (.istore 5, 2) := by decide +kernel
theorem dX12_years_59 : decode cX12_years 59 = .ok (.iload 5, 2) := by decide +kernel
theorem dX12_years_61 : decode cX12_years 61 = .ok (.iload_n 2, 1) := by decide +kernel
theorem dX12_years_62 : decode cX12_years 62 = .ok (.if_icmp .ge 81, 3) := by decide +kernel
theorem dX12_years_65 : decode cX12_years 65 = .ok (.aload_n 0, 1) := by decide +kernel
theorem dX12_years_66 : decode cX12_years 66 = .ok (.sipush 1056, 3) := by decide +kernel
theorem dX12_years_69 : decode cX12_years 69 = .ok (.invokevirtual 293, 3) := by decide +kernel
theorem dX12_years_72 : decode cX12_years 72 = .ok (.istore 6, 2) := by decide +kernel
theorem dX12_years_74 : decode cX12_years 74 = .ok (.aload_n 0, 1) := by decide +kernel
theorem dX12_years_75 : decode cX12_years 75 = .ok (.invokevirtual 255, 3) := by decide +kernel
theorem dX12_years_78 : decode cX12_years 78 = .ok (.ifCond .le 7, 3) := by decide +kernel
theorem dX12_years_81 : decode cX12_years 81 = .ok (.aload_n 0, 1) := by decide +kernel
theorem dX12_years_82 : decode cX12_years 82 = .ok (.invokevirtual 371, 3) := by decide +kernel
theorem dX12_years_85 : decode cX12_years 85 = .ok (.aload_n 0, 1) := by decide +kernel
theorem dX12_years_86 : decode cX12_years 86 = .ok (.sipush 1056, 3) := by decide +kernel
theorem dX12_years_89 : decode cX12_years 89 = .ok (.invokevirtual 293, 3) := by decide +kernel
theorem dX12_years_92 : decode cX12_years 92 = .ok (.istore 7, 2) := by decide +kernel
theorem dX12_years_94 : decode cX12_years 94 = .ok (.aload_n 0, 1) := by decide +kernel
theorem dX12_years_95 : decode cX12_years 95 = .ok (.sipush 1056, 3) := by decide +kernel
theorem dX12_years_98 : decode cX12_years 98 = .ok (.invokevirtual 315, 3) := by decide +kernel
theorem dX12_years_101 : decode cX12_years 101 = .ok (.pop, 1) := by decide +kernel
theorem dX12_years_102 : decode cX12_years 102 = .ok (.iload 4, 2) := by decide +kernel
theorem dX12_years_104 : decode cX12_years 104 = .ok (.iload 6, 2) := by decide +kernel
theorem dX12_years_106 : decode cX12_years 106 = .ok (.iload 7, 2) := by decide +kernel
theorem dX12_years_108 : decode cX12_years 108 = .ok (.if_icmp .eq 7, 3) := by decide +kernel
theorem dX12_years_111 : decode cX12_years 111 = .ok (.iconst 1, 1) := by decide +kernel
theorem dX12_years_112 : decode cX12_years 112 = .ok (.goto 4, 3) := by decide +kernel
theorem dX12_years_115 : decode cX12_years 115 = .ok (.iconst 0, 1) := by decide +kernel
theorem dX12_years_116 : decode cX12_years 116 = .ok (.iload 7, 2) := by decide +kernel
theorem dX12_years_118 : decode cX12_years 118 = .ok (.aload_n 0, 1) := by decide +kernel
theorem dX12_years_119 : decode cX12_years 119 = .ok (.sipush 1056, 3) := by decide +kernel
theorem dX12_years_122 : decode cX12_years 122 = .ok (.invokevirtual 293, 3) := by decide +kernel
theorem dX12_years_125 : decode cX12_years 125 = .ok (.if_icmp .eq 7, 3) := by decide +kernel
theorem dX12_years_128 : decode cX12_years 128 = .ok (.iconst 1, 1) := by decide +kernel
theorem dX12_years_129 : decode cX12_years 129 = .ok (.goto 4, 3) := by decide +kernel
theorem dX12_years_132 : decode cX12_years 132 = .ok (.iconst 0, 1) := by decide +kernel
theorem dX12_years_133 : decode cX12_years 133 = .ok (.iadd, 1) := by decide +kernel
theorem dX12_years_134 : decode cX12_years 134 = .ok (.iadd, 1) := by decide +kernel
theorem dX12_years_135 : decode cX12_years 135 = .ok (.istore 4, 2) := by decide +kernel
theorem dX12_years_137 : decode cX12_years 137 = .ok (.iinc 5 1, 3) := by decide +kernel
theorem dX12_years_140 : decode cX12_years 140 = .ok (.goto (-81), 3) := by decide +kernel
theorem dX12_years_143 : decode cX12_years 143 = .ok (.iload_n 3, 1) := by decide +kernel
theorem dX12_years_144 : decode cX12_years 144 = .ok (.ifCond .ne 8, 3) := by decide +kernel
theorem dX12_years_147 : decode cX12_years 147 = .ok (.iload 4, 2) := by decide +kernel
theorem dX12_years_149 : decode cX12_years 149 = .ok (.goto 25, 3) := by decide +kernel
theorem dX12_years_152 : decode cX12_years 152 = .ok (.iload_n 3, 1) := by decide +kernel
theorem dX12_years_153 : decode cX12_years 153 = .ok (.iconst 1, 1) := by decide +kernel
theorem dX12_years_154 : decode cX12_years 154 = .ok (.if_icmp .ne 13, 3) := by decide +kernel
theorem dX12_years_157 : decode cX12_years 157 = .ok (.aload_n 0, 1) := by decide +kernel
theorem dX12_years_158 : decode cX12_years 158 = .ok (.sipush 1056, 3) := by decide +kernel
theorem dX12_years_161 : decode cX12_years 161 = .ok (.invokevirtual 293, 3) := by decide +kernel
theorem dX12_years_164 : decode cX12_years 164 = .ok (.goto 10, 3) := by decide +kernel
theorem dX12_years_167 : decode cX12_years 167 = .ok (.aload_n 0, 1) := by decide +kernel
theorem dX12_years_168 : decode cX12_years 168 = .ok (.sipush 1056, 3) := by decide +kernel
theorem dX12_years_171 : decode cX12_years 171 = .ok (.invokevirtual 347, 3) := by decide +kernel
theorem dX12_years_174 : decode cX12_years 174 = .ok (.ireturn, 1) := by decide +kernel
abbrev wd_X12_years (k : Nat → ClassId) (this : Nat) (this_thrown : Int32) (this_tape : Nat) (this_taped : Int32) (this_size : Int32) (this_sort : Nat) (this_place : Nat) (this_value : Nat) (this_at : Int32) (this_fault : Int32) (this_words : Nat) (this_towns : Nat) (this_towns_f : Nat → Int32) (this_op : Nat) (this_op_f : Nat → Int32) (this_arg : Nat) (this_arg_f : Nat → Int32) (this_codes : Int32) (this_names : Nat) (this_readNames : Nat) (this_namesMany : Int32) (this_readMany : Int32) (this_once : Int32) (this_lines : Nat) (this_facts : Nat) (this_facts_f : Nat → Int32) (this_pile : Nat) (this_pile_f : Nat → Int32) (this_state : Nat) (this_state_f : Nat → Int32) (this_undos : Int32) (this_isMarked : Nat) (this_weight : Int32) (this_rounding : Int32) (this_lacks : Nat) (this_lacks_f : Nat → Int32) (this_alikes : Nat) (this_g : Int64) : va_W := [(this, .inr (10, [.int this_thrown, .ref this_tape, .int this_taped, .int this_size, .ref this_sort, .ref this_place, .ref this_value, .int this_at, .int this_fault, .ref this_words, .ref this_towns, .ref this_op, .ref this_arg, .int this_codes, .ref this_names, .ref this_readNames, .int this_namesMany, .int this_readMany, .int this_once, .ref this_lines, .ref this_facts, .ref this_pile, .ref this_state, .int this_undos, .ref this_isMarked, .int this_weight, .int this_rounding, .ref this_lacks, .ref this_alikes, .long this_g])), (this_towns, .inl (k 0, 60, .inl this_towns_f)), (this_op, .inl (k 0, 2200, .inl this_op_f)), (this_arg, .inl (k 0, 2200, .inl this_arg_f)), (this_facts, .inl (k 0, 4, .inl this_facts_f)), (this_pile, .inl (k 0, 1100, .inl this_pile_f)), (this_state, .inl (k 0, 1104, .inl this_state_f)), (this_lacks, .inl (k 0, 6, .inl this_lacks_f))]
set_option maxHeartbeats 4000000 in
set_option maxRecDepth 100000 in
theorem c_X12_years (l : Launch) (D : va_G) (k : Nat → ClassId) (this : Nat) (this_thrown : Int32) (this_tape : Nat) (this_taped : Int32) (this_size : Int32) (this_sort : Nat) (this_place : Nat) (this_value : Nat) (this_at : Int32) (this_fault : Int32) (this_words : Nat) (this_towns : Nat) (this_towns_f : Nat → Int32) (this_op : Nat) (this_op_f : Nat → Int32) (this_arg : Nat) (this_arg_f : Nat → Int32) (this_codes : Int32) (this_names : Nat) (this_readNames : Nat) (this_namesMany : Int32) (this_readMany : Int32) (this_once : Int32) (this_lines : Nat) (this_facts : Nat) (this_facts_f : Nat → Int32) (this_pile : Nat) (this_pile_f : Nat → Int32) (this_state : Nat) (this_state_f : Nat → Int32) (this_undos : Int32) (this_isMarked : Nat) (this_weight : Int32) (this_rounding : Int32) (this_lacks : Nat) (this_lacks_f : Nat → Int32) (this_alikes : Nat) (this_g : Int64) (q1 : Int32) (q2 : Int32) (q3 : Int32) (R0 : Int32 × Int32 × Int64 × (Nat → Int32) × (Nat → Int32) × (Nat → Int32) × (Nat → Int32)) (hm : m_X12_years this_towns_f this_op_f this_arg_f this_facts_f this_pile_f this_state_f this_weight this_rounding this_lacks_f this_g q1 q2 q3 = some R0) : CW l D (TY k) yX12_years cX12_years 8 (some .int) 5 117 [.ref this, .int q1, .int q2, .int q3] (wd_X12_years k this this_thrown this_tape this_taped this_size this_sort this_place this_value this_at this_fault this_words this_towns this_towns_f this_op this_op_f this_arg this_arg_f this_codes this_names this_readNames this_namesMany this_readMany this_once this_lines this_facts this_facts_f this_pile this_pile_f this_state this_state_f this_undos this_isMarked this_weight this_rounding this_lacks this_lacks_f this_alikes this_g) (some (.int R0.1)) (wd_X12_years k this R0.2.1 this_tape this_taped this_size this_sort this_place this_value this_at this_fault this_words this_towns this_towns_f this_op this_op_f this_arg this_arg_f this_codes this_names this_readNames this_namesMany this_readMany this_once this_lines this_facts R0.2.2.2.1 this_pile R0.2.2.2.2.1 this_state R0.2.2.2.2.2.1 this_undos this_isMarked this_weight this_rounding this_lacks R0.2.2.2.2.2.2 this_alikes R0.2.2.1) := by
  refine CW.mk (by decide) (Nat.le_of_ble_eq_true rfl) ?_
  intro p e s m args below meth c ls A ⟨hx, hb, hr, hts, hown, hlocks, hml⟩ hP hG hD hA hl hS hq
  have hl : lv_has ls 8 [(0, .ref this), (1, .int q1), (2, .int q2), (3, .int q3)] := hl
  have h_116 : ∀ (K59 : Int32 → Int32 → Int32 → Int64 → (Nat → Int32) → (Nat → Int32) → (Nat → Int32) → (Nat → Int32) → Option (Int32 × Int32 × Int64 × (Nat → Int32) × (Nat → Int32) × (Nat → Int32) × (Nat → Int32))) (hK59 : ∀ (x4 : Int32) (x5 : Int32) (u_this_thrown : Int32) (u_this_g : Int64) (u_this_facts_f : Nat → Int32) (u_this_pile_f : Nat → Int32) (u_this_state_f : Nat → Int32) (u_this_lacks_f : Nat → Int32) (H : Heap) (locs : List Loc) (ls : Array Slot), va_P D vwCl (wd_X12_years k this u_this_thrown this_tape this_taped this_size this_sort this_place this_value this_at this_fault this_words this_towns this_towns_f this_op this_op_f this_arg this_arg_f this_codes this_names this_readNames this_namesMany this_readMany this_once this_lines this_facts u_this_facts_f this_pile u_this_pile_f this_state u_this_state_f this_undos this_isMarked this_weight this_rounding this_lacks u_this_lacks_f this_alikes u_this_g) H → va_D A (wd_X12_years k this u_this_thrown this_tape this_taped this_size this_sort this_place this_value this_at this_fault this_words this_towns this_towns_f this_op this_op_f this_arg this_arg_f this_codes this_names this_readNames this_namesMany this_readMany this_once this_lines this_facts u_this_facts_f this_pile u_this_pile_f this_state u_this_state_f this_undos this_isMarked this_weight this_rounding this_lacks u_this_lacks_f this_alikes u_this_g) → va_S A s.heap H locs → lv_has ls 8 [(0, .ref this), (2, .int q2), (3, .int q3), (4, .int x4), (5, .int x5)] → K59 x4 x5 u_this_thrown u_this_g u_this_facts_f u_this_pile_f u_this_state_f u_this_lacks_f = some R0 → W p l e (Rm 5 117) s m args below meth c H locs 0 0 (MQ below (QW D (some (.int R0.1)) (wd_X12_years k this this_thrown this_tape this_taped this_size this_sort this_place this_value this_at this_fault this_words this_towns this_towns_f this_op this_op_f this_arg this_arg_f this_codes this_names this_readNames this_namesMany this_readMany this_once this_lines this_facts this_facts_f this_pile this_pile_f this_state this_state_f this_undos this_isMarked this_weight this_rounding this_lacks this_lacks_f this_alikes this_g) (wd_X12_years k this R0.2.1 this_tape this_taped this_size this_sort this_place this_value this_at this_fault this_words this_towns this_towns_f this_op this_op_f this_arg this_arg_f this_codes this_names this_readNames this_namesMany this_readMany this_once this_lines this_facts R0.2.2.2.1 this_pile R0.2.2.2.2.1 this_state R0.2.2.2.2.2.1 this_undos this_isMarked this_weight this_rounding this_lacks R0.2.2.2.2.2.2 this_alikes R0.2.2.1) s.heap.size) args s 0 0 A) (F0 m 59 ls [])), ∀ (x5 : Int32) (x7 : Int32) (t0 : Int32) (t1 : Int32) (u_this_thrown : Int32) (u_this_g : Int64) (u_this_facts_f : Nat → Int32) (u_this_pile_f : Nat → Int32) (u_this_state_f : Nat → Int32) (u_this_lacks_f : Nat → Int32) (H : Heap) (locs : List Loc) (ls : Array Slot), va_P D vwCl (wd_X12_years k this u_this_thrown this_tape this_taped this_size this_sort this_place this_value this_at this_fault this_words this_towns this_towns_f this_op this_op_f this_arg this_arg_f this_codes this_names this_readNames this_namesMany this_readMany this_once this_lines this_facts u_this_facts_f this_pile u_this_pile_f this_state u_this_state_f this_undos this_isMarked this_weight this_rounding this_lacks u_this_lacks_f this_alikes u_this_g) H → va_D A (wd_X12_years k this u_this_thrown this_tape this_taped this_size this_sort this_place this_value this_at this_fault this_words this_towns this_towns_f this_op this_op_f this_arg this_arg_f this_codes this_names this_readNames this_namesMany this_readMany this_once this_lines this_facts u_this_facts_f this_pile u_this_pile_f this_state u_this_state_f this_undos this_isMarked this_weight this_rounding this_lacks u_this_lacks_f this_alikes u_this_g) → va_S A s.heap H locs → lv_has ls 8 [(0, .ref this), (2, .int q2), (3, .int q3), (5, .int x5), (7, .int x7)] → m_X12_years_116 this_towns_f this_op_f this_arg_f this_weight this_rounding q1 q2 q3 K59 x5 x7 t0 t1 u_this_thrown u_this_g u_this_facts_f u_this_pile_f u_this_state_f u_this_lacks_f = some R0 → W p l e (Rm 5 117) s m args below meth c H locs 0 0 (MQ below (QW D (some (.int R0.1)) (wd_X12_years k this this_thrown this_tape this_taped this_size this_sort this_place this_value this_at this_fault this_words this_towns this_towns_f this_op this_op_f this_arg this_arg_f this_codes this_names this_readNames this_namesMany this_readMany this_once this_lines this_facts this_facts_f this_pile this_pile_f this_state this_state_f this_undos this_isMarked this_weight this_rounding this_lacks this_lacks_f this_alikes this_g) (wd_X12_years k this R0.2.1 this_tape this_taped this_size this_sort this_place this_value this_at this_fault this_words this_towns this_towns_f this_op this_op_f this_arg this_arg_f this_codes this_names this_readNames this_namesMany this_readMany this_once this_lines this_facts R0.2.2.2.1 this_pile R0.2.2.2.2.1 this_state R0.2.2.2.2.2.1 this_undos this_isMarked this_weight this_rounding this_lacks R0.2.2.2.2.2.2 this_alikes R0.2.2.1) s.heap.size) args s 0 0 A) (F0 m 116 ls [.int t0, .int t1]) := by
    intro K59 hK59 x5 x7 t0 t1 u_this_thrown u_this_g u_this_facts_f u_this_pile_f u_this_state_f u_this_lacks_f H locs ls hP hD hS hl hm
    unfold m_X12_years_116 at hm
    refine lv_iload (pc := 116) hx hb dX12_years_116 (lv_at hl 4 rfl) ?_
    refine lv_aload_n (pc := 118) hx hb dX12_years_118 rfl (lv_at hl 0 rfl) ?_
    refine lv_sipush (v := 1056) (pc := 119) hx hb dX12_years_119 (by decide) ?_
    obtain ⟨r13, hcl, hm⟩ := bd hm
    refine cr_back (run_V (pc := 122) (n := 1) (As := [.int 1056]) (rest := [.int x7, .int t0, .int t1]) ⟨hx, hb, hml, hown, hts⟩ (c_X12_highOf l D k this u_this_thrown this_tape this_taped this_size this_sort this_place this_value this_at this_fault this_words this_towns this_towns_f this_op this_arg this_codes this_names this_readNames this_namesMany this_readMany this_once this_lines this_facts this_pile this_state u_this_state_f this_undos this_isMarked this_weight this_rounding this_lacks this_alikes u_this_g 1056 r13 hcl) ⟨kw_1475, kw_16, by decide +kernel⟩ kw_1472 kw_1474 ks_123 ⟨Nat.le_of_ble_eq_true rfl, Nat.le_of_ble_eq_true rfl⟩ pr_blind (prR (hP.sub [0, 1, 6] rfl) hG) (va_recv hG.1 hP (ci := 10) (q0 := 0) rfl rfl) rfl hl.1 rfl (Nat.le_of_ble_eq_true rfl) dX12_years_122 ⟨Nat.zero_le _, Nat.zero_le _⟩) ?_
    refine lv_icmp_eq (tgt := 132) (pc := 125) hx hb dX12_years_125 (by decide) (fun hc => ?_) (fun hc => ?_)
    · rw [if_pos hc] at hm
      refine lv_iconst (v := 0) (pc := 132) hx hb dX12_years_132 (by decide) ?_
      refine lv_iadd (pc := 133) hx hb dX12_years_133 ?_
      refine lv_iadd (pc := 134) hx hb dX12_years_134 ?_
      refine lv_istore (lv' := [(4, .int (t1 + (t0 + 0))), (0, .ref this), (2, .int q2), (3, .int q3), (5, .int x5), (7, .int x7)]) (pc := 135) hx hb dX12_years_135 hl (Nat.le_of_ble_eq_true rfl) rfl (fun ls hl => ?_)
      refine lv_iinc (k := 4) (v := x5 + 1) (lv' := [(5, .int (x5 + 1)), (4, .int (t1 + (t0 + 0))), (0, .ref this), (2, .int q2), (3, .int q3), (7, .int x7)]) (pc := 137) hx hb dX12_years_137 hl rfl rfl (Nat.le_of_ble_eq_true rfl) rfl (fun ls hl => ?_)
      refine lv_goto (tgt := 59) (pc := 140) hx hb dX12_years_140 (by decide) ?_
      exact hK59 (t1 + (t0 + 0)) (x5 + 1) u_this_thrown u_this_g u_this_facts_f u_this_pile_f u_this_state_f u_this_lacks_f H locs ls hP hD hS (lv_sub hl [2, 3, 4, 1, 0] rfl) hm
    · rw [if_neg hc] at hm
      refine lv_iconst (v := 1) (pc := 128) hx hb dX12_years_128 (by decide) ?_
      refine lv_goto (tgt := 133) (pc := 129) hx hb dX12_years_129 (by decide) ?_
      refine lv_iadd (pc := 133) hx hb dX12_years_133 ?_
      refine lv_iadd (pc := 134) hx hb dX12_years_134 ?_
      refine lv_istore (lv' := [(4, .int (t1 + (t0 + 1))), (0, .ref this), (2, .int q2), (3, .int q3), (5, .int x5), (7, .int x7)]) (pc := 135) hx hb dX12_years_135 hl (Nat.le_of_ble_eq_true rfl) rfl (fun ls hl => ?_)
      refine lv_iinc (k := 4) (v := x5 + 1) (lv' := [(5, .int (x5 + 1)), (4, .int (t1 + (t0 + 1))), (0, .ref this), (2, .int q2), (3, .int q3), (7, .int x7)]) (pc := 137) hx hb dX12_years_137 hl rfl rfl (Nat.le_of_ble_eq_true rfl) rfl (fun ls hl => ?_)
      refine lv_goto (tgt := 59) (pc := 140) hx hb dX12_years_140 (by decide) ?_
      exact hK59 (t1 + (t0 + 1)) (x5 + 1) u_this_thrown u_this_g u_this_facts_f u_this_pile_f u_this_state_f u_this_lacks_f H locs ls hP hD hS (lv_sub hl [2, 3, 4, 1, 0] rfl) hm
  have h_85 : ∀ (K59 : Int32 → Int32 → Int32 → Int64 → (Nat → Int32) → (Nat → Int32) → (Nat → Int32) → (Nat → Int32) → Option (Int32 × Int32 × Int64 × (Nat → Int32) × (Nat → Int32) × (Nat → Int32) × (Nat → Int32))) (hK59 : ∀ (x4 : Int32) (x5 : Int32) (u_this_thrown : Int32) (u_this_g : Int64) (u_this_facts_f : Nat → Int32) (u_this_pile_f : Nat → Int32) (u_this_state_f : Nat → Int32) (u_this_lacks_f : Nat → Int32) (H : Heap) (locs : List Loc) (ls : Array Slot), va_P D vwCl (wd_X12_years k this u_this_thrown this_tape this_taped this_size this_sort this_place this_value this_at this_fault this_words this_towns this_towns_f this_op this_op_f this_arg this_arg_f this_codes this_names this_readNames this_namesMany this_readMany this_once this_lines this_facts u_this_facts_f this_pile u_this_pile_f this_state u_this_state_f this_undos this_isMarked this_weight this_rounding this_lacks u_this_lacks_f this_alikes u_this_g) H → va_D A (wd_X12_years k this u_this_thrown this_tape this_taped this_size this_sort this_place this_value this_at this_fault this_words this_towns this_towns_f this_op this_op_f this_arg this_arg_f this_codes this_names this_readNames this_namesMany this_readMany this_once this_lines this_facts u_this_facts_f this_pile u_this_pile_f this_state u_this_state_f this_undos this_isMarked this_weight this_rounding this_lacks u_this_lacks_f this_alikes u_this_g) → va_S A s.heap H locs → lv_has ls 8 [(0, .ref this), (2, .int q2), (3, .int q3), (4, .int x4), (5, .int x5)] → K59 x4 x5 u_this_thrown u_this_g u_this_facts_f u_this_pile_f u_this_state_f u_this_lacks_f = some R0 → W p l e (Rm 5 117) s m args below meth c H locs 0 0 (MQ below (QW D (some (.int R0.1)) (wd_X12_years k this this_thrown this_tape this_taped this_size this_sort this_place this_value this_at this_fault this_words this_towns this_towns_f this_op this_op_f this_arg this_arg_f this_codes this_names this_readNames this_namesMany this_readMany this_once this_lines this_facts this_facts_f this_pile this_pile_f this_state this_state_f this_undos this_isMarked this_weight this_rounding this_lacks this_lacks_f this_alikes this_g) (wd_X12_years k this R0.2.1 this_tape this_taped this_size this_sort this_place this_value this_at this_fault this_words this_towns this_towns_f this_op this_op_f this_arg this_arg_f this_codes this_names this_readNames this_namesMany this_readMany this_once this_lines this_facts R0.2.2.2.1 this_pile R0.2.2.2.2.1 this_state R0.2.2.2.2.2.1 this_undos this_isMarked this_weight this_rounding this_lacks R0.2.2.2.2.2.2 this_alikes R0.2.2.1) s.heap.size) args s 0 0 A) (F0 m 59 ls [])), ∀ (x4 : Int32) (x5 : Int32) (x6 : Int32) (u_this_thrown : Int32) (u_this_g : Int64) (u_this_facts_f : Nat → Int32) (u_this_pile_f : Nat → Int32) (u_this_state_f : Nat → Int32) (u_this_lacks_f : Nat → Int32) (H : Heap) (locs : List Loc) (ls : Array Slot), va_P D vwCl (wd_X12_years k this u_this_thrown this_tape this_taped this_size this_sort this_place this_value this_at this_fault this_words this_towns this_towns_f this_op this_op_f this_arg this_arg_f this_codes this_names this_readNames this_namesMany this_readMany this_once this_lines this_facts u_this_facts_f this_pile u_this_pile_f this_state u_this_state_f this_undos this_isMarked this_weight this_rounding this_lacks u_this_lacks_f this_alikes u_this_g) H → va_D A (wd_X12_years k this u_this_thrown this_tape this_taped this_size this_sort this_place this_value this_at this_fault this_words this_towns this_towns_f this_op this_op_f this_arg this_arg_f this_codes this_names this_readNames this_namesMany this_readMany this_once this_lines this_facts u_this_facts_f this_pile u_this_pile_f this_state u_this_state_f this_undos this_isMarked this_weight this_rounding this_lacks u_this_lacks_f this_alikes u_this_g) → va_S A s.heap H locs → lv_has ls 8 [(0, .ref this), (2, .int q2), (3, .int q3), (4, .int x4), (5, .int x5), (6, .int x6)] → m_X12_years_85 this_towns_f this_op_f this_arg_f this_weight this_rounding q1 q2 q3 K59 x4 x5 x6 u_this_thrown u_this_g u_this_facts_f u_this_pile_f u_this_state_f u_this_lacks_f = some R0 → W p l e (Rm 5 117) s m args below meth c H locs 0 0 (MQ below (QW D (some (.int R0.1)) (wd_X12_years k this this_thrown this_tape this_taped this_size this_sort this_place this_value this_at this_fault this_words this_towns this_towns_f this_op this_op_f this_arg this_arg_f this_codes this_names this_readNames this_namesMany this_readMany this_once this_lines this_facts this_facts_f this_pile this_pile_f this_state this_state_f this_undos this_isMarked this_weight this_rounding this_lacks this_lacks_f this_alikes this_g) (wd_X12_years k this R0.2.1 this_tape this_taped this_size this_sort this_place this_value this_at this_fault this_words this_towns this_towns_f this_op this_op_f this_arg this_arg_f this_codes this_names this_readNames this_namesMany this_readMany this_once this_lines this_facts R0.2.2.2.1 this_pile R0.2.2.2.2.1 this_state R0.2.2.2.2.2.1 this_undos this_isMarked this_weight this_rounding this_lacks R0.2.2.2.2.2.2 this_alikes R0.2.2.1) s.heap.size) args s 0 0 A) (F0 m 85 ls []) := by
    intro K59 hK59 x4 x5 x6 u_this_thrown u_this_g u_this_facts_f u_this_pile_f u_this_state_f u_this_lacks_f H locs ls hP hD hS hl hm
    unfold m_X12_years_85 at hm
    refine lv_aload_n (pc := 85) hx hb dX12_years_85 rfl (lv_at hl 0 rfl) ?_
    refine lv_sipush (v := 1056) (pc := 86) hx hb dX12_years_86 (by decide) ?_
    obtain ⟨r14, hcl, hm⟩ := bd hm
    refine cr_back (run_V (pc := 89) (n := 1) (As := [.int 1056]) (rest := []) ⟨hx, hb, hml, hown, hts⟩ (c_X12_highOf l D k this u_this_thrown this_tape this_taped this_size this_sort this_place this_value this_at this_fault this_words this_towns this_towns_f this_op this_arg this_codes this_names this_readNames this_namesMany this_readMany this_once this_lines this_facts this_pile this_state u_this_state_f this_undos this_isMarked this_weight this_rounding this_lacks this_alikes u_this_g 1056 r14 hcl) ⟨kw_1475, kw_16, by decide +kernel⟩ kw_1472 kw_1474 ks_123 ⟨Nat.le_of_ble_eq_true rfl, Nat.le_of_ble_eq_true rfl⟩ pr_blind (prR (hP.sub [0, 1, 6] rfl) hG) (va_recv hG.1 hP (ci := 10) (q0 := 0) rfl rfl) rfl hl.1 rfl (Nat.le_of_ble_eq_true rfl) dX12_years_89 ⟨Nat.zero_le _, Nat.zero_le _⟩) ?_
    refine lv_istore (lv' := [(7, .int r14), (0, .ref this), (2, .int q2), (3, .int q3), (4, .int x4), (5, .int x5), (6, .int x6)]) (pc := 92) hx hb dX12_years_92 hl (Nat.le_of_ble_eq_true rfl) rfl (fun ls hl => ?_)
    refine lv_aload_n (pc := 94) hx hb dX12_years_94 rfl (lv_at hl 1 rfl) ?_
    refine lv_sipush (v := 1056) (pc := 95) hx hb dX12_years_95 (by decide) ?_
    obtain ⟨r15, hcl, hm⟩ := bd hm
    refine cw_mask (ws' := (wd_X12_years k this u_this_thrown this_tape this_taped this_size this_sort this_place this_value this_at this_fault this_words this_towns this_towns_f this_op this_op_f this_arg this_arg_f this_codes this_names this_readNames this_namesMany this_readMany this_once this_lines this_facts r15.2.1 this_pile r15.2.2.1 this_state r15.2.2.2.1 this_undos this_isMarked this_weight this_rounding this_lacks r15.2.2.2.2 this_alikes u_this_g)) (run_V (pc := 98) (n := 1) (As := [.int 1056]) (rest := []) ⟨hx, hb, hml, hown, hts⟩ ((c_X12_passes l D k this u_this_thrown this_tape this_taped this_size this_sort this_place this_value this_at this_fault this_words this_towns this_towns_f this_op this_op_f this_arg this_arg_f this_codes this_names this_readNames this_namesMany this_readMany this_once this_lines this_facts u_this_facts_f this_pile u_this_pile_f this_state u_this_state_f this_undos this_isMarked this_weight this_rounding this_lacks u_this_lacks_f this_alikes u_this_g 1056 r15 hcl) H.size) ⟨kw_1537, kw_16, by decide +kernel⟩ kw_1534 kw_1536 ks_131 ⟨Nat.le_of_ble_eq_true rfl, Nat.le_of_ble_eq_true rfl⟩ pw_blind (prW (P_pick [true, true, true, true, true, true, true, true] rfl hP) hG (D_pick [true, true, true, true, true, true, true, true] rfl hD)) (va_recv hG.1 hP (ci := 10) (q0 := 0) rfl rfl) rfl hl.1 rfl (Nat.le_of_ble_eq_true rfl) dX12_years_98 ⟨Nat.zero_le _, Nat.zero_le _⟩) hP hD hS hA [true, true, true, true, true, true, true, true] rfl rfl rfl (fun H locs hP hD hS => ?_)
    refine lv_pop (pc := 101) hx hb dX12_years_101 rfl ?_
    refine lv_iload (pc := 102) hx hb dX12_years_102 (lv_at hl 4 rfl) ?_
    refine lv_iload (pc := 104) hx hb dX12_years_104 (lv_at hl 6 rfl) ?_
    refine lv_iload (pc := 106) hx hb dX12_years_106 (lv_at hl 0 rfl) ?_
    refine lv_icmp_eq (tgt := 115) (pc := 108) hx hb dX12_years_108 (by decide) (fun hc => ?_) (fun hc => ?_)
    · rw [if_pos hc] at hm
      refine lv_iconst (v := 0) (pc := 115) hx hb dX12_years_115 (by decide) ?_
      exact h_116 K59 hK59 x5 r14 0 x4 u_this_thrown u_this_g r15.2.1 r15.2.2.1 r15.2.2.2.1 r15.2.2.2.2 H locs ls hP hD hS (lv_sub hl [1, 2, 3, 5, 0] rfl) hm
    · rw [if_neg hc] at hm
      refine lv_iconst (v := 1) (pc := 111) hx hb dX12_years_111 (by decide) ?_
      refine lv_goto (tgt := 116) (pc := 112) hx hb dX12_years_112 (by decide) ?_
      exact h_116 K59 hK59 x5 r14 1 x4 u_this_thrown u_this_g r15.2.1 r15.2.2.1 r15.2.2.2.1 r15.2.2.2.2 H locs ls hP hD hS (lv_sub hl [1, 2, 3, 5, 0] rfl) hm
  have h_59 : ∀ (n : Nat), ∀ (x4 : Int32) (x5 : Int32) (u_this_thrown : Int32) (u_this_g : Int64) (u_this_facts_f : Nat → Int32) (u_this_pile_f : Nat → Int32) (u_this_state_f : Nat → Int32) (u_this_lacks_f : Nat → Int32) (H : Heap) (locs : List Loc) (ls : Array Slot), va_P D vwCl (wd_X12_years k this u_this_thrown this_tape this_taped this_size this_sort this_place this_value this_at this_fault this_words this_towns this_towns_f this_op this_op_f this_arg this_arg_f this_codes this_names this_readNames this_namesMany this_readMany this_once this_lines this_facts u_this_facts_f this_pile u_this_pile_f this_state u_this_state_f this_undos this_isMarked this_weight this_rounding this_lacks u_this_lacks_f this_alikes u_this_g) H → va_D A (wd_X12_years k this u_this_thrown this_tape this_taped this_size this_sort this_place this_value this_at this_fault this_words this_towns this_towns_f this_op this_op_f this_arg this_arg_f this_codes this_names this_readNames this_namesMany this_readMany this_once this_lines this_facts u_this_facts_f this_pile u_this_pile_f this_state u_this_state_f this_undos this_isMarked this_weight this_rounding this_lacks u_this_lacks_f this_alikes u_this_g) → va_S A s.heap H locs → lv_has ls 8 [(0, .ref this), (2, .int q2), (3, .int q3), (4, .int x4), (5, .int x5)] → m_X12_years_59 this_towns_f this_op_f this_arg_f this_weight this_rounding q1 q2 q3 n x4 x5 u_this_thrown u_this_g u_this_facts_f u_this_pile_f u_this_state_f u_this_lacks_f = some R0 → W p l e (Rm 5 117) s m args below meth c H locs 0 0 (MQ below (QW D (some (.int R0.1)) (wd_X12_years k this this_thrown this_tape this_taped this_size this_sort this_place this_value this_at this_fault this_words this_towns this_towns_f this_op this_op_f this_arg this_arg_f this_codes this_names this_readNames this_namesMany this_readMany this_once this_lines this_facts this_facts_f this_pile this_pile_f this_state this_state_f this_undos this_isMarked this_weight this_rounding this_lacks this_lacks_f this_alikes this_g) (wd_X12_years k this R0.2.1 this_tape this_taped this_size this_sort this_place this_value this_at this_fault this_words this_towns this_towns_f this_op this_op_f this_arg this_arg_f this_codes this_names this_readNames this_namesMany this_readMany this_once this_lines this_facts R0.2.2.2.1 this_pile R0.2.2.2.2.1 this_state R0.2.2.2.2.2.1 this_undos this_isMarked this_weight this_rounding this_lacks R0.2.2.2.2.2.2 this_alikes R0.2.2.1) s.heap.size) args s 0 0 A) (F0 m 59 ls []) := by
    intro n
    induction n with
    | zero => intro x4 x5 u_this_thrown u_this_g u_this_facts_f u_this_pile_f u_this_state_f u_this_lacks_f H locs ls hP hD hS hl hm; cases hm
    | succ n ih =>
      intro x4 x5 u_this_thrown u_this_g u_this_facts_f u_this_pile_f u_this_state_f u_this_lacks_f H locs ls hP hD hS hl hm
      unfold m_X12_years_59 at hm
      refine lv_iload (pc := 59) hx hb dX12_years_59 (lv_at hl 4 rfl) ?_
      refine lv_iload_n (pc := 61) hx hb dX12_years_61 rfl (lv_at hl 1 rfl) ?_
      refine lv_icmp_ge (tgt := 143) (pc := 62) hx hb dX12_years_62 (by decide) (fun hc => ?_) (fun hc => ?_)
      · rw [if_pos hc] at hm
        refine lv_iload_n (pc := 143) hx hb dX12_years_143 rfl (lv_at hl 2 rfl) ?_
        refine lv_if_ne (tgt := 152) (pc := 144) hx hb dX12_years_144 (by decide) (fun hc => ?_) (fun hc => ?_)
        · rw [if_neg hc] at hm
          refine lv_iload_n (pc := 152) hx hb dX12_years_152 rfl (lv_at hl 2 rfl) ?_
          refine lv_iconst (v := 1) (pc := 153) hx hb dX12_years_153 (by decide) ?_
          refine lv_icmp_ne (tgt := 167) (pc := 154) hx hb dX12_years_154 (by decide) (fun hc => ?_) (fun hc => ?_)
          · rw [if_neg hc] at hm
            refine lv_aload_n (pc := 167) hx hb dX12_years_167 rfl (lv_at hl 0 rfl) ?_
            refine lv_sipush (v := 1056) (pc := 168) hx hb dX12_years_168 (by decide) ?_
            obtain ⟨r16, hcl, hm⟩ := bd hm
            refine cr_back (run_V (pc := 171) (n := 1) (As := [.int 1056]) (rest := []) ⟨hx, hb, hml, hown, hts⟩ (c_X12_lacksAll l D k this u_this_thrown this_tape this_taped this_size this_sort this_place this_value this_at this_fault this_words this_towns this_towns_f this_op this_arg this_codes this_names this_readNames this_namesMany this_readMany this_once this_lines this_facts this_pile this_state u_this_state_f this_undos this_isMarked this_weight this_rounding this_lacks this_alikes u_this_g 1056 r16 hcl) ⟨kw_1711, kw_16, by decide +kernel⟩ kw_1708 kw_1710 ks_142 ⟨Nat.le_of_ble_eq_true rfl, Nat.le_of_ble_eq_true rfl⟩ pr_blind (prR (hP.sub [0, 1, 6] rfl) hG) (va_recv hG.1 hP (ci := 10) (q0 := 0) rfl rfl) rfl hl.1 rfl (Nat.le_of_ble_eq_true rfl) dX12_years_171 ⟨Nat.zero_le _, Nat.zero_le _⟩) ?_
            rw [← Option.some.inj hm]
            exact W.iret hx hb hr (fun t ht _ => hq _ _ H t ht hP hD locs hS) hS.2.2 dX12_years_174 hlocks
          · rw [if_pos hc] at hm
            refine lv_aload_n (pc := 157) hx hb dX12_years_157 rfl (lv_at hl 0 rfl) ?_
            refine lv_sipush (v := 1056) (pc := 158) hx hb dX12_years_158 (by decide) ?_
            obtain ⟨r17, hcl, hm⟩ := bd hm
            refine cr_back (run_V (pc := 161) (n := 1) (As := [.int 1056]) (rest := []) ⟨hx, hb, hml, hown, hts⟩ (c_X12_highOf l D k this u_this_thrown this_tape this_taped this_size this_sort this_place this_value this_at this_fault this_words this_towns this_towns_f this_op this_arg this_codes this_names this_readNames this_namesMany this_readMany this_once this_lines this_facts this_pile this_state u_this_state_f this_undos this_isMarked this_weight this_rounding this_lacks this_alikes u_this_g 1056 r17 hcl) ⟨kw_1475, kw_16, by decide +kernel⟩ kw_1472 kw_1474 ks_123 ⟨Nat.le_of_ble_eq_true rfl, Nat.le_of_ble_eq_true rfl⟩ pr_blind (prR (hP.sub [0, 1, 6] rfl) hG) (va_recv hG.1 hP (ci := 10) (q0 := 0) rfl rfl) rfl hl.1 rfl (Nat.le_of_ble_eq_true rfl) dX12_years_161 ⟨Nat.zero_le _, Nat.zero_le _⟩) ?_
            refine lv_goto (tgt := 174) (pc := 164) hx hb dX12_years_164 (by decide) ?_
            rw [← Option.some.inj hm]
            exact W.iret hx hb hr (fun t ht _ => hq _ _ H t ht hP hD locs hS) hS.2.2 dX12_years_174 hlocks
        · rw [if_pos hc] at hm
          refine lv_iload (pc := 147) hx hb dX12_years_147 (lv_at hl 3 rfl) ?_
          refine lv_goto (tgt := 174) (pc := 149) hx hb dX12_years_149 (by decide) ?_
          rw [← Option.some.inj hm]
          exact W.iret hx hb hr (fun t ht _ => hq _ _ H t ht hP hD locs hS) hS.2.2 dX12_years_174 hlocks
      · rw [if_neg hc] at hm
        refine lv_aload_n (pc := 65) hx hb dX12_years_65 rfl (lv_at hl 0 rfl) ?_
        refine lv_sipush (v := 1056) (pc := 66) hx hb dX12_years_66 (by decide) ?_
        obtain ⟨r18, hcl, hm⟩ := bd hm
        refine cr_back (run_V (pc := 69) (n := 1) (As := [.int 1056]) (rest := []) ⟨hx, hb, hml, hown, hts⟩ (c_X12_highOf l D k this u_this_thrown this_tape this_taped this_size this_sort this_place this_value this_at this_fault this_words this_towns this_towns_f this_op this_arg this_codes this_names this_readNames this_namesMany this_readMany this_once this_lines this_facts this_pile this_state u_this_state_f this_undos this_isMarked this_weight this_rounding this_lacks this_alikes u_this_g 1056 r18 hcl) ⟨kw_1475, kw_16, by decide +kernel⟩ kw_1472 kw_1474 ks_123 ⟨Nat.le_of_ble_eq_true rfl, Nat.le_of_ble_eq_true rfl⟩ pr_blind (prR (hP.sub [0, 1, 6] rfl) hG) (va_recv hG.1 hP (ci := 10) (q0 := 0) rfl rfl) rfl hl.1 rfl (Nat.le_of_ble_eq_true rfl) dX12_years_69 ⟨Nat.zero_le _, Nat.zero_le _⟩) ?_
        refine lv_istore (lv' := [(6, .int r18), (0, .ref this), (2, .int q2), (3, .int q3), (4, .int x4), (5, .int x5)]) (pc := 72) hx hb dX12_years_72 hl (Nat.le_of_ble_eq_true rfl) rfl (fun ls hl => ?_)
        refine lv_aload_n (pc := 74) hx hb dX12_years_74 rfl (lv_at hl 1 rfl) ?_
        obtain ⟨r19, hcl, hm⟩ := bd hm
        refine cr_back (run_V (pc := 75) (n := 0) (As := []) (rest := []) ⟨hx, hb, hml, hown, hts⟩ (c_X12_persons l D k this u_this_thrown this_tape this_taped this_size this_sort this_place this_value this_at this_fault this_words this_towns this_towns_f this_op this_arg this_codes this_names this_readNames this_namesMany this_readMany this_once this_lines this_facts this_pile this_state this_undos this_isMarked this_weight this_rounding this_lacks this_alikes u_this_g r19 hcl) ⟨kw_1252, kw_16, by decide +kernel⟩ kw_1249 kw_1251 ks_97 ⟨Nat.le_of_ble_eq_true rfl, Nat.le_of_ble_eq_true rfl⟩ pr_blind (prR (hP.sub [0, 1] rfl) hG) (va_recv hG.1 hP (ci := 10) (q0 := 0) rfl rfl) rfl hl.1 rfl (Nat.le_of_ble_eq_true rfl) dX12_years_75 ⟨Nat.zero_le _, Nat.zero_le _⟩) ?_
        refine lv_if_le (tgt := 85) (pc := 78) hx hb dX12_years_78 (by decide) (fun hc => ?_) (fun hc => ?_)
        · rw [if_pos hc] at hm
          exact h_85 (m_X12_years_59 this_towns_f this_op_f this_arg_f this_weight this_rounding q1 q2 q3 n) ih x4 x5 r18 u_this_thrown u_this_g u_this_facts_f u_this_pile_f u_this_state_f u_this_lacks_f H locs ls hP hD hS (lv_sub hl [1, 2, 3, 4, 5, 0] rfl) hm
        · rw [if_neg hc] at hm
          refine lv_aload_n (pc := 81) hx hb dX12_years_81 rfl (lv_at hl 1 rfl) ?_
          obtain ⟨r20, hcl, hm⟩ := bd hm
          refine cw_mask (ws' := (wd_X12_years k this u_this_thrown this_tape this_taped this_size this_sort this_place this_value this_at this_fault this_words this_towns this_towns_f this_op this_op_f this_arg this_arg_f this_codes this_names this_readNames this_namesMany this_readMany this_once this_lines this_facts u_this_facts_f this_pile u_this_pile_f this_state r20.2 this_undos this_isMarked this_weight this_rounding this_lacks u_this_lacks_f this_alikes r20.1)) (run_V (pc := 82) (n := 0) (As := []) (rest := []) ⟨hx, hb, hml, hown, hts⟩ ((c_X12_drawsDeed l D k this u_this_thrown this_tape this_taped this_size this_sort this_place this_value this_at this_fault this_words this_towns this_towns_f this_op this_arg this_codes this_names this_readNames this_namesMany this_readMany this_once this_lines this_facts this_pile this_state u_this_state_f this_undos this_isMarked this_weight this_rounding this_lacks this_alikes u_this_g r20 hcl) H.size) ⟨kw_1731, kw_16, by decide +kernel⟩ kw_1728 kw_1730 ks_143 ⟨Nat.le_of_ble_eq_true rfl, Nat.le_of_ble_eq_true rfl⟩ pw_blind (prW (P_pick [true, true, false, false, false, false, true] rfl hP) hG (D_pick [true, true, false, false, false, false, true] rfl hD)) (va_recv hG.1 hP (ci := 10) (q0 := 0) rfl rfl) rfl hl.1 rfl (Nat.le_of_ble_eq_true rfl) dX12_years_82 ⟨Nat.zero_le _, Nat.zero_le _⟩) hP hD hS hA [true, true, false, false, false, false, true] rfl rfl rfl (fun H locs hP hD hS => ?_)
          exact h_85 (m_X12_years_59 this_towns_f this_op_f this_arg_f this_weight this_rounding q1 q2 q3 n) ih x4 x5 r18 u_this_thrown r20.1 u_this_facts_f u_this_pile_f r20.2 u_this_lacks_f H locs ls hP hD hS (lv_sub hl [1, 2, 3, 4, 5, 0] rfl) hm
  unfold m_X12_years at hm
  suffices hgo : ∀ (H : Heap) (locs : List Loc), va_P D vwCl (wd_X12_years k this this_thrown this_tape this_taped this_size this_sort this_place this_value this_at this_fault this_words this_towns this_towns_f this_op this_op_f this_arg this_arg_f this_codes this_names this_readNames this_namesMany this_readMany this_once this_lines this_facts this_facts_f this_pile this_pile_f this_state this_state_f this_undos this_isMarked this_weight this_rounding this_lacks this_lacks_f this_alikes this_g) H → va_D A (wd_X12_years k this this_thrown this_tape this_taped this_size this_sort this_place this_value this_at this_fault this_words this_towns this_towns_f this_op this_op_f this_arg this_arg_f this_codes this_names this_readNames this_namesMany this_readMany this_once this_lines this_facts this_facts_f this_pile this_pile_f this_state this_state_f this_undos this_isMarked this_weight this_rounding this_lacks this_lacks_f this_alikes this_g) → va_S A s.heap H locs → W p l e (Rm 5 117) s m args below meth c H locs 0 0 (MQ below (QW D (some (.int R0.1)) (wd_X12_years k this this_thrown this_tape this_taped this_size this_sort this_place this_value this_at this_fault this_words this_towns this_towns_f this_op this_op_f this_arg this_arg_f this_codes this_names this_readNames this_namesMany this_readMany this_once this_lines this_facts this_facts_f this_pile this_pile_f this_state this_state_f this_undos this_isMarked this_weight this_rounding this_lacks this_lacks_f this_alikes this_g) (wd_X12_years k this R0.2.1 this_tape this_taped this_size this_sort this_place this_value this_at this_fault this_words this_towns this_towns_f this_op this_op_f this_arg this_arg_f this_codes this_names this_readNames this_namesMany this_readMany this_once this_lines this_facts R0.2.2.2.1 this_pile R0.2.2.2.2.1 this_state R0.2.2.2.2.2.1 this_undos this_isMarked this_weight this_rounding this_lacks R0.2.2.2.2.2.2 this_alikes R0.2.2.1) s.heap.size) args s 0 0 A) (F0 m 0 ls []) from hgo _ _ hP hD hS
  clear hP hD hS
  intro H locs hP hD hS
  refine lv_aload_n (pc := 0) hx hb dX12_years_0 rfl (lv_at hl 0 rfl) ?_
  refine lv_iconst (v := 0) (pc := 1) hx hb dX12_years_1 (by decide) ?_
  refine va_put (pc := 2) (D := D) (ci := 10) (v := .int 0) (ty := .int) (C := RX12) (T := TX12) (N := 30) hx hb hts hiX12 tyX12 tyX12_ok nmX12 hown hG.1 hP hD hS 0 rfl rfl 0 (Nat.le_of_ble_eq_true rfl) (hts _ kw_1257) (fun _ h9 => h9) rfl (by decide +kernel) rfl rfl (Nat.le_of_ble_eq_true rfl) dX12_years_2 (fun H locs hP hD hS => ?_)
  have hP : va_P D vwCl (wd_X12_years k this 0 this_tape this_taped this_size this_sort this_place this_value this_at this_fault this_words this_towns this_towns_f this_op this_op_f this_arg this_arg_f this_codes this_names this_readNames this_namesMany this_readMany this_once this_lines this_facts this_facts_f this_pile this_pile_f this_state this_state_f this_undos this_isMarked this_weight this_rounding this_lacks this_lacks_f this_alikes this_g) H := hP
  have hD : va_D A (wd_X12_years k this 0 this_tape this_taped this_size this_sort this_place this_value this_at this_fault this_words this_towns this_towns_f this_op this_op_f this_arg this_arg_f this_codes this_names this_readNames this_namesMany this_readMany this_once this_lines this_facts this_facts_f this_pile this_pile_f this_state this_state_f this_undos this_isMarked this_weight this_rounding this_lacks this_lacks_f this_alikes this_g) := hD
  refine lv_iload_n (pc := 5) hx hb dX12_years_5 rfl (lv_at hl 1 rfl) ?_
  refine lv_iconst (v := 0) (pc := 6) hx hb dX12_years_6 (by decide) ?_
  refine lv_sipush (v := 9999) (pc := 7) hx hb dX12_years_7 (by decide) ?_
  obtain ⟨r21, hcl, hm⟩ := bd hm
  refine cr_back (run_S (pc := 10) (n := 3) (As := [.int q1, .int 0, .int 9999]) (rest := []) ⟨hx, hb, hml, hown, hts⟩ (c_X12_within l D k q1 0 9999 r21 hcl) ⟨kw_1501, kw_16, by decide +kernel⟩ kw_1499 kw_1500 ⟨Nat.le_of_ble_eq_true rfl, Nat.le_of_ble_eq_true rfl⟩ pr_blind (prR (hP.sub [] rfl) hG) rfl hl.1 rfl (Nat.le_of_ble_eq_true rfl) dX12_years_10 ⟨Nat.zero_le _, Nat.zero_le _⟩) ?_
  refine lv_if_eq (tgt := 35) (pc := 13) hx hb dX12_years_13 (by decide) (fun hc => ?_) (fun hc => ?_)
  · rw [if_pos hc] at hm
    refine lv_iconst (v := (-1)) (pc := 35) hx hb dX12_years_35 (by decide) ?_
    rw [← Option.some.inj hm]
    exact W.iret hx hb hr (fun t ht _ => hq _ _ H t ht hP hD locs hS) hS.2.2 dX12_years_36 hlocks
  · rw [if_neg hc] at hm
    refine lv_iload_n (pc := 16) hx hb dX12_years_16 rfl (lv_at hl 2 rfl) ?_
    refine lv_iconst (v := 1) (pc := 17) hx hb dX12_years_17 (by decide) ?_
    refine lv_bipush (v := 99) (pc := 18) hx hb dX12_years_18 (by decide) ?_
    obtain ⟨r22, hcl, hm⟩ := bd hm
    refine cr_back (run_S (pc := 20) (n := 3) (As := [.int q2, .int 1, .int 99]) (rest := []) ⟨hx, hb, hml, hown, hts⟩ (c_X12_within l D k q2 1 99 r22 hcl) ⟨kw_1501, kw_16, by decide +kernel⟩ kw_1499 kw_1500 ⟨Nat.le_of_ble_eq_true rfl, Nat.le_of_ble_eq_true rfl⟩ pr_blind (prR (hP.sub [] rfl) hG) rfl hl.1 rfl (Nat.le_of_ble_eq_true rfl) dX12_years_20 ⟨Nat.zero_le _, Nat.zero_le _⟩) ?_
    refine lv_if_eq (tgt := 35) (pc := 23) hx hb dX12_years_23 (by decide) (fun hc => ?_) (fun hc => ?_)
    · rw [if_pos hc] at hm
      refine lv_iconst (v := (-1)) (pc := 35) hx hb dX12_years_35 (by decide) ?_
      rw [← Option.some.inj hm]
      exact W.iret hx hb hr (fun t ht _ => hq _ _ H t ht hP hD locs hS) hS.2.2 dX12_years_36 hlocks
    · rw [if_neg hc] at hm
      refine lv_iload_n (pc := 26) hx hb dX12_years_26 rfl (lv_at hl 3 rfl) ?_
      refine lv_iconst (v := 0) (pc := 27) hx hb dX12_years_27 (by decide) ?_
      refine lv_iconst (v := 2) (pc := 28) hx hb dX12_years_28 (by decide) ?_
      obtain ⟨r23, hcl, hm⟩ := bd hm
      refine cr_back (run_S (pc := 29) (n := 3) (As := [.int q3, .int 0, .int 2]) (rest := []) ⟨hx, hb, hml, hown, hts⟩ (c_X12_within l D k q3 0 2 r23 hcl) ⟨kw_1501, kw_16, by decide +kernel⟩ kw_1499 kw_1500 ⟨Nat.le_of_ble_eq_true rfl, Nat.le_of_ble_eq_true rfl⟩ pr_blind (prR (hP.sub [] rfl) hG) rfl hl.1 rfl (Nat.le_of_ble_eq_true rfl) dX12_years_29 ⟨Nat.zero_le _, Nat.zero_le _⟩) ?_
      refine lv_if_ne (tgt := 37) (pc := 32) hx hb dX12_years_32 (by decide) (fun hc => ?_) (fun hc => ?_)
      · rw [if_neg hc] at hm
        refine lv_aload_n (pc := 37) hx hb dX12_years_37 rfl (lv_at hl 0 rfl) ?_
        refine lv_iconst (v := 0) (pc := 38) hx hb dX12_years_38 (by decide) ?_
        refine lv_sipush (v := 1056) (pc := 39) hx hb dX12_years_39 (by decide) ?_
        refine lv_bipush (v := 13) (pc := 42) hx hb dX12_years_42 (by decide) ?_
        obtain ⟨r24, hcl, hm⟩ := bd hm
        refine cw_mask (ws' := (wd_X12_years k this 0 this_tape this_taped this_size this_sort this_place this_value this_at this_fault this_words this_towns this_towns_f this_op this_op_f this_arg this_arg_f this_codes this_names this_readNames this_namesMany this_readMany this_once this_lines this_facts this_facts_f this_pile this_pile_f this_state r24 this_undos this_isMarked this_weight this_rounding this_lacks this_lacks_f this_alikes this_g)) (run_V (pc := 44) (n := 3) (As := [.int 0, .int 1056, .int 13]) (rest := []) ⟨hx, hb, hml, hown, hts⟩ ((c_X12_copies l D k this 0 this_tape this_taped this_size this_sort this_place this_value this_at this_fault this_words this_towns this_op this_arg this_codes this_names this_readNames this_namesMany this_readMany this_once this_lines this_facts this_pile this_state this_state_f this_undos this_isMarked this_weight this_rounding this_lacks this_alikes this_g 0 1056 13 r24 hcl) H.size) ⟨kw_1513, kw_16, by decide +kernel⟩ kw_1510 kw_1512 ks_129 ⟨Nat.le_of_ble_eq_true rfl, Nat.le_of_ble_eq_true rfl⟩ pw_blind (prW (P_pick [true, false, false, false, false, false, true] rfl hP) hG (D_pick [true, false, false, false, false, false, true] rfl hD)) (va_recv hG.1 hP (ci := 10) (q0 := 0) rfl rfl) rfl hl.1 rfl (Nat.le_of_ble_eq_true rfl) dX12_years_44 ⟨Nat.zero_le _, Nat.zero_le _⟩) hP hD hS hA [true, false, false, false, false, false, true] rfl rfl rfl (fun H locs hP hD hS => ?_)
        refine lv_aload_n (pc := 47) hx hb dX12_years_47 rfl (lv_at hl 0 rfl) ?_
        refine lv_iload_n (pc := 48) hx hb dX12_years_48 rfl (lv_at hl 1 rfl) ?_
        refine lv_i2l (pc := 49) hx hb dX12_years_49 rfl ?_
        refine va_put (pc := 50) (D := D) (ci := 10) (v := .long q1.toInt64) (ty := .long) (C := RX12) (T := TX12) (N := 30) hx hb hts hiX12 tyX12 tyX12_ok nmX12 hown hG.1 hP hD hS 0 rfl rfl 29 (Nat.le_of_ble_eq_true rfl) (hts _ kw_1286) (fun _ h9 => h9) rfl (by decide +kernel) rfl rfl (Nat.le_of_ble_eq_true rfl) dX12_years_50 (fun H locs hP hD hS => ?_)
        have hP : va_P D vwCl (wd_X12_years k this 0 this_tape this_taped this_size this_sort this_place this_value this_at this_fault this_words this_towns this_towns_f this_op this_op_f this_arg this_arg_f this_codes this_names this_readNames this_namesMany this_readMany this_once this_lines this_facts this_facts_f this_pile this_pile_f this_state r24 this_undos this_isMarked this_weight this_rounding this_lacks this_lacks_f this_alikes q1.toInt64) H := hP
        have hD : va_D A (wd_X12_years k this 0 this_tape this_taped this_size this_sort this_place this_value this_at this_fault this_words this_towns this_towns_f this_op this_op_f this_arg this_arg_f this_codes this_names this_readNames this_namesMany this_readMany this_once this_lines this_facts this_facts_f this_pile this_pile_f this_state r24 this_undos this_isMarked this_weight this_rounding this_lacks this_lacks_f this_alikes q1.toInt64) := hD
        refine lv_iconst (v := 0) (pc := 53) hx hb dX12_years_53 (by decide) ?_
        refine lv_istore (lv' := [(4, .int 0), (0, .ref this), (1, .int q1), (2, .int q2), (3, .int q3)]) (pc := 54) hx hb dX12_years_54 hl (Nat.le_of_ble_eq_true rfl) rfl (fun ls hl => ?_)
        refine lv_iconst (v := 0) (pc := 56) hx hb dX12_years_56 (by decide) ?_
        refine lv_istore (lv' := [(5, .int 0), (4, .int 0), (0, .ref this), (1, .int q1), (2, .int q2), (3, .int q3)]) (pc := 57) hx hb dX12_years_57 hl (Nat.le_of_ble_eq_true rfl) rfl (fun ls hl => ?_)
        exact h_59 FU 0 0 0 q1.toInt64 this_facts_f this_pile_f r24 this_lacks_f H locs ls hP hD hS (lv_sub hl [2, 4, 5, 1, 0] rfl) hm
      · rw [if_pos hc] at hm
        refine lv_iconst (v := (-1)) (pc := 35) hx hb dX12_years_35 (by decide) ?_
        rw [← Option.some.inj hm]
        exact W.iret hx hb hr (fun t ht _ => hq _ _ H t ht hP hD locs hS) hS.2.2 dX12_years_36 hlocks
theorem dX12_mark_0 : decode cX12_mark 0 = .ok (.aload_n 0, 1) := by decide +kernel
theorem dX12_mark_1 : decode cX12_mark 1 = .ok (.iconst 0, 1) := by decide +kernel
theorem dX12_mark_2 : decode cX12_mark 2 = .ok (.putfield 1, 3) := by decide +kernel
theorem dX12_mark_5 : decode cX12_mark 5 = .ok (.iload_n 1, 1) := by decide +kernel
theorem dX12_mark_6 : decode cX12_mark 6 = .ok (.iconst 0, 1) := by decide +kernel
theorem dX12_mark_7 : decode cX12_mark 7 = .ok (.iconst 3, 1) := by decide +kernel
theorem dX12_mark_8 : decode cX12_mark 8 = .ok (.invokestatic 306, 3) := by decide +kernel
theorem dX12_mark_11 : decode cX12_mark 11 = .ok (.ifCond .eq 16, 3) := by decide +kernel
theorem dX12_mark_14 : decode cX12_mark 14 = .ok (.iload_n 2, 1) := by decide +kernel
theorem dX12_mark_15 : decode cX12_mark 15 = .ok (.ifCond .eq 14, 3) := by decide +kernel
theorem dX12_mark_18 : decode cX12_mark 18 = .ok (.aload_n 0, 1) := by decide +kernel
theorem dX12_mark_19 : decode cX12_mark 19 = .ok (.getfield 116, 3) := by decide +kernel
theorem dX12_mark_22 : decode cX12_mark 22 = .ok (.iload_n 1, 1) := by decide +kernel
theorem dX12_mark_23 : decode cX12_mark 23 = .ok (.baload, 1) := by decide +kernel
theorem dX12_mark_24 : decode cX12_mark 24 = .ok (.ifCond .ne 5, 3) := by decide +kernel
theorem dX12_mark_27 : decode cX12_mark 27 = .ok (.iconst 0, 1) := by decide +kernel
theorem dX12_mark_28 : decode cX12_mark 28 = .ok (.ireturn, 1) := by decide +kernel
theorem dX12_mark_29 : decode cX12_mark 29 = .ok (.aload_n 0, 1) := by decide +kernel
theorem dX12_mark_30 : decode cX12_mark 30 = .ok (.getfield 116, 3) := by decide +kernel
theorem dX12_mark_33 : decode cX12_mark 33 = .ok (.iload_n 1, 1) := by decide +kernel
theorem dX12_mark_34 : decode cX12_mark 34 = .ok (.iconst 1, 1) := by decide +kernel
theorem dX12_mark_35 : decode cX12_mark 35 = .ok (.bastore, 1) := by decide +kernel
theorem dX12_mark_36 : decode cX12_mark 36 = .ok (.aload_n 0, 1) := by decide +kernel
theorem dX12_mark_37 : decode cX12_mark 37 = .ok (.iload_n 2, 1) := by decide +kernel
theorem dX12_mark_38 : decode cX12_mark 38 = .ok (.ifCond .eq 12, 3) := by decide +kernel
theorem dX12_mark_41 : decode cX12_mark 41 = .ok (.bipush 48, 2) := by decide +kernel
theorem dX12_mark_43 : decode cX12_mark 43 = .ok (.iconst 1, 1) := by decide +kernel
theorem dX12_mark_44 : decode cX12_mark 44 = .ok (.iload_n 1, 1) := by decide +kernel
theorem dX12_mark_45 : decode cX12_mark 45 = .ok (.iadd, 1) := by decide +kernel
theorem dX12_mark_46 : decode cX12_mark 46 = .ok (.imul, 1) := by decide +kernel
theorem dX12_mark_47 : decode cX12_mark 47 = .ok (.goto 4, 3) := by decide +kernel
theorem dX12_mark_50 : decode cX12_mark 50 = .ok (.iconst 0, 1) := by decide +kernel
theorem dX12_mark_51 : decode cX12_mark 51 = .ok (.iload_n 2, 1) := by decide +kernel
theorem dX12_mark_52 : decode cX12_mark 52 = .ok (.ifCond .eq 7, 3) := by decide +kernel
theorem dX12_mark_55 : decode cX12_mark 55 = .ok (.iconst 0, 1) := by decide +kernel
theorem dX12_mark_56 : decode cX12_mark 56 = .ok (.goto 9, 3) := by decide +kernel
theorem dX12_mark_59 : decode cX12_mark 59 = .ok (.bipush 48, 2) := by decide +kernel
theorem dX12_mark_61 : decode cX12_mark 61 = .ok (.iconst 1, 1) := by decide +kernel
theorem dX12_mark_62 : decode cX12_mark 62 = .ok (.iload_n 1, 1) := by decide +kernel
theorem dX12_mark_63 : decode cX12_mark 63 = .ok (.iadd, 1) := by decide +kernel
theorem dX12_mark_64 : decode cX12_mark 64 = .ok (.imul, 1) := by decide +kernel
theorem dX12_mark_65 : decode cX12_mark 65 = .ok (.bipush 48, 2) := by decide +kernel
theorem dX12_mark_67 : decode cX12_mark 67 = .ok (.invokevirtual 277, 3) := by decide +kernel
theorem dX12_mark_70 : decode cX12_mark 70 = .ok (.aload_n 0, 1) := by decide +kernel
theorem dX12_mark_71 : decode cX12_mark 71 = .ok (.iload_n 2, 1) := by decide +kernel
theorem dX12_mark_72 : decode cX12_mark 72 = .ok (.ifCond .eq 7, 3) := by decide +kernel
theorem dX12_mark_75 : decode cX12_mark 75 = .ok (.iconst 0, 1) := by decide +kernel
theorem dX12_mark_76 : decode cX12_mark 76 = .ok (.goto 7, 3) := by decide +kernel
theorem dX12_mark_79 : decode cX12_mark 79 = .ok (.aload_n 0, 1) := by decide +kernel
theorem dX12_mark_80 : decode cX12_mark 80 = .ok (.getfield 268, 3) := by decide +kernel
theorem dX12_mark_83 : decode cX12_mark 83 = .ok (.putfield 268, 3) := by decide +kernel
theorem dX12_mark_86 : decode cX12_mark 86 = .ok (.iconst 1, 1) := by decide +kernel
theorem dX12_mark_87 : decode cX12_mark 87 = .ok (.ireturn, 1) := by decide +kernel
abbrev wd_X12_mark (k : Nat → ClassId) (this : Nat) (this_thrown : Int32) (this_tape : Nat) (this_taped : Int32) (this_size : Int32) (this_sort : Nat) (this_place : Nat) (this_value : Nat) (this_at : Int32) (this_fault : Int32) (this_words : Nat) (this_towns : Nat) (this_op : Nat) (this_arg : Nat) (this_codes : Int32) (this_names : Nat) (this_readNames : Nat) (this_namesMany : Int32) (this_readMany : Int32) (this_once : Int32) (this_lines : Nat) (this_facts : Nat) (this_pile : Nat) (this_state : Nat) (this_state_f : Nat → Int32) (this_undos : Int32) (this_isMarked : Nat) (this_isMarked_f : Nat → Int32) (this_weight : Int32) (this_rounding : Int32) (this_lacks : Nat) (this_alikes : Nat) (this_g : Int64) : va_W := [(this, .inr (10, [.int this_thrown, .ref this_tape, .int this_taped, .int this_size, .ref this_sort, .ref this_place, .ref this_value, .int this_at, .int this_fault, .ref this_words, .ref this_towns, .ref this_op, .ref this_arg, .int this_codes, .ref this_names, .ref this_readNames, .int this_namesMany, .int this_readMany, .int this_once, .ref this_lines, .ref this_facts, .ref this_pile, .ref this_state, .int this_undos, .ref this_isMarked, .int this_weight, .int this_rounding, .ref this_lacks, .ref this_alikes, .long this_g])), (this_state, .inl (k 0, 1104, .inl this_state_f)), (this_isMarked, .inl (k 3, 4, .inl this_isMarked_f))]
set_option maxHeartbeats 4000000 in
set_option maxRecDepth 100000 in
theorem c_X12_mark (l : Launch) (D : va_G) (k : Nat → ClassId) (this : Nat) (this_thrown : Int32) (this_tape : Nat) (this_taped : Int32) (this_size : Int32) (this_sort : Nat) (this_place : Nat) (this_value : Nat) (this_at : Int32) (this_fault : Int32) (this_words : Nat) (this_towns : Nat) (this_op : Nat) (this_arg : Nat) (this_codes : Int32) (this_names : Nat) (this_readNames : Nat) (this_namesMany : Int32) (this_readMany : Int32) (this_once : Int32) (this_lines : Nat) (this_facts : Nat) (this_pile : Nat) (this_state : Nat) (this_state_f : Nat → Int32) (this_undos : Int32) (this_isMarked : Nat) (this_isMarked_f : Nat → Int32) (this_weight : Int32) (this_rounding : Int32) (this_lacks : Nat) (this_alikes : Nat) (this_g : Int64) (q1 : Int32) (q2 : Int32) (R0 : Int32 × Int32 × Int32 × (Nat → Int32) × (Nat → Int32)) (hm : m_X12_mark this_state_f this_undos this_isMarked_f q1 q2 = some R0) : CW l D (TY k) yX12_mark cX12_mark 3 (some .boolean) 1 24 [.ref this, .int q1, .int q2] (wd_X12_mark k this this_thrown this_tape this_taped this_size this_sort this_place this_value this_at this_fault this_words this_towns this_op this_arg this_codes this_names this_readNames this_namesMany this_readMany this_once this_lines this_facts this_pile this_state this_state_f this_undos this_isMarked this_isMarked_f this_weight this_rounding this_lacks this_alikes this_g) (some (.int R0.1)) (wd_X12_mark k this R0.2.1 this_tape this_taped this_size this_sort this_place this_value this_at this_fault this_words this_towns this_op this_arg this_codes this_names this_readNames this_namesMany this_readMany this_once this_lines this_facts this_pile this_state R0.2.2.2.1 R0.2.2.1 this_isMarked R0.2.2.2.2 this_weight this_rounding this_lacks this_alikes this_g) := by
  refine CW.mk (by decide) (Nat.le_of_ble_eq_true rfl) ?_
  intro p e s m args below meth c ls A ⟨hx, hb, hr, hts, hown, hlocks, hml⟩ hP hG hD hA hl hS hq
  have hl : lv_has ls 3 [(0, .ref this), (1, .int q1), (2, .int q2)] := hl
  have h_83 : ∀ (t0 : Int32) (u_this_thrown : Int32) (u_this_undos : Int32) (u_this_state_f : Nat → Int32) (u_this_isMarked_f : Nat → Int32) (H : Heap) (locs : List Loc) (ls : Array Slot), va_P D vwCl (wd_X12_mark k this u_this_thrown this_tape this_taped this_size this_sort this_place this_value this_at this_fault this_words this_towns this_op this_arg this_codes this_names this_readNames this_namesMany this_readMany this_once this_lines this_facts this_pile this_state u_this_state_f u_this_undos this_isMarked u_this_isMarked_f this_weight this_rounding this_lacks this_alikes this_g) H → va_D A (wd_X12_mark k this u_this_thrown this_tape this_taped this_size this_sort this_place this_value this_at this_fault this_words this_towns this_op this_arg this_codes this_names this_readNames this_namesMany this_readMany this_once this_lines this_facts this_pile this_state u_this_state_f u_this_undos this_isMarked u_this_isMarked_f this_weight this_rounding this_lacks this_alikes this_g) → va_S A s.heap H locs → lv_has ls 3 [] → m_X12_mark_83 q1 q2 t0 u_this_thrown u_this_undos u_this_state_f u_this_isMarked_f = some R0 → W p l e (Rm 1 24) s m args below meth c H locs 0 0 (MQ below (QW D (some (.int R0.1)) (wd_X12_mark k this this_thrown this_tape this_taped this_size this_sort this_place this_value this_at this_fault this_words this_towns this_op this_arg this_codes this_names this_readNames this_namesMany this_readMany this_once this_lines this_facts this_pile this_state this_state_f this_undos this_isMarked this_isMarked_f this_weight this_rounding this_lacks this_alikes this_g) (wd_X12_mark k this R0.2.1 this_tape this_taped this_size this_sort this_place this_value this_at this_fault this_words this_towns this_op this_arg this_codes this_names this_readNames this_namesMany this_readMany this_once this_lines this_facts this_pile this_state R0.2.2.2.1 R0.2.2.1 this_isMarked R0.2.2.2.2 this_weight this_rounding this_lacks this_alikes this_g) s.heap.size) args s 0 0 A) (F0 m 83 ls [.int t0, .ref this]) := by
    intro  t0 u_this_thrown u_this_undos u_this_state_f u_this_isMarked_f H locs ls hP hD hS hl hm
    unfold m_X12_mark_83 at hm
    refine va_put (pc := 83) (D := D) (ci := 10) (v := .int t0) (ty := .int) (C := RX12) (T := TX12) (N := 30) hx hb hts hiX12 tyX12 tyX12_ok nmX12 hown hG.1 hP hD hS 0 rfl rfl 23 (Nat.le_of_ble_eq_true rfl) (hts _ kw_1280) (fun _ h9 => h9) rfl (by decide +kernel) rfl rfl (Nat.le_of_ble_eq_true rfl) dX12_mark_83 (fun H locs hP hD hS => ?_)
    have hP : va_P D vwCl (wd_X12_mark k this u_this_thrown this_tape this_taped this_size this_sort this_place this_value this_at this_fault this_words this_towns this_op this_arg this_codes this_names this_readNames this_namesMany this_readMany this_once this_lines this_facts this_pile this_state u_this_state_f t0 this_isMarked u_this_isMarked_f this_weight this_rounding this_lacks this_alikes this_g) H := hP
    have hD : va_D A (wd_X12_mark k this u_this_thrown this_tape this_taped this_size this_sort this_place this_value this_at this_fault this_words this_towns this_op this_arg this_codes this_names this_readNames this_namesMany this_readMany this_once this_lines this_facts this_pile this_state u_this_state_f t0 this_isMarked u_this_isMarked_f this_weight this_rounding this_lacks this_alikes this_g) := hD
    refine lv_iconst (v := 1) (pc := 86) hx hb dX12_mark_86 (by decide) ?_
    rw [← Option.some.inj hm]
    exact W.zret hx hb hr (nar_bool (Or.inr rfl)) (fun t ht _ => hq _ _ H t ht hP hD locs hS) hS.2.2 dX12_mark_87 hlocks
  have h_65 : ∀ (t0 : Int32) (t1 : Int32) (u_this_thrown : Int32) (u_this_undos : Int32) (u_this_state_f : Nat → Int32) (u_this_isMarked_f : Nat → Int32) (H : Heap) (locs : List Loc) (ls : Array Slot), va_P D vwCl (wd_X12_mark k this u_this_thrown this_tape this_taped this_size this_sort this_place this_value this_at this_fault this_words this_towns this_op this_arg this_codes this_names this_readNames this_namesMany this_readMany this_once this_lines this_facts this_pile this_state u_this_state_f u_this_undos this_isMarked u_this_isMarked_f this_weight this_rounding this_lacks this_alikes this_g) H → va_D A (wd_X12_mark k this u_this_thrown this_tape this_taped this_size this_sort this_place this_value this_at this_fault this_words this_towns this_op this_arg this_codes this_names this_readNames this_namesMany this_readMany this_once this_lines this_facts this_pile this_state u_this_state_f u_this_undos this_isMarked u_this_isMarked_f this_weight this_rounding this_lacks this_alikes this_g) → va_S A s.heap H locs → lv_has ls 3 [(0, .ref this), (2, .int q2)] → m_X12_mark_65 q1 q2 t0 t1 u_this_thrown u_this_undos u_this_state_f u_this_isMarked_f = some R0 → W p l e (Rm 1 24) s m args below meth c H locs 0 0 (MQ below (QW D (some (.int R0.1)) (wd_X12_mark k this this_thrown this_tape this_taped this_size this_sort this_place this_value this_at this_fault this_words this_towns this_op this_arg this_codes this_names this_readNames this_namesMany this_readMany this_once this_lines this_facts this_pile this_state this_state_f this_undos this_isMarked this_isMarked_f this_weight this_rounding this_lacks this_alikes this_g) (wd_X12_mark k this R0.2.1 this_tape this_taped this_size this_sort this_place this_value this_at this_fault this_words this_towns this_op this_arg this_codes this_names this_readNames this_namesMany this_readMany this_once this_lines this_facts this_pile this_state R0.2.2.2.1 R0.2.2.1 this_isMarked R0.2.2.2.2 this_weight this_rounding this_lacks this_alikes this_g) s.heap.size) args s 0 0 A) (F0 m 65 ls [.int t0, .int t1, .ref this]) := by
    intro  t0 t1 u_this_thrown u_this_undos u_this_state_f u_this_isMarked_f H locs ls hP hD hS hl hm
    unfold m_X12_mark_65 at hm
    refine lv_bipush (v := 48) (pc := 65) hx hb dX12_mark_65 (by decide) ?_
    obtain ⟨r3, hcl, hm⟩ := bd hm
    refine cw_mask (ws' := (wd_X12_mark k this u_this_thrown this_tape this_taped this_size this_sort this_place this_value this_at this_fault this_words this_towns this_op this_arg this_codes this_names this_readNames this_namesMany this_readMany this_once this_lines this_facts this_pile this_state r3 u_this_undos this_isMarked u_this_isMarked_f this_weight this_rounding this_lacks this_alikes this_g)) (run_V (pc := 67) (n := 3) (As := [.int t1, .int t0, .int 48]) (rest := []) ⟨hx, hb, hml, hown, hts⟩ ((c_X12_copies l D k this u_this_thrown this_tape this_taped this_size this_sort this_place this_value this_at this_fault this_words this_towns this_op this_arg this_codes this_names this_readNames this_namesMany this_readMany this_once this_lines this_facts this_pile this_state u_this_state_f u_this_undos this_isMarked this_weight this_rounding this_lacks this_alikes this_g t1 t0 48 r3 hcl) H.size) ⟨kw_1513, kw_16, by decide +kernel⟩ kw_1510 kw_1512 ks_129 ⟨Nat.le_of_ble_eq_true rfl, Nat.le_of_ble_eq_true rfl⟩ pw_blind (prW (P_pick [true, true] rfl hP) hG (D_pick [true, true] rfl hD)) (va_recv hG.1 hP (ci := 10) (q0 := 0) rfl rfl) rfl hl.1 rfl (Nat.le_of_ble_eq_true rfl) dX12_mark_67 ⟨Nat.zero_le _, Nat.zero_le _⟩) hP hD hS hA [true, true] rfl rfl rfl (fun H locs hP hD hS => ?_)
    refine lv_aload_n (pc := 70) hx hb dX12_mark_70 rfl (lv_at hl 0 rfl) ?_
    refine lv_iload_n (pc := 71) hx hb dX12_mark_71 rfl (lv_at hl 1 rfl) ?_
    refine lv_if_eq (tgt := 79) (pc := 72) hx hb dX12_mark_72 (by decide) (fun hc => ?_) (fun hc => ?_)
    · rw [if_pos hc] at hm
      refine lv_aload_n (pc := 79) hx hb dX12_mark_79 rfl (lv_at hl 0 rfl) ?_
      refine va_get (pc := 80) (D := D) (ci := 10) (C := RX12) (T := TX12) (N := 30) hx hb hts hiX12 hown hG.1 hP 0 rfl rfl 23 (Nat.le_of_ble_eq_true rfl) (hts _ kw_1280) (fun _ h9 => h9) rfl dX12_mark_80 ?_
      exact h_83 u_this_undos u_this_thrown u_this_undos r3 u_this_isMarked_f H locs ls hP hD hS (lv_sub hl [] rfl) hm
    · rw [if_neg hc] at hm
      refine lv_iconst (v := 0) (pc := 75) hx hb dX12_mark_75 (by decide) ?_
      refine lv_goto (tgt := 83) (pc := 76) hx hb dX12_mark_76 (by decide) ?_
      exact h_83 0 u_this_thrown u_this_undos r3 u_this_isMarked_f H locs ls hP hD hS (lv_sub hl [] rfl) hm
  have h_51 : ∀ (t0 : Int32) (u_this_thrown : Int32) (u_this_undos : Int32) (u_this_state_f : Nat → Int32) (u_this_isMarked_f : Nat → Int32) (H : Heap) (locs : List Loc) (ls : Array Slot), va_P D vwCl (wd_X12_mark k this u_this_thrown this_tape this_taped this_size this_sort this_place this_value this_at this_fault this_words this_towns this_op this_arg this_codes this_names this_readNames this_namesMany this_readMany this_once this_lines this_facts this_pile this_state u_this_state_f u_this_undos this_isMarked u_this_isMarked_f this_weight this_rounding this_lacks this_alikes this_g) H → va_D A (wd_X12_mark k this u_this_thrown this_tape this_taped this_size this_sort this_place this_value this_at this_fault this_words this_towns this_op this_arg this_codes this_names this_readNames this_namesMany this_readMany this_once this_lines this_facts this_pile this_state u_this_state_f u_this_undos this_isMarked u_this_isMarked_f this_weight this_rounding this_lacks this_alikes this_g) → va_S A s.heap H locs → lv_has ls 3 [(0, .ref this), (1, .int q1), (2, .int q2)] → m_X12_mark_51 q1 q2 t0 u_this_thrown u_this_undos u_this_state_f u_this_isMarked_f = some R0 → W p l e (Rm 1 24) s m args below meth c H locs 0 0 (MQ below (QW D (some (.int R0.1)) (wd_X12_mark k this this_thrown this_tape this_taped this_size this_sort this_place this_value this_at this_fault this_words this_towns this_op this_arg this_codes this_names this_readNames this_namesMany this_readMany this_once this_lines this_facts this_pile this_state this_state_f this_undos this_isMarked this_isMarked_f this_weight this_rounding this_lacks this_alikes this_g) (wd_X12_mark k this R0.2.1 this_tape this_taped this_size this_sort this_place this_value this_at this_fault this_words this_towns this_op this_arg this_codes this_names this_readNames this_namesMany this_readMany this_once this_lines this_facts this_pile this_state R0.2.2.2.1 R0.2.2.1 this_isMarked R0.2.2.2.2 this_weight this_rounding this_lacks this_alikes this_g) s.heap.size) args s 0 0 A) (F0 m 51 ls [.int t0, .ref this]) := by
    intro  t0 u_this_thrown u_this_undos u_this_state_f u_this_isMarked_f H locs ls hP hD hS hl hm
    unfold m_X12_mark_51 at hm
    refine lv_iload_n (pc := 51) hx hb dX12_mark_51 rfl (lv_at hl 2 rfl) ?_
    refine lv_if_eq (tgt := 59) (pc := 52) hx hb dX12_mark_52 (by decide) (fun hc => ?_) (fun hc => ?_)
    · rw [if_pos hc] at hm
      refine lv_bipush (v := 48) (pc := 59) hx hb dX12_mark_59 (by decide) ?_
      refine lv_iconst (v := 1) (pc := 61) hx hb dX12_mark_61 (by decide) ?_
      refine lv_iload_n (pc := 62) hx hb dX12_mark_62 rfl (lv_at hl 1 rfl) ?_
      refine lv_iadd (pc := 63) hx hb dX12_mark_63 ?_
      refine lv_imul (pc := 64) hx hb dX12_mark_64 ?_
      exact h_65 (48 * (1 + q1)) t0 u_this_thrown u_this_undos u_this_state_f u_this_isMarked_f H locs ls hP hD hS (lv_sub hl [0, 2] rfl) hm
    · rw [if_neg hc] at hm
      refine lv_iconst (v := 0) (pc := 55) hx hb dX12_mark_55 (by decide) ?_
      refine lv_goto (tgt := 65) (pc := 56) hx hb dX12_mark_56 (by decide) ?_
      exact h_65 0 t0 u_this_thrown u_this_undos u_this_state_f u_this_isMarked_f H locs ls hP hD hS (lv_sub hl [0, 2] rfl) hm
  have h_29 : ∀ (u_this_thrown : Int32) (u_this_undos : Int32) (u_this_state_f : Nat → Int32) (u_this_isMarked_f : Nat → Int32) (H : Heap) (locs : List Loc) (ls : Array Slot), va_P D vwCl (wd_X12_mark k this u_this_thrown this_tape this_taped this_size this_sort this_place this_value this_at this_fault this_words this_towns this_op this_arg this_codes this_names this_readNames this_namesMany this_readMany this_once this_lines this_facts this_pile this_state u_this_state_f u_this_undos this_isMarked u_this_isMarked_f this_weight this_rounding this_lacks this_alikes this_g) H → va_D A (wd_X12_mark k this u_this_thrown this_tape this_taped this_size this_sort this_place this_value this_at this_fault this_words this_towns this_op this_arg this_codes this_names this_readNames this_namesMany this_readMany this_once this_lines this_facts this_pile this_state u_this_state_f u_this_undos this_isMarked u_this_isMarked_f this_weight this_rounding this_lacks this_alikes this_g) → va_S A s.heap H locs → lv_has ls 3 [(0, .ref this), (1, .int q1), (2, .int q2)] → m_X12_mark_29 q1 q2 u_this_thrown u_this_undos u_this_state_f u_this_isMarked_f = some R0 → W p l e (Rm 1 24) s m args below meth c H locs 0 0 (MQ below (QW D (some (.int R0.1)) (wd_X12_mark k this this_thrown this_tape this_taped this_size this_sort this_place this_value this_at this_fault this_words this_towns this_op this_arg this_codes this_names this_readNames this_namesMany this_readMany this_once this_lines this_facts this_pile this_state this_state_f this_undos this_isMarked this_isMarked_f this_weight this_rounding this_lacks this_alikes this_g) (wd_X12_mark k this R0.2.1 this_tape this_taped this_size this_sort this_place this_value this_at this_fault this_words this_towns this_op this_arg this_codes this_names this_readNames this_namesMany this_readMany this_once this_lines this_facts this_pile this_state R0.2.2.2.1 R0.2.2.1 this_isMarked R0.2.2.2.2 this_weight this_rounding this_lacks this_alikes this_g) s.heap.size) args s 0 0 A) (F0 m 29 ls []) := by
    intro  u_this_thrown u_this_undos u_this_state_f u_this_isMarked_f H locs ls hP hD hS hl hm
    unfold m_X12_mark_29 at hm
    refine lv_aload_n (pc := 29) hx hb dX12_mark_29 rfl (lv_at hl 0 rfl) ?_
    refine va_get (pc := 30) (D := D) (ci := 10) (C := RX12) (T := TX12) (N := 30) hx hb hts hiX12 hown hG.1 hP 0 rfl rfl 24 (Nat.le_of_ble_eq_true rfl) (hts _ kw_1281) (fun _ h9 => h9) rfl dX12_mark_30 ?_
    refine lv_iload_n (pc := 33) hx hb dX12_mark_33 rfl (lv_at hl 1 rfl) ?_
    refine lv_iconst (v := 1) (pc := 34) hx hb dX12_mark_34 (by decide) ?_
    obtain ⟨hin, hm⟩ := gd hm
    refine va_zast (pc := 35) (D := D) hx hb hG.1 hP hD hS 2 3 rfl rfl hin dX12_mark_35 (fun H locs hP hD hS => ?_)
    have hP : va_P D vwCl (wd_X12_mark k this u_this_thrown this_tape this_taped this_size this_sort this_place this_value this_at this_fault this_words this_towns this_op this_arg this_codes this_names this_readNames this_namesMany this_readMany this_once this_lines this_facts this_pile this_state u_this_state_f u_this_undos this_isMarked (upd u_this_isMarked_f q1.toNatClampNeg (vp_nar .boolean 1)) this_weight this_rounding this_lacks this_alikes this_g) H := hP
    have hD : va_D A (wd_X12_mark k this u_this_thrown this_tape this_taped this_size this_sort this_place this_value this_at this_fault this_words this_towns this_op this_arg this_codes this_names this_readNames this_namesMany this_readMany this_once this_lines this_facts this_pile this_state u_this_state_f u_this_undos this_isMarked (upd u_this_isMarked_f q1.toNatClampNeg (vp_nar .boolean 1)) this_weight this_rounding this_lacks this_alikes this_g) := hD
    refine lv_aload_n (pc := 36) hx hb dX12_mark_36 rfl (lv_at hl 0 rfl) ?_
    refine lv_iload_n (pc := 37) hx hb dX12_mark_37 rfl (lv_at hl 2 rfl) ?_
    refine lv_if_eq (tgt := 50) (pc := 38) hx hb dX12_mark_38 (by decide) (fun hc => ?_) (fun hc => ?_)
    · rw [if_pos hc] at hm
      refine lv_iconst (v := 0) (pc := 50) hx hb dX12_mark_50 (by decide) ?_
      exact h_51 0 u_this_thrown u_this_undos u_this_state_f (upd u_this_isMarked_f q1.toNatClampNeg (vp_nar .boolean 1)) H locs ls hP hD hS (lv_sub hl [0, 1, 2] rfl) hm
    · rw [if_neg hc] at hm
      refine lv_bipush (v := 48) (pc := 41) hx hb dX12_mark_41 (by decide) ?_
      refine lv_iconst (v := 1) (pc := 43) hx hb dX12_mark_43 (by decide) ?_
      refine lv_iload_n (pc := 44) hx hb dX12_mark_44 rfl (lv_at hl 1 rfl) ?_
      refine lv_iadd (pc := 45) hx hb dX12_mark_45 ?_
      refine lv_imul (pc := 46) hx hb dX12_mark_46 ?_
      refine lv_goto (tgt := 51) (pc := 47) hx hb dX12_mark_47 (by decide) ?_
      exact h_51 (48 * (1 + q1)) u_this_thrown u_this_undos u_this_state_f (upd u_this_isMarked_f q1.toNatClampNeg (vp_nar .boolean 1)) H locs ls hP hD hS (lv_sub hl [0, 1, 2] rfl) hm
  unfold m_X12_mark at hm
  suffices hgo : ∀ (H : Heap) (locs : List Loc), va_P D vwCl (wd_X12_mark k this this_thrown this_tape this_taped this_size this_sort this_place this_value this_at this_fault this_words this_towns this_op this_arg this_codes this_names this_readNames this_namesMany this_readMany this_once this_lines this_facts this_pile this_state this_state_f this_undos this_isMarked this_isMarked_f this_weight this_rounding this_lacks this_alikes this_g) H → va_D A (wd_X12_mark k this this_thrown this_tape this_taped this_size this_sort this_place this_value this_at this_fault this_words this_towns this_op this_arg this_codes this_names this_readNames this_namesMany this_readMany this_once this_lines this_facts this_pile this_state this_state_f this_undos this_isMarked this_isMarked_f this_weight this_rounding this_lacks this_alikes this_g) → va_S A s.heap H locs → W p l e (Rm 1 24) s m args below meth c H locs 0 0 (MQ below (QW D (some (.int R0.1)) (wd_X12_mark k this this_thrown this_tape this_taped this_size this_sort this_place this_value this_at this_fault this_words this_towns this_op this_arg this_codes this_names this_readNames this_namesMany this_readMany this_once this_lines this_facts this_pile this_state this_state_f this_undos this_isMarked this_isMarked_f this_weight this_rounding this_lacks this_alikes this_g) (wd_X12_mark k this R0.2.1 this_tape this_taped this_size this_sort this_place this_value this_at this_fault this_words this_towns this_op this_arg this_codes this_names this_readNames this_namesMany this_readMany this_once this_lines this_facts this_pile this_state R0.2.2.2.1 R0.2.2.1 this_isMarked R0.2.2.2.2 this_weight this_rounding this_lacks this_alikes this_g) s.heap.size) args s 0 0 A) (F0 m 0 ls []) from hgo _ _ hP hD hS
  clear hP hD hS
  intro H locs hP hD hS
  refine lv_aload_n (pc := 0) hx hb dX12_mark_0 rfl (lv_at hl 0 rfl) ?_
  refine lv_iconst (v := 0) (pc := 1) hx hb dX12_mark_1 (by decide) ?_
  refine va_put (pc := 2) (D := D) (ci := 10) (v := .int 0) (ty := .int) (C := RX12) (T := TX12) (N := 30) hx hb hts hiX12 tyX12 tyX12_ok nmX12 hown hG.1 hP hD hS 0 rfl rfl 0 (Nat.le_of_ble_eq_true rfl) (hts _ kw_1257) (fun _ h9 => h9) rfl (by decide +kernel) rfl rfl (Nat.le_of_ble_eq_true rfl) dX12_mark_2 (fun H locs hP hD hS => ?_)
  have hP : va_P D vwCl (wd_X12_mark k this 0 this_tape this_taped this_size this_sort this_place this_value this_at this_fault this_words this_towns this_op this_arg this_codes this_names this_readNames this_namesMany this_readMany this_once this_lines this_facts this_pile this_state this_state_f this_undos this_isMarked this_isMarked_f this_weight this_rounding this_lacks this_alikes this_g) H := hP
  have hD : va_D A (wd_X12_mark k this 0 this_tape this_taped this_size this_sort this_place this_value this_at this_fault this_words this_towns this_op this_arg this_codes this_names this_readNames this_namesMany this_readMany this_once this_lines this_facts this_pile this_state this_state_f this_undos this_isMarked this_isMarked_f this_weight this_rounding this_lacks this_alikes this_g) := hD
  refine lv_iload_n (pc := 5) hx hb dX12_mark_5 rfl (lv_at hl 1 rfl) ?_
  refine lv_iconst (v := 0) (pc := 6) hx hb dX12_mark_6 (by decide) ?_
  refine lv_iconst (v := 3) (pc := 7) hx hb dX12_mark_7 (by decide) ?_
  obtain ⟨r4, hcl, hm⟩ := bd hm
  refine cr_back (run_S (pc := 8) (n := 3) (As := [.int q1, .int 0, .int 3]) (rest := []) ⟨hx, hb, hml, hown, hts⟩ (c_X12_within l D k q1 0 3 r4 hcl) ⟨kw_1501, kw_16, by decide +kernel⟩ kw_1499 kw_1500 ⟨Nat.le_of_ble_eq_true rfl, Nat.le_of_ble_eq_true rfl⟩ pr_blind (prR (hP.sub [] rfl) hG) rfl hl.1 rfl (Nat.le_of_ble_eq_true rfl) dX12_mark_8 ⟨Nat.zero_le _, Nat.zero_le _⟩) ?_
  refine lv_if_eq (tgt := 27) (pc := 11) hx hb dX12_mark_11 (by decide) (fun hc => ?_) (fun hc => ?_)
  · rw [if_pos hc] at hm
    refine lv_iconst (v := 0) (pc := 27) hx hb dX12_mark_27 (by decide) ?_
    rw [← Option.some.inj hm]
    exact W.zret hx hb hr (nar_bool (Or.inl rfl)) (fun t ht _ => hq _ _ H t ht hP hD locs hS) hS.2.2 dX12_mark_28 hlocks
  · rw [if_neg hc] at hm
    refine lv_iload_n (pc := 14) hx hb dX12_mark_14 rfl (lv_at hl 2 rfl) ?_
    refine lv_if_eq (tgt := 29) (pc := 15) hx hb dX12_mark_15 (by decide) (fun hc => ?_) (fun hc => ?_)
    · rw [if_pos hc] at hm
      exact h_29 0 this_undos this_state_f this_isMarked_f H locs ls hP hD hS (lv_sub hl [0, 1, 2] rfl) hm
    · rw [if_neg hc] at hm
      refine lv_aload_n (pc := 18) hx hb dX12_mark_18 rfl (lv_at hl 0 rfl) ?_
      refine va_get (pc := 19) (D := D) (ci := 10) (C := RX12) (T := TX12) (N := 30) hx hb hts hiX12 hown hG.1 hP 0 rfl rfl 24 (Nat.le_of_ble_eq_true rfl) (hts _ kw_1281) (fun _ h9 => h9) rfl dX12_mark_19 ?_
      refine lv_iload_n (pc := 22) hx hb dX12_mark_22 rfl (lv_at hl 1 rfl) ?_
      obtain ⟨hin, hm⟩ := gd hm
      refine va_zald (pc := 23) (D := D) hx hb hG.1 hP 2 3 rfl rfl hin dX12_mark_23 ?_
      refine lv_if_ne (tgt := 29) (pc := 24) hx hb dX12_mark_24 (by decide) (fun hc => ?_) (fun hc => ?_)
      · rw [if_neg hc] at hm
        exact h_29 0 this_undos this_state_f this_isMarked_f H locs ls hP hD hS (lv_sub hl [0, 1, 2] rfl) hm
      · rw [if_pos hc] at hm
        refine lv_iconst (v := 0) (pc := 27) hx hb dX12_mark_27 (by decide) ?_
        rw [← Option.some.inj hm]
        exact W.zret hx hb hr (nar_bool (Or.inl rfl)) (fun t ht _ => hq _ _ H t ht hP hD locs hS) hS.2.2 dX12_mark_28 hlocks
theorem dX12_lacking_0 : decode cX12_lacking 0 = .ok (.iconst 0, 1) := by decide +kernel
theorem dX12_lacking_1 : decode cX12_lacking 1 = .ok (.istore_n 1, 1) := by decide +kernel
theorem dX12_lacking_2 : decode cX12_lacking 2 = .ok (.iconst 0, 1) := by decide +kernel
theorem dX12_lacking_3 : decode cX12_lacking 3 = .ok (.istore_n 2, 1) := by decide +kernel
theorem dX12_lacking_4 : decode cX12_lacking 4 = .ok (.iload_n 2, 1) := by decide +kernel
theorem dX12_lacking_5 : decode cX12_lacking 5 = .ok (.aload_n 0, 1) := by decide +kernel
theorem dX12_lacking_6 : decode cX12_lacking 6 = .ok (.invokevirtual 255, 3) := by decide +kernel
theorem dX12_lacking_9 : decode cX12_lacking 9 = .ok (.if_icmp .ge 30, 3) := by decide +kernel
theorem dX12_lacking_12 : decode cX12_lacking 12 = .ok (.iload_n 1, 1) := by decide +kernel
theorem dX12_lacking_13 : decode cX12_lacking 13 = .ok (.aload_n 0, 1) := by decide +kernel
theorem dX12_lacking_14 : decode cX12_lacking 14 = .ok (.getfield 113, 3) := by decide +kernel
theorem dX12_lacking_17 : decode cX12_lacking 17 = .ok (.iconst 1, 1) := by decide +kernel
theorem dX12_lacking_18 : decode cX12_lacking 18 = .ok (.iload_n 2, 1) := by decide +kernel
theorem dX12_lacking_19 : decode cX12_lacking 19 = .ok (.iadd, 1) := by decide +kernel
theorem dX12_lacking_20 : decode cX12_lacking 20 = .ok (.iaload, 1) := by decide +kernel
theorem dX12_lacking_21 : decode cX12_lacking 21 = .ok (.ifCond .le 9, 3) := by decide +kernel
theorem dX12_lacking_24 : decode cX12_lacking 24 = .ok (.iconst 1, 1) := by decide +kernel
theorem dX12_lacking_25 : decode cX12_lacking 25 = .ok (.iload_n 2, 1) := by decide +kernel
theorem dX12_lacking_26 : decode cX12_lacking 26 = .ok (.ishl, 1) := by decide +kernel
theorem dX12_lacking_27 : decode cX12_lacking 27 = .ok (.goto 4, 3) := by decide +kernel
theorem dX12_lacking_30 : decode cX12_lacking 30 = .ok (.iconst 0, 1) := by decide +kernel
theorem dX12_lacking_31 : decode cX12_lacking 31 = .ok (.ior, 1) := by decide +kernel
theorem dX12_lacking_32 : decode cX12_lacking 32 = .ok (.istore_n 1, 1) := by decide +kernel
theorem dX12_lacking_33 : decode cX12_lacking 33 = .ok (.iinc 2 1, 3) := by decide +kernel
theorem dX12_lacking_36 : decode cX12_lacking 36 = .ok (.goto (-32), 3) := by decide +kernel
theorem dX12_lacking_39 : decode cX12_lacking 39 = .ok (.iload_n 1, 1) := by decide +kernel
theorem dX12_lacking_40 : decode cX12_lacking 40 = .ok (.ireturn, 1) := by decide +kernel
abbrev wd_X12_lacking (k : Nat → ClassId) (this : Nat) (this_thrown : Int32) (this_tape : Nat) (this_taped : Int32) (this_size : Int32) (this_sort : Nat) (this_place : Nat) (this_value : Nat) (this_at : Int32) (this_fault : Int32) (this_words : Nat) (this_towns : Nat) (this_towns_f : Nat → Int32) (this_op : Nat) (this_arg : Nat) (this_codes : Int32) (this_names : Nat) (this_readNames : Nat) (this_namesMany : Int32) (this_readMany : Int32) (this_once : Int32) (this_lines : Nat) (this_facts : Nat) (this_pile : Nat) (this_state : Nat) (this_state_f : Nat → Int32) (this_undos : Int32) (this_isMarked : Nat) (this_weight : Int32) (this_rounding : Int32) (this_lacks : Nat) (this_alikes : Nat) (this_g : Int64) : va_W := [(this, .inr (10, [.int this_thrown, .ref this_tape, .int this_taped, .int this_size, .ref this_sort, .ref this_place, .ref this_value, .int this_at, .int this_fault, .ref this_words, .ref this_towns, .ref this_op, .ref this_arg, .int this_codes, .ref this_names, .ref this_readNames, .int this_namesMany, .int this_readMany, .int this_once, .ref this_lines, .ref this_facts, .ref this_pile, .ref this_state, .int this_undos, .ref this_isMarked, .int this_weight, .int this_rounding, .ref this_lacks, .ref this_alikes, .long this_g])), (this_towns, .inl (k 0, 60, .inl this_towns_f)), (this_state, .inl (k 0, 1104, .inl this_state_f))]
set_option maxHeartbeats 4000000 in
set_option maxRecDepth 100000 in
theorem c_X12_lacking (l : Launch) (D : va_G) (k : Nat → ClassId) (this : Nat) (this_thrown : Int32) (this_tape : Nat) (this_taped : Int32) (this_size : Int32) (this_sort : Nat) (this_place : Nat) (this_value : Nat) (this_at : Int32) (this_fault : Int32) (this_words : Nat) (this_towns : Nat) (this_towns_f : Nat → Int32) (this_op : Nat) (this_arg : Nat) (this_codes : Int32) (this_names : Nat) (this_readNames : Nat) (this_namesMany : Int32) (this_readMany : Int32) (this_once : Int32) (this_lines : Nat) (this_facts : Nat) (this_pile : Nat) (this_state : Nat) (this_state_f : Nat → Int32) (this_undos : Int32) (this_isMarked : Nat) (this_weight : Int32) (this_rounding : Int32) (this_lacks : Nat) (this_alikes : Nat) (this_g : Int64) (R0 : Int32) (hm : m_X12_lacking this_towns_f this_state_f = some R0) : CR l D (TY k) yX12_lacking cX12_lacking 3 (some .int) 1 20 [.ref this] (wd_X12_lacking k this this_thrown this_tape this_taped this_size this_sort this_place this_value this_at this_fault this_words this_towns this_towns_f this_op this_arg this_codes this_names this_readNames this_namesMany this_readMany this_once this_lines this_facts this_pile this_state this_state_f this_undos this_isMarked this_weight this_rounding this_lacks this_alikes this_g) (some (.int R0)) := by
  refine CR.mk (by decide) (Nat.le_of_ble_eq_true rfl) ?_
  intro p e s m args below meth c ls ⟨hx, hb, hr, hts, hown, hlocks, hml⟩ hP hG hl
  have hl : lv_has ls 3 [(0, .ref this)] := hl
  have h_4 : ∀ (n : Nat), ∀ (x1 : Int32) (x2 : Int32) (ls : Array Slot), lv_has ls 3 [(0, .ref this), (1, .int x1), (2, .int x2)] → m_X12_lacking_4 this_towns_f this_state_f n x1 x2 = some R0 → W p l e (Rm 1 20) s m args below meth c s.heap [] 0 0 (MQ below (QR (some (.int R0))) args s 0 0 (fun _ => False)) (F0 m 4 ls []) := by
    intro n
    induction n with
    | zero => intro x1 x2 ls hl hm; cases hm
    | succ n ih =>
      intro x1 x2 ls hl hm
      unfold m_X12_lacking_4 at hm
      refine lv_iload_n (pc := 4) hx hb dX12_lacking_4 rfl (lv_at hl 2 rfl) ?_
      refine lv_aload_n (pc := 5) hx hb dX12_lacking_5 rfl (lv_at hl 0 rfl) ?_
      obtain ⟨r2, hcl, hm⟩ := bd hm
      refine cr_back (run_V (pc := 6) (n := 0) (As := []) (rest := [.int x2]) ⟨hx, hb, hml, hown, hts⟩ (c_X12_persons l D k this this_thrown this_tape this_taped this_size this_sort this_place this_value this_at this_fault this_words this_towns this_towns_f this_op this_arg this_codes this_names this_readNames this_namesMany this_readMany this_once this_lines this_facts this_pile this_state this_undos this_isMarked this_weight this_rounding this_lacks this_alikes this_g r2 hcl) ⟨kw_1252, kw_16, by decide +kernel⟩ kw_1249 kw_1251 ks_97 ⟨Nat.le_of_ble_eq_true rfl, Nat.le_of_ble_eq_true rfl⟩ pr_blind (prR (hP.sub [0, 1] rfl) hG) (va_recv hG.1 hP (ci := 10) (q0 := 0) rfl rfl) rfl hl.1 rfl (Nat.le_of_ble_eq_true rfl) dX12_lacking_6 ⟨Nat.zero_le _, Nat.zero_le _⟩) ?_
      refine lv_icmp_ge (tgt := 39) (pc := 9) hx hb dX12_lacking_9 (by decide) (fun hc => ?_) (fun hc => ?_)
      · rw [if_pos hc] at hm
        refine lv_iload_n (pc := 39) hx hb dX12_lacking_39 rfl (lv_at hl 1 rfl) ?_
        rw [← Option.some.inj hm]
        exact W.iret hx hb hr (fun t ht _ => ⟨rfl, ht⟩) (fun _ h => by cases h) dX12_lacking_40 hlocks
      · rw [if_neg hc] at hm
        refine lv_iload_n (pc := 12) hx hb dX12_lacking_12 rfl (lv_at hl 1 rfl) ?_
        refine lv_aload_n (pc := 13) hx hb dX12_lacking_13 rfl (lv_at hl 0 rfl) ?_
        refine va_get (pc := 14) (D := D) (ci := 10) (C := RX12) (T := TX12) (N := 30) hx hb hts hiX12 hown hG.1 hP 0 rfl rfl 22 (Nat.le_of_ble_eq_true rfl) (hts _ kw_1279) (fun _ h9 => h9) rfl dX12_lacking_14 ?_
        refine lv_iconst (v := 1) (pc := 17) hx hb dX12_lacking_17 (by decide) ?_
        refine lv_iload_n (pc := 18) hx hb dX12_lacking_18 rfl (lv_at hl 2 rfl) ?_
        refine lv_iadd (pc := 19) hx hb dX12_lacking_19 ?_
        obtain ⟨hin, hm⟩ := gd hm
        refine va_iald (pc := 20) (D := D) hx hb hG.1 hP 2 0 rfl rfl hin dX12_lacking_20 ?_
        refine lv_if_le (tgt := 30) (pc := 21) hx hb dX12_lacking_21 (by decide) (fun hc => ?_) (fun hc => ?_)
        · rw [if_pos hc] at hm
          refine lv_iconst (v := 0) (pc := 30) hx hb dX12_lacking_30 (by decide) ?_
          refine lv_ior (pc := 31) hx hb dX12_lacking_31 ?_
          refine lv_istore_n (lv' := [(1, .int (x1 ||| 0)), (0, .ref this), (2, .int x2)]) (pc := 32) hx hb dX12_lacking_32 rfl hl (Nat.le_of_ble_eq_true rfl) rfl (fun ls hl => ?_)
          refine lv_iinc (k := 2) (v := x2 + 1) (lv' := [(2, .int (x2 + 1)), (1, .int (x1 ||| 0)), (0, .ref this)]) (pc := 33) hx hb dX12_lacking_33 hl rfl rfl (Nat.le_of_ble_eq_true rfl) rfl (fun ls hl => ?_)
          refine lv_goto (tgt := 4) (pc := 36) hx hb dX12_lacking_36 (by decide) ?_
          exact ih (x1 ||| 0) (x2 + 1) ls (lv_sub hl [2, 1, 0] rfl) hm
        · rw [if_neg hc] at hm
          refine lv_iconst (v := 1) (pc := 24) hx hb dX12_lacking_24 (by decide) ?_
          refine lv_iload_n (pc := 25) hx hb dX12_lacking_25 rfl (lv_at hl 2 rfl) ?_
          refine lv_ishl (pc := 26) hx hb dX12_lacking_26 ?_
          refine lv_goto (tgt := 31) (pc := 27) hx hb dX12_lacking_27 (by decide) ?_
          refine lv_ior (pc := 31) hx hb dX12_lacking_31 ?_
          refine lv_istore_n (lv' := [(1, .int (x1 ||| (1 <<< (x2 &&& 31)))), (0, .ref this), (2, .int x2)]) (pc := 32) hx hb dX12_lacking_32 rfl hl (Nat.le_of_ble_eq_true rfl) rfl (fun ls hl => ?_)
          refine lv_iinc (k := 2) (v := x2 + 1) (lv' := [(2, .int (x2 + 1)), (1, .int (x1 ||| (1 <<< (x2 &&& 31)))), (0, .ref this)]) (pc := 33) hx hb dX12_lacking_33 hl rfl rfl (Nat.le_of_ble_eq_true rfl) rfl (fun ls hl => ?_)
          refine lv_goto (tgt := 4) (pc := 36) hx hb dX12_lacking_36 (by decide) ?_
          exact ih (x1 ||| (1 <<< (x2 &&& 31))) (x2 + 1) ls (lv_sub hl [2, 1, 0] rfl) hm
  unfold m_X12_lacking at hm
  refine lv_iconst (v := 0) (pc := 0) hx hb dX12_lacking_0 (by decide) ?_
  refine lv_istore_n (lv' := [(1, .int 0), (0, .ref this)]) (pc := 1) hx hb dX12_lacking_1 rfl hl (Nat.le_of_ble_eq_true rfl) rfl (fun ls hl => ?_)
  refine lv_iconst (v := 0) (pc := 2) hx hb dX12_lacking_2 (by decide) ?_
  refine lv_istore_n (lv' := [(2, .int 0), (1, .int 0), (0, .ref this)]) (pc := 3) hx hb dX12_lacking_3 rfl hl (Nat.le_of_ble_eq_true rfl) rfl (fun ls hl => ?_)
  exact h_4 FU 0 0 ls (lv_sub hl [2, 1, 0] rfl) hm
