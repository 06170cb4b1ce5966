theorem dX12_count_0 : decode cX12_count 0 = .ok (.aload_n 0, 1) := by decide +kernel
theorem dX12_count_1 : decode cX12_count 1 = .ok (.iconst 0, 1) := by decide +kernel
theorem dX12_count_2 : decode cX12_count 2 = .ok (.putfield 1, 3) := by decide +kernel
theorem dX12_count_5 : decode cX12_count 5 = .ok (.iload_n 1, 1) := by decide +kernel
theorem dX12_count_6 : decode cX12_count 6 = .ok (.tableswitch 130 0 12 #[66, 66, 66, 66, 73, 80, 86, 92, 97, 104, 112, 120, 125], 66) := by decide +kernel
theorem dX12_count_72 : decode cX12_count 72 = .ok (.aload_n 0, 1) := by decide +kernel
theorem dX12_count_73 : decode cX12_count 73 = .ok (.getfield 89, 3) := by decide +kernel
theorem dX12_count_76 : decode cX12_count 76 = .ok (.iload_n 1, 1) := by decide +kernel
theorem dX12_count_77 : decode cX12_count 77 = .ok (.iaload, 1) := by decide +kernel
theorem dX12_count_78 : decode cX12_count 78 = .ok (.ireturn, 1) := by decide +kernel
theorem dX12_count_79 : decode cX12_count 79 = .ok (.aload_n 0, 1) := by decide +kernel
theorem dX12_count_80 : decode cX12_count 80 = .ok (.getfield 113, 3) := by decide +kernel
theorem dX12_count_83 : decode cX12_count 83 = .ok (.iconst 0, 1) := by decide +kernel
theorem dX12_count_84 : decode cX12_count 84 = .ok (.iaload, 1) := by decide +kernel
theorem dX12_count_85 : decode cX12_count 85 = .ok (.ireturn, 1) := by decide +kernel
theorem dX12_count_86 : decode cX12_count 86 = .ok (.aload_n 0, 1) := by decide +kernel
theorem dX12_count_87 : decode cX12_count 87 = .ok (.iconst 0, 1) := by decide +kernel
theorem dX12_count_88 : decode cX12_count 88 = .ok (.invokevirtual 347, 3) := by decide +kernel
theorem dX12_count_91 : decode cX12_count 91 = .ok (.ireturn, 1) := by decide +kernel
theorem dX12_count_92 : decode cX12_count 92 = .ok (.aload_n 0, 1) := by decide +kernel
theorem dX12_count_93 : decode cX12_count 93 = .ok (.iconst 0, 1) := by decide +kernel
theorem dX12_count_94 : decode cX12_count 94 = .ok (.invokevirtual 287, 3) := by decide +kernel
theorem dX12_count_97 : decode cX12_count 97 = .ok (.ireturn, 1) := by decide +kernel
theorem dX12_count_98 : decode cX12_count 98 = .ok (.aload_n 0, 1) := by decide +kernel
theorem dX12_count_99 : decode cX12_count 99 = .ok (.invokevirtual 374, 3) := by decide +kernel
theorem dX12_count_102 : decode cX12_count 102 = .ok (.ireturn, 1) := by decide +kernel
theorem dX12_count_103 : decode cX12_count 103 = .ok (.aload_n 0, 1) := by decide +kernel
theorem dX12_count_104 : decode cX12_count 104 = .ok (.getfield 104, 3) := by decide +kernel
theorem dX12_count_107 : decode cX12_count 107 = .ok (.iconst 0, 1) := by decide +kernel
theorem dX12_count_108 : decode cX12_count 108 = .ok (.iaload, 1) := by decide +kernel
theorem dX12_count_109 : decode cX12_count 109 = .ok (.ireturn, 1) := by decide +kernel
theorem dX12_count_110 : decode cX12_count 110 = .ok (.aload_n 0, 1) := by decide +kernel
theorem dX12_count_111 : decode cX12_count 111 = .ok (.getfield 113, 3) := by decide +kernel
theorem dX12_count_114 : decode cX12_count 114 = .ok (.bipush 13, 2) := by decide +kernel
theorem dX12_count_116 : decode cX12_count 116 = .ok (.iaload, 1) := by decide +kernel
theorem dX12_count_117 : decode cX12_count 117 = .ok (.ireturn, 1) := by decide +kernel
theorem dX12_count_118 : decode cX12_count 118 = .ok (.aload_n 0, 1) := by decide +kernel
theorem dX12_count_119 : decode cX12_count 119 = .ok (.getfield 113, 3) := by decide +kernel
theorem dX12_count_122 : decode cX12_count 122 = .ok (.bipush 30, 2) := by decide +kernel
theorem dX12_count_124 : decode cX12_count 124 = .ok (.iaload, 1) := by decide +kernel
theorem dX12_count_125 : decode cX12_count 125 = .ok (.ireturn, 1) := by decide +kernel
theorem dX12_count_126 : decode cX12_count 126 = .ok (.aload_n 0, 1) := by decide +kernel
theorem dX12_count_127 : decode cX12_count 127 = .ok (.getfield 268, 3) := by decide +kernel
theorem dX12_count_130 : decode cX12_count 130 = .ok (.ireturn, 1) := by decide +kernel
theorem dX12_count_131 : decode cX12_count 131 = .ok (.aload_n 0, 1) := by decide +kernel
theorem dX12_count_132 : decode cX12_count 132 = .ok (.getfield 11, 3) := by decide +kernel
theorem dX12_count_135 : decode cX12_count 135 = .ok (.ireturn, 1) := by decide +kernel
theorem dX12_count_136 : decode cX12_count 136 = .ok (.iconst (-1), 1) := by decide +kernel
theorem dX12_count_137 : decode cX12_count 137 = .ok (.ireturn, 1) := by decide +kernel
abbrev wd_X12_count (k : Nat → ClassId) (this : Nat) (this_thrown : Int32) (this_tape : Nat) (this_taped : Int32) (this_size : Int32) (this_sort : Nat) (this_place : Nat) (this_value : Nat) (this_at : Int32) (this_fault : Int32) (this_words : Nat) (this_towns : Nat) (this_towns_f : Nat → Int32) (this_op : Nat) (this_arg : Nat) (this_codes : Int32) (this_names : Nat) (this_readNames : Nat) (this_namesMany : Int32) (this_readMany : Int32) (this_once : Int32) (this_lines : Nat) (this_lines_f : Nat → Int32) (this_facts : Nat) (this_pile : Nat) (this_state : Nat) (this_state_f : Nat → Int32) (this_undos : Int32) (this_isMarked : Nat) (this_weight : Int32) (this_rounding : Int32) (this_lacks : Nat) (this_alikes : Nat) (this_g : Int64) : va_W := [(this, .inr (10, [.int this_thrown, .ref this_tape, .int this_taped, .int this_size, .ref this_sort, .ref this_place, .ref this_value, .int this_at, .int this_fault, .ref this_words, .ref this_towns, .ref this_op, .ref this_arg, .int this_codes, .ref this_names, .ref this_readNames, .int this_namesMany, .int this_readMany, .int this_once, .ref this_lines, .ref this_facts, .ref this_pile, .ref this_state, .int this_undos, .ref this_isMarked, .int this_weight, .int this_rounding, .ref this_lacks, .ref this_alikes, .long this_g])), (this_towns, .inl (k 0, 60, .inl this_towns_f)), (this_lines, .inl (k 0, 250, .inl this_lines_f)), (this_state, .inl (k 0, 1104, .inl this_state_f))]
set_option maxHeartbeats 4000000 in
set_option maxRecDepth 100000 in
theorem c_X12_count (l : Launch) (D : va_G) (k : Nat → ClassId) (this : Nat) (this_thrown : Int32) (this_tape : Nat) (this_taped : Int32) (this_size : Int32) (this_sort : Nat) (this_place : Nat) (this_value : Nat) (this_at : Int32) (this_fault : Int32) (this_words : Nat) (this_towns : Nat) (this_towns_f : Nat → Int32) (this_op : Nat) (this_arg : Nat) (this_codes : Int32) (this_names : Nat) (this_readNames : Nat) (this_namesMany : Int32) (this_readMany : Int32) (this_once : Int32) (this_lines : Nat) (this_lines_f : Nat → Int32) (this_facts : Nat) (this_pile : Nat) (this_state : Nat) (this_state_f : Nat → Int32) (this_undos : Int32) (this_isMarked : Nat) (this_weight : Int32) (this_rounding : Int32) (this_lacks : Nat) (this_alikes : Nat) (this_g : Int64) (q1 : Int32) (R0 : Int32 × Int32) (hm : m_X12_count this_taped this_towns_f this_lines_f this_state_f this_undos q1 = some R0) : CW l D (TY k) yX12_count cX12_count 2 (some .int) 3 69 [.ref this, .int q1] (wd_X12_count k this this_thrown this_tape this_taped this_size this_sort this_place this_value this_at this_fault this_words this_towns this_towns_f this_op this_arg this_codes this_names this_readNames this_namesMany this_readMany this_once this_lines this_lines_f this_facts this_pile this_state this_state_f this_undos this_isMarked this_weight this_rounding this_lacks this_alikes this_g) (some (.int R0.1)) (wd_X12_count k this R0.2 this_tape this_taped this_size this_sort this_place this_value this_at this_fault this_words this_towns this_towns_f this_op this_arg this_codes this_names this_readNames this_namesMany this_readMany this_once this_lines this_lines_f this_facts this_pile this_state this_state_f this_undos this_isMarked this_weight this_rounding this_lacks this_alikes this_g) := by
  refine CW.mk (by decide) (Nat.le_of_ble_eq_true rfl) ?_
  intro p e s m args below meth c ls A ⟨hx, hb, hr, hts, hown, hlocks, hml⟩ hP hG hD hA hl hS hq
  have hl : lv_has ls 2 [(0, .ref this), (1, .int q1)] := hl
  unfold m_X12_count at hm
  suffices hgo : ∀ (H : Heap) (locs : List Loc), va_P D vwCl (wd_X12_count k this this_thrown this_tape this_taped this_size this_sort this_place this_value this_at this_fault this_words this_towns this_towns_f this_op this_arg this_codes this_names this_readNames this_namesMany this_readMany this_once this_lines this_lines_f this_facts this_pile this_state this_state_f this_undos this_isMarked this_weight this_rounding this_lacks this_alikes this_g) H → va_D A (wd_X12_count k this this_thrown this_tape this_taped this_size this_sort this_place this_value this_at this_fault this_words this_towns this_towns_f this_op this_arg this_codes this_names this_readNames this_namesMany this_readMany this_once this_lines this_lines_f this_facts this_pile this_state this_state_f this_undos this_isMarked this_weight this_rounding this_lacks this_alikes this_g) → va_S A s.heap H locs → W p l e (Rm 3 69) s m args below meth c H locs 0 0 (MQ below (QW D (some (.int R0.1)) (wd_X12_count k this this_thrown this_tape this_taped this_size this_sort this_place this_value this_at this_fault this_words this_towns this_towns_f this_op this_arg this_codes this_names this_readNames this_namesMany this_readMany this_once this_lines this_lines_f this_facts this_pile this_state this_state_f this_undos this_isMarked this_weight this_rounding this_lacks this_alikes this_g) (wd_X12_count k this R0.2 this_tape this_taped this_size this_sort this_place this_value this_at this_fault this_words this_towns this_towns_f this_op this_arg this_codes this_names this_readNames this_namesMany this_readMany this_once this_lines this_lines_f this_facts this_pile this_state this_state_f this_undos this_isMarked this_weight this_rounding this_lacks this_alikes this_g) s.heap.size) args s 0 0 A) (F0 m 0 ls []) from hgo _ _ hP hD hS
  clear hP hD hS
  intro H locs hP hD hS
  refine lv_aload_n (pc := 0) hx hb dX12_count_0 rfl (lv_at hl 0 rfl) ?_
  refine lv_iconst (v := 0) (pc := 1) hx hb dX12_count_1 (by decide) ?_
  refine va_put (pc := 2) (D := D) (ci := 10) (v := .int 0) (ty := .int) (C := RX12) (T := TX12) (N := 30) hx hb hts hiX12 tyX12 tyX12_ok nmX12 hown hG.1 hP hD hS 0 rfl rfl 0 (Nat.le_of_ble_eq_true rfl) (hts _ kw_1257) (fun _ h9 => h9) rfl (by decide +kernel) rfl rfl (Nat.le_of_ble_eq_true rfl) dX12_count_2 (fun H locs hP hD hS => ?_)
  have hP : va_P D vwCl (wd_X12_count k this 0 this_tape this_taped this_size this_sort this_place this_value this_at this_fault this_words this_towns this_towns_f this_op this_arg this_codes this_names this_readNames this_namesMany this_readMany this_once this_lines this_lines_f this_facts this_pile this_state this_state_f this_undos this_isMarked this_weight this_rounding this_lacks this_alikes this_g) H := hP
  have hD : va_D A (wd_X12_count k this 0 this_tape this_taped this_size this_sort this_place this_value this_at this_fault this_words this_towns this_towns_f this_op this_arg this_codes this_names this_readNames this_namesMany this_readMany this_once this_lines this_lines_f this_facts this_pile this_state this_state_f this_undos this_isMarked this_weight this_rounding this_lacks this_alikes this_g) := hD
  refine lv_iload_n (pc := 5) hx hb dX12_count_5 rfl (lv_at hl 1 rfl) ?_
  by_cases hs0 : q1 = 0
  · rw [if_pos hs0] at hm
    rw [hs0]
    refine lv_tableIn (tgt := 72) (pc := 6) hx hb dX12_count_6 (by decide) (by decide) rfl (by decide) ?_
    refine lv_aload_n (pc := 72) hx hb dX12_count_72 rfl (lv_at hl 0 rfl) ?_
    refine va_get (pc := 73) (D := D) (ci := 10) (C := RX12) (T := TX12) (N := 30) hx hb hts hiX12 hown hG.1 hP 0 rfl rfl 10 (Nat.le_of_ble_eq_true rfl) (hts _ kw_1267) (fun _ h9 => h9) rfl dX12_count_73 ?_
    refine lv_iload_n (pc := 76) hx hb dX12_count_76 rfl (lv_at hl 1 rfl) ?_
    obtain ⟨hin, hm⟩ := gd hm
    refine va_iald (pc := 77) (D := D) hx hb hG.1 hP 1 0 rfl rfl hin dX12_count_77 ?_
    rw [← Option.some.inj hm]
    exact W.iret hx hb hr (fun t ht _ => hq _ _ H t ht hP hD locs hS) hS.2.2 dX12_count_78 hlocks
  · rw [if_neg hs0] at hm
    by_cases hs1 : q1 = 1
    · rw [if_pos hs1] at hm
      rw [hs1]
      refine lv_tableIn (tgt := 72) (pc := 6) hx hb dX12_count_6 (by decide) (by decide) rfl (by decide) ?_
      refine lv_aload_n (pc := 72) hx hb dX12_count_72 rfl (lv_at hl 0 rfl) ?_
      refine va_get (pc := 73) (D := D) (ci := 10) (C := RX12) (T := TX12) (N := 30) hx hb hts hiX12 hown hG.1 hP 0 rfl rfl 10 (Nat.le_of_ble_eq_true rfl) (hts _ kw_1267) (fun _ h9 => h9) rfl dX12_count_73 ?_
      refine lv_iload_n (pc := 76) hx hb dX12_count_76 rfl (lv_at hl 1 rfl) ?_
      obtain ⟨hin, hm⟩ := gd hm
      refine va_iald (pc := 77) (D := D) hx hb hG.1 hP 1 0 rfl rfl hin dX12_count_77 ?_
      rw [← Option.some.inj hm]
      exact W.iret hx hb hr (fun t ht _ => hq _ _ H t ht hP hD locs hS) hS.2.2 dX12_count_78 hlocks
    · rw [if_neg hs1] at hm
      by_cases hs2 : q1 = 2
      · rw [if_pos hs2] at hm
        rw [hs2]
        refine lv_tableIn (tgt := 72) (pc := 6) hx hb dX12_count_6 (by decide) (by decide) rfl (by decide) ?_
        refine lv_aload_n (pc := 72) hx hb dX12_count_72 rfl (lv_at hl 0 rfl) ?_
        refine va_get (pc := 73) (D := D) (ci := 10) (C := RX12) (T := TX12) (N := 30) hx hb hts hiX12 hown hG.1 hP 0 rfl rfl 10 (Nat.le_of_ble_eq_true rfl) (hts _ kw_1267) (fun _ h9 => h9) rfl dX12_count_73 ?_
        refine lv_iload_n (pc := 76) hx hb dX12_count_76 rfl (lv_at hl 1 rfl) ?_
        obtain ⟨hin, hm⟩ := gd hm
        refine va_iald (pc := 77) (D := D) hx hb hG.1 hP 1 0 rfl rfl hin dX12_count_77 ?_
        rw [← Option.some.inj hm]
        exact W.iret hx hb hr (fun t ht _ => hq _ _ H t ht hP hD locs hS) hS.2.2 dX12_count_78 hlocks
      · rw [if_neg hs2] at hm
        by_cases hs3 : q1 = 3
        · rw [if_pos hs3] at hm
          rw [hs3]
          refine lv_tableIn (tgt := 72) (pc := 6) hx hb dX12_count_6 (by decide) (by decide) rfl (by decide) ?_
          refine lv_aload_n (pc := 72) hx hb dX12_count_72 rfl (lv_at hl 0 rfl) ?_
          refine va_get (pc := 73) (D := D) (ci := 10) (C := RX12) (T := TX12) (N := 30) hx hb hts hiX12 hown hG.1 hP 0 rfl rfl 10 (Nat.le_of_ble_eq_true rfl) (hts _ kw_1267) (fun _ h9 => h9) rfl dX12_count_73 ?_
          refine lv_iload_n (pc := 76) hx hb dX12_count_76 rfl (lv_at hl 1 rfl) ?_
          obtain ⟨hin, hm⟩ := gd hm
          refine va_iald (pc := 77) (D := D) hx hb hG.1 hP 1 0 rfl rfl hin dX12_count_77 ?_
          rw [← Option.some.inj hm]
          exact W.iret hx hb hr (fun t ht _ => hq _ _ H t ht hP hD locs hS) hS.2.2 dX12_count_78 hlocks
        · rw [if_neg hs3] at hm
          by_cases hs4 : q1 = 4
          · rw [if_pos hs4] at hm
            rw [hs4]
            refine lv_tableIn (tgt := 79) (pc := 6) hx hb dX12_count_6 (by decide) (by decide) rfl (by decide) ?_
            refine lv_aload_n (pc := 79) hx hb dX12_count_79 rfl (lv_at hl 0 rfl) ?_
            refine va_get (pc := 80) (D := D) (ci := 10) (C := RX12) (T := TX12) (N := 30) hx hb hts hiX12 hown hG.1 hP 0 rfl rfl 22 (Nat.le_of_ble_eq_true rfl) (hts _ kw_1279) (fun _ h9 => h9) rfl dX12_count_80 ?_
            refine lv_iconst (v := 0) (pc := 83) hx hb dX12_count_83 (by decide) ?_
            refine va_iald (pc := 84) (D := D) hx hb hG.1 hP 3 0 rfl rfl (pn_in (Nat.le_of_ble_eq_true rfl) (Nat.le_of_ble_eq_true rfl)) dX12_count_84 ?_
            rw [← Option.some.inj hm]
            exact W.iret hx hb hr (fun t ht _ => hq _ _ H t ht hP hD locs hS) hS.2.2 dX12_count_85 hlocks
          · rw [if_neg hs4] at hm
            by_cases hs5 : q1 = 5
            · rw [if_pos hs5] at hm
              rw [hs5]
              refine lv_tableIn (tgt := 86) (pc := 6) hx hb dX12_count_6 (by decide) (by decide) rfl (by decide) ?_
              refine lv_aload_n (pc := 86) hx hb dX12_count_86 rfl (lv_at hl 0 rfl) ?_
              refine lv_iconst (v := 0) (pc := 87) hx hb dX12_count_87 (by decide) ?_
              obtain ⟨r4, hcl, hm⟩ := bd hm
              refine cr_back (run_V (pc := 88) (n := 1) (As := [.int 0]) (rest := []) ⟨hx, hb, hml, hown, hts⟩ (c_X12_lacksAll l D k this 0 this_tape this_taped this_size this_sort this_place this_value this_at this_fault this_words this_towns this_towns_f this_op this_arg this_codes this_names this_readNames this_namesMany this_readMany this_once this_lines this_facts this_pile this_state this_state_f this_undos this_isMarked this_weight this_rounding this_lacks this_alikes this_g 0 r4 hcl) ⟨kw_1711, kw_16, by decide +kernel⟩ kw_1708 kw_1710 ks_142 ⟨Nat.le_of_ble_eq_true rfl, Nat.le_of_ble_eq_true rfl⟩ pr_blind (prR (hP.sub [0, 1, 3] rfl) hG) (va_recv hG.1 hP (ci := 10) (q0 := 0) rfl rfl) rfl hl.1 rfl (Nat.le_of_ble_eq_true rfl) dX12_count_88 ⟨Nat.zero_le _, Nat.zero_le _⟩) ?_
              rw [← Option.some.inj hm]
              exact W.iret hx hb hr (fun t ht _ => hq _ _ H t ht hP hD locs hS) hS.2.2 dX12_count_91 hlocks
            · rw [if_neg hs5] at hm
              by_cases hs6 : q1 = 6
              · rw [if_pos hs6] at hm
                rw [hs6]
                refine lv_tableIn (tgt := 92) (pc := 6) hx hb dX12_count_6 (by decide) (by decide) rfl (by decide) ?_
                refine lv_aload_n (pc := 92) hx hb dX12_count_92 rfl (lv_at hl 0 rfl) ?_
                refine lv_iconst (v := 0) (pc := 93) hx hb dX12_count_93 (by decide) ?_
                obtain ⟨r5, hcl, hm⟩ := bd hm
                refine cr_back (run_V (pc := 94) (n := 1) (As := [.int 0]) (rest := []) ⟨hx, hb, hml, hown, hts⟩ (c_X12_weighsAll l D k this 0 this_tape this_taped this_size this_sort this_place this_value this_at this_fault this_words this_towns this_towns_f this_op this_arg this_codes this_names this_readNames this_namesMany this_readMany this_once this_lines this_facts this_pile this_state this_state_f this_undos this_isMarked this_weight this_rounding this_lacks this_alikes this_g 0 r5 hcl) ⟨kw_1479, kw_16, by decide +kernel⟩ kw_1476 kw_1478 ks_124 ⟨Nat.le_of_ble_eq_true rfl, Nat.le_of_ble_eq_true rfl⟩ pr_blind (prR (hP.sub [0, 1, 3] rfl) hG) (va_recv hG.1 hP (ci := 10) (q0 := 0) rfl rfl) rfl hl.1 rfl (Nat.le_of_ble_eq_true rfl) dX12_count_94 ⟨Nat.zero_le _, Nat.zero_le _⟩) ?_
                rw [← Option.some.inj hm]
                exact W.iret hx hb hr (fun t ht _ => hq _ _ H t ht hP hD locs hS) hS.2.2 dX12_count_97 hlocks
              · rw [if_neg hs6] at hm
                by_cases hs7 : q1 = 7
                · rw [if_pos hs7] at hm
                  rw [hs7]
                  refine lv_tableIn (tgt := 98) (pc := 6) hx hb dX12_count_6 (by decide) (by decide) rfl (by decide) ?_
                  refine lv_aload_n (pc := 98) hx hb dX12_count_98 rfl (lv_at hl 0 rfl) ?_
                  obtain ⟨r6, hcl, hm⟩ := bd hm
                  refine cr_back (run_V (pc := 99) (n := 0) (As := []) (rest := []) ⟨hx, hb, hml, hown, hts⟩ (c_X12_lacking l D k this 0 this_tape this_taped this_size this_sort this_place this_value this_at this_fault this_words this_towns this_towns_f this_op this_arg this_codes this_names this_readNames this_namesMany this_readMany this_once this_lines this_facts this_pile this_state this_state_f this_undos this_isMarked this_weight this_rounding this_lacks this_alikes this_g r6 hcl) ⟨kw_1751, kw_16, by decide +kernel⟩ kw_1748 kw_1750 ks_145 ⟨Nat.le_of_ble_eq_true rfl, Nat.le_of_ble_eq_true rfl⟩ pr_blind (prR (hP.sub [0, 1, 3] rfl) hG) (va_recv hG.1 hP (ci := 10) (q0 := 0) rfl rfl) rfl hl.1 rfl (Nat.le_of_ble_eq_true rfl) dX12_count_99 ⟨Nat.zero_le _, Nat.zero_le _⟩) ?_
                  rw [← Option.some.inj hm]
                  exact W.iret hx hb hr (fun t ht _ => hq _ _ H t ht hP hD locs hS) hS.2.2 dX12_count_102 hlocks
                · rw [if_neg hs7] at hm
                  by_cases hs8 : q1 = 8
                  · rw [if_pos hs8] at hm
                    rw [hs8]
                    refine lv_tableIn (tgt := 103) (pc := 6) hx hb dX12_count_6 (by decide) (by decide) rfl (by decide) ?_
                    refine lv_aload_n (pc := 103) hx hb dX12_count_103 rfl (lv_at hl 0 rfl) ?_
                    refine va_get (pc := 104) (D := D) (ci := 10) (C := RX12) (T := TX12) (N := 30) hx hb hts hiX12 hown hG.1 hP 0 rfl rfl 19 (Nat.le_of_ble_eq_true rfl) (hts _ kw_1276) (fun _ h9 => h9) rfl dX12_count_104 ?_
                    refine lv_iconst (v := 0) (pc := 107) hx hb dX12_count_107 (by decide) ?_
                    refine va_iald (pc := 108) (D := D) hx hb hG.1 hP 2 0 rfl rfl (pn_in (Nat.le_of_ble_eq_true rfl) (Nat.le_of_ble_eq_true rfl)) dX12_count_108 ?_
                    rw [← Option.some.inj hm]
                    exact W.iret hx hb hr (fun t ht _ => hq _ _ H t ht hP hD locs hS) hS.2.2 dX12_count_109 hlocks
                  · rw [if_neg hs8] at hm
                    by_cases hs9 : q1 = 9
                    · rw [if_pos hs9] at hm
                      rw [hs9]
                      refine lv_tableIn (tgt := 110) (pc := 6) hx hb dX12_count_6 (by decide) (by decide) rfl (by decide) ?_
                      refine lv_aload_n (pc := 110) hx hb dX12_count_110 rfl (lv_at hl 0 rfl) ?_
                      refine va_get (pc := 111) (D := D) (ci := 10) (C := RX12) (T := TX12) (N := 30) hx hb hts hiX12 hown hG.1 hP 0 rfl rfl 22 (Nat.le_of_ble_eq_true rfl) (hts _ kw_1279) (fun _ h9 => h9) rfl dX12_count_111 ?_
                      refine lv_bipush (v := 13) (pc := 114) hx hb dX12_count_114 (by decide) ?_
                      refine va_iald (pc := 116) (D := D) hx hb hG.1 hP 3 0 rfl rfl (pn_in (Nat.le_of_ble_eq_true rfl) (Nat.le_of_ble_eq_true rfl)) dX12_count_116 ?_
                      rw [← Option.some.inj hm]
                      exact W.iret hx hb hr (fun t ht _ => hq _ _ H t ht hP hD locs hS) hS.2.2 dX12_count_117 hlocks
                    · rw [if_neg hs9] at hm
                      by_cases hs10 : q1 = 10
                      · rw [if_pos hs10] at hm
                        rw [hs10]
                        refine lv_tableIn (tgt := 118) (pc := 6) hx hb dX12_count_6 (by decide) (by decide) rfl (by decide) ?_
                        refine lv_aload_n (pc := 118) hx hb dX12_count_118 rfl (lv_at hl 0 rfl) ?_
                        refine va_get (pc := 119) (D := D) (ci := 10) (C := RX12) (T := TX12) (N := 30) hx hb hts hiX12 hown hG.1 hP 0 rfl rfl 22 (Nat.le_of_ble_eq_true rfl) (hts _ kw_1279) (fun _ h9 => h9) rfl dX12_count_119 ?_
                        refine lv_bipush (v := 30) (pc := 122) hx hb dX12_count_122 (by decide) ?_
                        refine va_iald (pc := 124) (D := D) hx hb hG.1 hP 3 0 rfl rfl (pn_in (Nat.le_of_ble_eq_true rfl) (Nat.le_of_ble_eq_true rfl)) dX12_count_124 ?_
                        rw [← Option.some.inj hm]
                        exact W.iret hx hb hr (fun t ht _ => hq _ _ H t ht hP hD locs hS) hS.2.2 dX12_count_125 hlocks
                      · rw [if_neg hs10] at hm
                        by_cases hs11 : q1 = 11
                        · rw [if_pos hs11] at hm
                          rw [hs11]
                          refine lv_tableIn (tgt := 126) (pc := 6) hx hb dX12_count_6 (by decide) (by decide) rfl (by decide) ?_
                          refine lv_aload_n (pc := 126) hx hb dX12_count_126 rfl (lv_at hl 0 rfl) ?_
                          refine va_get (pc := 127) (D := D) (ci := 10) (C := RX12) (T := TX12) (N := 30) hx hb hts hiX12 hown hG.1 hP 0 rfl rfl 23 (Nat.le_of_ble_eq_true rfl) (hts _ kw_1280) (fun _ h9 => h9) rfl dX12_count_127 ?_
                          rw [← Option.some.inj hm]
                          exact W.iret hx hb hr (fun t ht _ => hq _ _ H t ht hP hD locs hS) hS.2.2 dX12_count_130 hlocks
                        · rw [if_neg hs11] at hm
                          by_cases hs12 : q1 = 12
                          · rw [if_pos hs12] at hm
                            rw [hs12]
                            refine lv_tableIn (tgt := 131) (pc := 6) hx hb dX12_count_6 (by decide) (by decide) rfl (by decide) ?_
                            refine lv_aload_n (pc := 131) hx hb dX12_count_131 rfl (lv_at hl 0 rfl) ?_
                            refine va_get (pc := 132) (D := D) (ci := 10) (C := RX12) (T := TX12) (N := 30) hx hb hts hiX12 hown hG.1 hP 0 rfl rfl 2 (Nat.le_of_ble_eq_true rfl) (hts _ kw_1259) (fun _ h9 => h9) rfl dX12_count_132 ?_
                            rw [← Option.some.inj hm]
                            exact W.iret hx hb hr (fun t ht _ => hq _ _ H t ht hP hD locs hS) hS.2.2 dX12_count_135 hlocks
                          · rw [if_neg hs12] at hm
                            refine lv_tableOut (tgt := 136) (pc := 6) hx hb dX12_count_6 (sw_out (by decide) (by decide) (by intro v h1 h2; rcases (show v = 0 ∨ v = 1 ∨ v = 2 ∨ v = 3 ∨ v = 4 ∨ v = 5 ∨ v = 6 ∨ v = 7 ∨ v = 8 ∨ v = 9 ∨ v = 10 ∨ v = 11 ∨ v = 12 by omega) with rfl | rfl | rfl | rfl | rfl | rfl | rfl | rfl | rfl | rfl | rfl | rfl | rfl <;> assumption)) (by decide) ?_
                            refine lv_iconst (v := (-1)) (pc := 136) hx hb dX12_count_136 (by decide) ?_
                            rw [← Option.some.inj hm]
                            exact W.iret hx hb hr (fun t ht _ => hq _ _ H t ht hP hD locs hS) hS.2.2 dX12_count_137 hlocks
