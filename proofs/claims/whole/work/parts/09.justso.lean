theorem dX11_blame_0 : decode cX11_blame 0 = .ok (.iload_n 1, 1) := by decide +kernel
theorem dX11_blame_1 : decode cX11_blame 1 = .ok (.iconst 0, 1) := by decide +kernel
theorem dX11_blame_2 : decode cX11_blame 2 = .ok (.bipush 20, 2) := by decide +kernel
theorem dX11_blame_4 : decode cX11_blame 4 = .ok (.invokestatic 148, 3) := by decide +kernel
theorem dX11_blame_7 : decode cX11_blame 7 = .ok (.ifCond .ne 5, 3) := by decide +kernel
theorem dX11_blame_10 : decode cX11_blame 10 = .ok (.iconst (-1), 1) := by decide +kernel
theorem dX11_blame_11 : decode cX11_blame 11 = .ok (.ireturn, 1) := by decide +kernel
theorem dX11_blame_12 : decode cX11_blame 12 = .ok (.iconst (-1), 1) := by decide +kernel
theorem dX11_blame_13 : decode cX11_blame 13 = .ok (.istore_n 2, 1) := by decide +kernel
theorem dX11_blame_14 : decode cX11_blame 14 = .ok (.iconst (-1), 1) := by decide +kernel
theorem dX11_blame_15 : decode cX11_blame 15 = .ok (.istore_n 3, 1) := by decide +kernel
theorem dX11_blame_16 : decode cX11_blame 16 = .ok (.iconst 0, 1) := by decide +kernel
theorem dX11_blame_17 : decode cX11_blame 17 = .ok (.istore 4, 2) := by decide +kernel
theorem dX11_blame_19 : decode cX11_blame 19 = .ok (.iload 4, 2) := by decide +kernel
theorem dX11_blame_21 : decode cX11_blame 21 = .ok (.aload_n 0, 1) := by decide +kernel
theorem dX11_blame_22 : decode cX11_blame 22 = .ok (.getfield 56, 3) := by decide +kernel
theorem dX11_blame_25 : decode cX11_blame 25 = .ok (.getfield 197, 3) := by decide +kernel
theorem dX11_blame_28 : decode cX11_blame 28 = .ok (.if_icmp .ge 66, 3) := by decide +kernel
theorem dX11_blame_31 : decode cX11_blame 31 = .ok (.aload_n 0, 1) := by decide +kernel
theorem dX11_blame_32 : decode cX11_blame 32 = .ok (.getfield 50, 3) := by decide +kernel
theorem dX11_blame_35 : decode cX11_blame 35 = .ok (.aload_n 0, 1) := by decide +kernel
theorem dX11_blame_36 : decode cX11_blame 36 = .ok (.getfield 56, 3) := by decide +kernel
theorem dX11_blame_39 : decode cX11_blame 39 = .ok (.aload_n 0, 1) := by decide +kernel
theorem dX11_blame_40 : decode cX11_blame 40 = .ok (.getfield 46, 3) := by decide +kernel
theorem dX11_blame_43 : decode cX11_blame 43 = .ok (.getfield 136, 3) := by decide +kernel
theorem dX11_blame_46 : decode cX11_blame 46 = .ok (.invokevirtual 81, 3) := by decide +kernel
theorem dX11_blame_49 : decode cX11_blame 49 = .ok (.aload_n 0, 1) := by decide +kernel
theorem dX11_blame_50 : decode cX11_blame 50 = .ok (.getfield 50, 3) := by decide +kernel
theorem dX11_blame_53 : decode cX11_blame 53 = .ok (.iload 4, 2) := by decide +kernel
theorem dX11_blame_55 : decode cX11_blame 55 = .ok (.invokevirtual 160, 3) := by decide +kernel
theorem dX11_blame_58 : decode cX11_blame 58 = .ok (.aload_n 0, 1) := by decide +kernel
theorem dX11_blame_59 : decode cX11_blame 59 = .ok (.getfield 50, 3) := by decide +kernel
theorem dX11_blame_62 : decode cX11_blame 62 = .ok (.iload_n 1, 1) := by decide +kernel
theorem dX11_blame_63 : decode cX11_blame 63 = .ok (.invokevirtual 182, 3) := by decide +kernel
theorem dX11_blame_66 : decode cX11_blame 66 = .ok (.aload_n 0, 1) := by decide +kernel
theorem dX11_blame_67 : decode cX11_blame 67 = .ok (.getfield 50, 3) := by decide +kernel
theorem dX11_blame_70 : decode cX11_blame 70 = .ok (.getfield 114, 3) := by decide +kernel
theorem dX11_blame_73 : decode cX11_blame 73 = .ok (.iload_n 2, 1) := by decide +kernel
theorem dX11_blame_74 : decode cX11_blame 74 = .ok (.if_icmp .le 14, 3) := by decide +kernel
theorem dX11_blame_77 : decode cX11_blame 77 = .ok (.aload_n 0, 1) := by decide +kernel
theorem dX11_blame_78 : decode cX11_blame 78 = .ok (.getfield 50, 3) := by decide +kernel
theorem dX11_blame_81 : decode cX11_blame 81 = .ok (.getfield 114, 3) := by decide +kernel
theorem dX11_blame_84 : decode cX11_blame 84 = .ok (.istore_n 2, 1) := by decide +kernel
theorem dX11_blame_85 : decode cX11_blame 85 = .ok (.iload 4, 2) := by decide +kernel
theorem dX11_blame_87 : decode cX11_blame 87 = .ok (.istore_n 3, 1) := by decide +kernel
theorem dX11_blame_88 : decode cX11_blame 88 = .ok (.iinc 4 1, 3) := by decide +kernel
theorem dX11_blame_91 : decode cX11_blame 91 = .ok (.goto (-72), 3) := by decide +kernel
theorem dX11_blame_94 : decode cX11_blame 94 = .ok (.iload_n 3, 1) := by decide +kernel
theorem dX11_blame_95 : decode cX11_blame 95 = .ok (.ireturn, 1) := by decide +kernel
abbrev wd_X11_blame (k : Nat → ClassId) (this : Nat) (this_tape : Nat) (this_history : Nat) (this_seen : Nat) (this_measured : Nat) (this_marks : Nat) (this_standing : Nat) (this_now : Nat) (this_now_state : Nat) (this_now_state_lacks : Nat) (this_now_state_lacks_f : Nat → Int32) (this_now_state_feels : Nat) (this_now_state_feels_f : Nat → Int32) (this_now_state_date : Int32) (this_now_next : Nat) (this_now_town : Nat) (this_now_weighs : Int32) (this_now_rounds : Int32) (this_now_flag : Int32) (this_ahead : Nat) (this_ahead_state : Nat) (this_ahead_state_lacks : Nat) (this_ahead_state_lacks_f : Nat → Int32) (this_ahead_state_feels : Nat) (this_ahead_state_feels_f : Nat → Int32) (this_ahead_state_date : Int32) (this_ahead_next : Nat) (this_ahead_next_f : Nat → Int32) (this_ahead_town : Value) (this_ahead_weighs : Int32) (this_ahead_rounds : Int32) (this_ahead_flag : Int32) (this_here : Nat) (this_here_names : Nat) (this_here_kinds : Nat) (this_here_kinds_f : Nat → Int32) (this_here_begin : Nat) (this_here_law : Nat) (this_here_law_steps : Nat) (this_here_law_steps_f : Nat → Int32) (this_here_law_stack : Nat) (this_here_law_stack_f : Nat → Int32) (this_here_law_size : Int32) (this_here_persons : Int32) (this_here_mast : Int32) (this_here_weighs : Int32) (this_here_rounds : Int32) (this_here_toldOnce : Int32) (this_townDraft : Nat) (this_told : Nat) (this_yearDraft : Nat) (this_drawn : Int64) : va_W := [(this, .inr (9, [.ref this_tape, .ref this_history, .ref this_seen, .ref this_measured, .ref this_marks, .ref this_standing, .ref this_now, .ref this_ahead, .ref this_here, .ref this_townDraft, .ref this_told, .ref this_yearDraft, .long this_drawn])), (this_now, .inr (0, [.ref this_now_state, .ref this_now_next, .ref this_now_town, .int this_now_weighs, .int this_now_rounds, .int this_now_flag])), (this_now_state, .inr (5, [.ref this_now_state_lacks, .ref this_now_state_feels, .int this_now_state_date])), (this_now_state_lacks, .inl (k 0, 6, .inl this_now_state_lacks_f)), (this_now_state_feels, .inl (k 0, 6, .inl this_now_state_feels_f)), (this_ahead, .inr (0, [.ref this_ahead_state, .ref this_ahead_next, this_ahead_town, .int this_ahead_weighs, .int this_ahead_rounds, .int this_ahead_flag])), (this_ahead_state, .inr (5, [.ref this_ahead_state_lacks, .ref this_ahead_state_feels, .int this_ahead_state_date])), (this_ahead_state_lacks, .inl (k 0, 6, .inl this_ahead_state_lacks_f)), (this_ahead_state_feels, .inl (k 0, 6, .inl this_ahead_state_feels_f)), (this_ahead_next, .inl (k 0, 6, .inl this_ahead_next_f)), (this_here, .inr (7, [.ref this_here_names, .ref this_here_kinds, .ref this_here_begin, .ref this_here_law, .int this_here_persons, .int this_here_mast, .int this_here_weighs, .int this_here_rounds, .int this_here_toldOnce])), (this_here_kinds, .inl (k 0, 6, .inl this_here_kinds_f)), (this_here_law, .inr (2, [.ref this_here_law_steps, .ref this_here_law_stack, .int this_here_law_size])), (this_here_law_steps, .inl (k 0, 1000, .inl this_here_law_steps_f)), (this_here_law_stack, .inl (k 0, 21, .inl this_here_law_stack_f))]
set_option maxHeartbeats 4000000 in
set_option maxRecDepth 100000 in
theorem c_X11_blame (l : Launch) (D : va_G) (k : Nat → ClassId) (this : Nat) (this_tape : Nat) (this_history : Nat) (this_seen : Nat) (this_measured : Nat) (this_marks : Nat) (this_standing : Nat) (this_now : Nat) (this_now_state : Nat) (this_now_state_lacks : Nat) (this_now_state_lacks_f : Nat → Int32) (this_now_state_feels : Nat) (this_now_state_feels_f : Nat → Int32) (this_now_state_date : Int32) (this_now_next : Nat) (this_now_town : Nat) (this_now_weighs : Int32) (this_now_rounds : Int32) (this_now_flag : Int32) (this_ahead : Nat) (this_ahead_state : Nat) (this_ahead_state_lacks : Nat) (this_ahead_state_lacks_f : Nat → Int32) (this_ahead_state_feels : Nat) (this_ahead_state_feels_f : Nat → Int32) (this_ahead_state_date : Int32) (this_ahead_next : Nat) (this_ahead_next_f : Nat → Int32) (this_ahead_town : Value) (this_ahead_weighs : Int32) (this_ahead_rounds : Int32) (this_ahead_flag : Int32) (this_here : Nat) (this_here_names : Nat) (this_here_kinds : Nat) (this_here_kinds_f : Nat → Int32) (this_here_begin : Nat) (this_here_law : Nat) (this_here_law_steps : Nat) (this_here_law_steps_f : Nat → Int32) (this_here_law_stack : Nat) (this_here_law_stack_f : Nat → Int32) (this_here_law_size : Int32) (this_here_persons : Int32) (this_here_mast : Int32) (this_here_weighs : Int32) (this_here_rounds : Int32) (this_here_toldOnce : Int32) (this_townDraft : Nat) (this_told : Nat) (this_yearDraft : Nat) (this_drawn : Int64) (days : Int32) (R0 : Int32 × Value × Int32 × Int32 × Int32 × Int32 × (Nat → Int32) × (Nat → Int32) × (Nat → Int32) × (Nat → Int32)) (hm : m_X11_blame this_now_state_lacks_f this_now_state_feels_f this_now_state_date this_ahead_state_lacks_f this_ahead_state_feels_f this_ahead_state_date this_ahead_next_f this_ahead_town this_ahead_weighs this_ahead_rounds this_ahead_flag this_here this_here_kinds_f this_here_law_steps_f this_here_law_stack_f this_here_law_size this_here_persons this_here_mast this_here_weighs this_here_rounds days = some R0) : CW l D (TY k) yX11_blame cX11_blame 5 (some .int) 6 134 [.ref this, .int days] (wd_X11_blame k this this_tape this_history this_seen this_measured this_marks this_standing this_now this_now_state this_now_state_lacks this_now_state_lacks_f this_now_state_feels this_now_state_feels_f this_now_state_date this_now_next this_now_town this_now_weighs this_now_rounds this_now_flag this_ahead this_ahead_state this_ahead_state_lacks this_ahead_state_lacks_f this_ahead_state_feels this_ahead_state_feels_f this_ahead_state_date this_ahead_next this_ahead_next_f this_ahead_town this_ahead_weighs this_ahead_rounds this_ahead_flag this_here this_here_names this_here_kinds this_here_kinds_f this_here_begin this_here_law this_here_law_steps this_here_law_steps_f this_here_law_stack this_here_law_stack_f this_here_law_size this_here_persons this_here_mast this_here_weighs this_here_rounds this_here_toldOnce this_townDraft this_told this_yearDraft this_drawn) (some (.int R0.1)) (wd_X11_blame k this this_tape this_history this_seen this_measured this_marks this_standing this_now this_now_state this_now_state_lacks this_now_state_lacks_f this_now_state_feels this_now_state_feels_f this_now_state_date this_now_next this_now_town this_now_weighs this_now_rounds this_now_flag this_ahead this_ahead_state this_ahead_state_lacks R0.2.2.2.2.2.2.1 this_ahead_state_feels R0.2.2.2.2.2.2.2.1 R0.2.2.2.2.2.1 this_ahead_next R0.2.2.2.2.2.2.2.2.1 R0.2.1 R0.2.2.1 R0.2.2.2.1 R0.2.2.2.2.1 this_here this_here_names this_here_kinds this_here_kinds_f this_here_begin this_here_law this_here_law_steps this_here_law_steps_f this_here_law_stack R0.2.2.2.2.2.2.2.2.2 this_here_law_size this_here_persons this_here_mast this_here_weighs this_here_rounds this_here_toldOnce this_townDraft this_told this_yearDraft this_drawn) := by
  refine CW.mk (by decide) (Nat.le_of_ble_eq_true rfl) ?_
  intro p e s m args below meth c ls A ⟨hx, hb, hr, hts, hown, hlocks, hml⟩ hP hG hD hA hl hS hq
  have hl : lv_has ls 5 [(0, .ref this), (1, .int days)] := hl
  have h_19 : ∀ (n : Nat), ∀ (x2 : Int32) (x3 : Int32) (x4 : Int32) (u_this_ahead_town : Value) (u_this_ahead_weighs : Int32) (u_this_ahead_rounds : Int32) (u_this_ahead_flag : Int32) (u_this_ahead_state_date : Int32) (u_this_ahead_state_lacks_f : Nat → Int32) (u_this_ahead_state_feels_f : Nat → Int32) (u_this_ahead_next_f : Nat → Int32) (u_this_here_law_stack_f : Nat → Int32) (H : Heap) (locs : List Loc) (ls : Array Slot), va_P D vwCl (wd_X11_blame k this this_tape this_history this_seen this_measured this_marks this_standing this_now this_now_state this_now_state_lacks this_now_state_lacks_f this_now_state_feels this_now_state_feels_f this_now_state_date this_now_next this_now_town this_now_weighs this_now_rounds this_now_flag this_ahead this_ahead_state this_ahead_state_lacks u_this_ahead_state_lacks_f this_ahead_state_feels u_this_ahead_state_feels_f u_this_ahead_state_date this_ahead_next u_this_ahead_next_f u_this_ahead_town u_this_ahead_weighs u_this_ahead_rounds u_this_ahead_flag this_here this_here_names this_here_kinds this_here_kinds_f this_here_begin this_here_law this_here_law_steps this_here_law_steps_f this_here_law_stack u_this_here_law_stack_f this_here_law_size this_here_persons this_here_mast this_here_weighs this_here_rounds this_here_toldOnce this_townDraft this_told this_yearDraft this_drawn) H → va_D A (wd_X11_blame k this this_tape this_history this_seen this_measured this_marks this_standing this_now this_now_state this_now_state_lacks this_now_state_lacks_f this_now_state_feels this_now_state_feels_f this_now_state_date this_now_next this_now_town this_now_weighs this_now_rounds this_now_flag this_ahead this_ahead_state this_ahead_state_lacks u_this_ahead_state_lacks_f this_ahead_state_feels u_this_ahead_state_feels_f u_this_ahead_state_date this_ahead_next u_this_ahead_next_f u_this_ahead_town u_this_ahead_weighs u_this_ahead_rounds u_this_ahead_flag this_here this_here_names this_here_kinds this_here_kinds_f this_here_begin this_here_law this_here_law_steps this_here_law_steps_f this_here_law_stack u_this_here_law_stack_f this_here_law_size this_here_persons this_here_mast this_here_weighs this_here_rounds this_here_toldOnce this_townDraft this_told this_yearDraft this_drawn) → va_S A s.heap H locs → lv_has ls 5 [(0, .ref this), (1, .int days), (2, .int x2), (3, .int x3), (4, .int x4)] → m_X11_blame_19 this_now_state_lacks_f this_now_state_feels_f this_now_state_date this_here this_here_kinds_f this_here_law_steps_f this_here_law_size this_here_persons this_here_mast this_here_weighs this_here_rounds days n x2 x3 x4 u_this_ahead_town u_this_ahead_weighs u_this_ahead_rounds u_this_ahead_flag u_this_ahead_state_date u_this_ahead_state_lacks_f u_this_ahead_state_feels_f u_this_ahead_next_f u_this_here_law_stack_f = some R0 → W p l e (Rm 6 134) s m args below meth c H locs 0 0 (MQ below (QW D (some (.int R0.1)) (wd_X11_blame k this this_tape this_history this_seen this_measured this_marks this_standing this_now this_now_state this_now_state_lacks this_now_state_lacks_f this_now_state_feels this_now_state_feels_f this_now_state_date this_now_next this_now_town this_now_weighs this_now_rounds this_now_flag this_ahead this_ahead_state this_ahead_state_lacks this_ahead_state_lacks_f this_ahead_state_feels this_ahead_state_feels_f this_ahead_state_date this_ahead_next this_ahead_next_f this_ahead_town this_ahead_weighs this_ahead_rounds this_ahead_flag this_here this_here_names this_here_kinds this_here_kinds_f this_here_begin this_here_law this_here_law_steps this_here_law_steps_f this_here_law_stack this_here_law_stack_f this_here_law_size this_here_persons this_here_mast this_here_weighs this_here_rounds this_here_toldOnce this_townDraft this_told this_yearDraft this_drawn) (wd_X11_blame k this this_tape this_history this_seen this_measured this_marks this_standing this_now this_now_state this_now_state_lacks this_now_state_lacks_f this_now_state_feels this_now_state_feels_f this_now_state_date this_now_next this_now_town this_now_weighs this_now_rounds this_now_flag this_ahead this_ahead_state this_ahead_state_lacks R0.2.2.2.2.2.2.1 this_ahead_state_feels R0.2.2.2.2.2.2.2.1 R0.2.2.2.2.2.1 this_ahead_next R0.2.2.2.2.2.2.2.2.1 R0.2.1 R0.2.2.1 R0.2.2.2.1 R0.2.2.2.2.1 this_here this_here_names this_here_kinds this_here_kinds_f this_here_begin this_here_law this_here_law_steps this_here_law_steps_f this_here_law_stack R0.2.2.2.2.2.2.2.2.2 this_here_law_size this_here_persons this_here_mast this_here_weighs this_here_rounds this_here_toldOnce this_townDraft this_told this_yearDraft this_drawn) s.heap.size) args s 0 0 A) (F0 m 19 ls []) := by
    intro n
    induction n with
    | zero => intro x2 x3 x4 u_this_ahead_town u_this_ahead_weighs u_this_ahead_rounds u_this_ahead_flag u_this_ahead_state_date u_this_ahead_state_lacks_f u_this_ahead_state_feels_f u_this_ahead_next_f u_this_here_law_stack_f H locs ls hP hD hS hl hm; cases hm
    | succ n ih =>
      intro x2 x3 x4 u_this_ahead_town u_this_ahead_weighs u_this_ahead_rounds u_this_ahead_flag u_this_ahead_state_date u_this_ahead_state_lacks_f u_this_ahead_state_feels_f u_this_ahead_next_f u_this_here_law_stack_f H locs ls hP hD hS hl hm
      unfold m_X11_blame_19 at hm
      refine lv_iload (pc := 19) hx hb dX11_blame_19 (lv_at hl 4 rfl) ?_
      refine lv_aload_n (pc := 21) hx hb dX11_blame_21 rfl (lv_at hl 0 rfl) ?_
      refine va_get (pc := 22) (D := D) (ci := 9) (C := RX11) (T := TX11) (N := 13) hx hb hts hiX11 hown hG.1 hP 0 rfl rfl 8 (Nat.le_of_ble_eq_true rfl) (hts _ kw_352) (fun _ h9 => h9) rfl dX11_blame_22 ?_
      refine va_getN (pc := 25) (D := D) (ci := 7) (C := RX8) (T := TX8) (N := 9) hx hb hts hiX8 hown hG.1 hP 10 rfl rfl 4 (Nat.le_of_ble_eq_true rfl) (va_Nw.use rfl (hG.2 _ kn_204)) (fun _ h9 => h9) rfl dX11_blame_25 ?_
      refine lv_icmp_ge (tgt := 94) (pc := 28) hx hb dX11_blame_28 (by decide) (fun hc => ?_) (fun hc => ?_)
      · rw [if_pos hc] at hm
        refine lv_iload_n (pc := 94) hx hb dX11_blame_94 rfl (lv_at hl 3 rfl) ?_
        rw [← Option.some.inj hm]
        exact W.iret hx hb hr (fun t ht _ => hq _ _ H t ht hP hD locs hS) hS.2.2 dX11_blame_95 hlocks
      · rw [if_neg hc] at hm
        refine lv_aload_n (pc := 31) hx hb dX11_blame_31 rfl (lv_at hl 0 rfl) ?_
        refine va_get (pc := 32) (D := D) (ci := 9) (C := RX11) (T := TX11) (N := 13) hx hb hts hiX11 hown hG.1 hP 0 rfl rfl 7 (Nat.le_of_ble_eq_true rfl) (hts _ kw_351) (fun _ h9 => h9) rfl dX11_blame_32 ?_
        refine lv_aload_n (pc := 35) hx hb dX11_blame_35 rfl (lv_at hl 0 rfl) ?_
        refine va_get (pc := 36) (D := D) (ci := 9) (C := RX11) (T := TX11) (N := 13) hx hb hts hiX11 hown hG.1 hP 0 rfl rfl 8 (Nat.le_of_ble_eq_true rfl) (hts _ kw_352) (fun _ h9 => h9) rfl dX11_blame_36 ?_
        refine lv_aload_n (pc := 39) hx hb dX11_blame_39 rfl (lv_at hl 0 rfl) ?_
        refine va_get (pc := 40) (D := D) (ci := 9) (C := RX11) (T := TX11) (N := 13) hx hb hts hiX11 hown hG.1 hP 0 rfl rfl 6 (Nat.le_of_ble_eq_true rfl) (hts _ kw_350) (fun _ h9 => h9) rfl dX11_blame_40 ?_
        refine va_getN (pc := 43) (D := D) (ci := 0) (C := RX1) (T := TX1) (N := 6) hx hb hts hiX1 hown hG.1 hP 1 rfl rfl 0 (Nat.le_of_ble_eq_true rfl) (va_Nw.use rfl (hG.2 _ kn_149)) (fun _ h9 => h9) rfl dX11_blame_43 ?_
        obtain ⟨r5, hcl, hm⟩ := bd hm
        refine cw_maskP (ws' := (wd_X11_blame k this this_tape this_history this_seen this_measured this_marks this_standing this_now this_now_state this_now_state_lacks this_now_state_lacks_f this_now_state_feels this_now_state_feels_f this_now_state_date this_now_next this_now_town this_now_weighs this_now_rounds this_now_flag this_ahead this_ahead_state this_ahead_state_lacks r5.2.2.2.2.1 this_ahead_state_feels r5.2.2.2.2.2 r5.2.2.2.1 this_ahead_next u_this_ahead_next_f (.ref this_here) r5.1 r5.2.1 r5.2.2.1 this_here this_here_names this_here_kinds this_here_kinds_f this_here_begin this_here_law this_here_law_steps this_here_law_steps_f this_here_law_stack u_this_here_law_stack_f this_here_law_size this_here_persons this_here_mast this_here_weighs this_here_rounds this_here_toldOnce this_townDraft this_told this_yearDraft this_drawn)) (run_VN (pc := 46) (n := 2) (As := [.ref this_here, .ref this_now_state]) (rest := []) ⟨hx, hb, hml, hown, hts⟩ ((c_X1_start l D k this_ahead this_ahead_state this_ahead_state_lacks u_this_ahead_state_lacks_f this_ahead_state_feels u_this_ahead_state_feels_f u_this_ahead_state_date this_ahead_next u_this_ahead_town u_this_ahead_weighs u_this_ahead_rounds u_this_ahead_flag this_here this_here_names this_here_kinds this_here_kinds_f this_here_begin this_here_law this_here_persons this_here_mast this_here_weighs this_here_rounds this_here_toldOnce this_now_state this_now_state_lacks this_now_state_lacks_f this_now_state_feels this_now_state_feels_f this_now_state_date r5 hcl) H.size) ⟨kw_307, kw_8, by decide +kernel⟩ hG kn_304 kw_306 ks_5 ⟨Nat.le_of_ble_eq_true rfl, Nat.le_of_ble_eq_true rfl⟩ pw_blind (prW ((P_pick [false, false, true, true, true, true, true, true, true, false, true, true] rfl hP).sub [3, 4, 5, 6, 7, 8, 0, 1, 2] rfl) hG ((D_pick [false, false, true, true, true, true, true, true, true, false, true, true] rfl hD).sub [3, 4, 5, 6, 7, 8, 0, 1, 2] (by decide) rfl)) (va_recv hG.1 hP (ci := 0) (q0 := 5) rfl rfl) rfl hl.1 rfl (Nat.le_of_ble_eq_true rfl) dX11_blame_46 ⟨Nat.zero_le _, Nat.zero_le _⟩) hP hD hS hA [false, false, true, true, true, true, true, true, true, false, true, true] [3, 4, 5, 6, 7, 8, 0, 1, 2] [6, 7, 8, 0, 1, 2, 3, 4, 5] rfl rfl rfl rfl (fun H locs hP hD hS => ?_)
        refine lv_aload_n (pc := 49) hx hb dX11_blame_49 rfl (lv_at hl 0 rfl) ?_
        refine va_get (pc := 50) (D := D) (ci := 9) (C := RX11) (T := TX11) (N := 13) hx hb hts hiX11 hown hG.1 hP 0 rfl rfl 7 (Nat.le_of_ble_eq_true rfl) (hts _ kw_351) (fun _ h9 => h9) rfl dX11_blame_50 ?_
        refine lv_iload (pc := 53) hx hb dX11_blame_53 (lv_at hl 4 rfl) ?_
        obtain ⟨r6, hcl, hm⟩ := bd hm
        refine cw_mask (ws' := (wd_X11_blame k this this_tape this_history this_seen this_measured this_marks this_standing this_now this_now_state this_now_state_lacks this_now_state_lacks_f this_now_state_feels this_now_state_feels_f this_now_state_date this_now_next this_now_town this_now_weighs this_now_rounds this_now_flag this_ahead this_ahead_state this_ahead_state_lacks r6.2 this_ahead_state_feels r5.2.2.2.2.2 r5.2.2.2.1 this_ahead_next u_this_ahead_next_f (.ref this_here) r5.1 r5.2.1 r6.1 this_here this_here_names this_here_kinds this_here_kinds_f this_here_begin this_here_law this_here_law_steps this_here_law_steps_f this_here_law_stack u_this_here_law_stack_f this_here_law_size this_here_persons this_here_mast this_here_weighs this_here_rounds this_here_toldOnce this_townDraft this_told this_yearDraft this_drawn)) (run_VN (pc := 55) (n := 1) (As := [.int x4]) (rest := []) ⟨hx, hb, hml, hown, hts⟩ ((c_X1_letOff l D k this_ahead this_ahead_state this_ahead_state_lacks r5.2.2.2.2.1 this_ahead_state_feels r5.2.2.2.2.2 r5.2.2.2.1 this_ahead_next this_here this_here_names this_here_kinds this_here_kinds_f this_here_begin this_here_law this_here_persons this_here_mast this_here_weighs this_here_rounds this_here_toldOnce r5.1 r5.2.1 r5.2.2.1 x4 r6 hcl) H.size) ⟨kw_792, kw_8, by decide +kernel⟩ hG kn_789 kw_791 ks_59 ⟨Nat.le_of_ble_eq_true rfl, Nat.le_of_ble_eq_true rfl⟩ pw_blind (prW (P_pick [false, false, false, false, false, true, true, true, true, false, true, true] rfl hP) hG (D_pick [false, false, false, false, false, true, true, true, true, false, true, true] rfl hD)) (va_recv hG.1 hP (ci := 0) (q0 := 5) rfl rfl) rfl hl.1 rfl (Nat.le_of_ble_eq_true rfl) dX11_blame_55 ⟨Nat.zero_le _, Nat.zero_le _⟩) hP hD hS hA [false, false, false, false, false, true, true, true, true, false, true, true] rfl rfl rfl (fun H locs hP hD hS => ?_)
        refine lv_aload_n (pc := 58) hx hb dX11_blame_58 rfl (lv_at hl 0 rfl) ?_
        refine va_get (pc := 59) (D := D) (ci := 9) (C := RX11) (T := TX11) (N := 13) hx hb hts hiX11 hown hG.1 hP 0 rfl rfl 7 (Nat.le_of_ble_eq_true rfl) (hts _ kw_351) (fun _ h9 => h9) rfl dX11_blame_59 ?_
        refine lv_iload_n (pc := 62) hx hb dX11_blame_62 rfl (lv_at hl 1 rfl) ?_
        obtain ⟨r7, hcl, hm⟩ := bd hm
        refine cw_mask (ws' := (wd_X11_blame k this this_tape this_history this_seen this_measured this_marks this_standing this_now this_now_state this_now_state_lacks this_now_state_lacks_f this_now_state_feels this_now_state_feels_f this_now_state_date this_now_next this_now_town this_now_weighs this_now_rounds this_now_flag this_ahead this_ahead_state this_ahead_state_lacks r7.2.2.1 this_ahead_state_feels r5.2.2.2.2.2 r7.2.1 this_ahead_next r7.2.2.2.1 (.ref this_here) r5.1 r5.2.1 r7.1 this_here this_here_names this_here_kinds this_here_kinds_f this_here_begin this_here_law this_here_law_steps this_here_law_steps_f this_here_law_stack r7.2.2.2.2 this_here_law_size this_here_persons this_here_mast this_here_weighs this_here_rounds this_here_toldOnce this_townDraft this_told this_yearDraft this_drawn)) (run_VN (pc := 63) (n := 1) (As := [.int days]) (rest := []) ⟨hx, hb, hml, hown, hts⟩ ((c_X1_passDays l D k this_ahead this_ahead_state this_ahead_state_lacks r6.2 this_ahead_state_feels r5.2.2.2.2.2 r5.2.2.2.1 this_ahead_next u_this_ahead_next_f this_here this_here_names this_here_kinds this_here_kinds_f this_here_begin this_here_law this_here_law_steps this_here_law_steps_f this_here_law_stack u_this_here_law_stack_f this_here_law_size this_here_persons this_here_mast this_here_weighs this_here_rounds this_here_toldOnce r5.1 r5.2.1 r6.1 days r7 hcl) H.size) ⟨kw_852, kw_8, by decide +kernel⟩ hG kn_849 kw_851 ks_66 ⟨Nat.le_of_ble_eq_true rfl, Nat.le_of_ble_eq_true rfl⟩ pw_blind (prW (P_pick [false, false, false, false, false, true, true, true, true, true, true, true, true, true, true] rfl hP) hG (D_pick [false, false, false, false, false, true, true, true, true, true, true, true, true, true, true] rfl hD)) (va_recv hG.1 hP (ci := 0) (q0 := 5) rfl rfl) rfl hl.1 rfl (Nat.le_of_ble_eq_true rfl) dX11_blame_63 ⟨Nat.zero_le _, Nat.zero_le _⟩) hP hD hS hA [false, false, false, false, false, true, true, true, true, true, true, true, true, true, true] rfl rfl rfl (fun H locs hP hD hS => ?_)
        refine lv_aload_n (pc := 66) hx hb dX11_blame_66 rfl (lv_at hl 0 rfl) ?_
        refine va_get (pc := 67) (D := D) (ci := 9) (C := RX11) (T := TX11) (N := 13) hx hb hts hiX11 hown hG.1 hP 0 rfl rfl 7 (Nat.le_of_ble_eq_true rfl) (hts _ kw_351) (fun _ h9 => h9) rfl dX11_blame_67 ?_
        refine va_getN (pc := 70) (D := D) (ci := 0) (C := RX1) (T := TX1) (N := 6) hx hb hts hiX1 hown hG.1 hP 5 rfl rfl 5 (Nat.le_of_ble_eq_true rfl) (va_Nw.use rfl (hG.2 _ kn_156)) (fun _ h9 => h9) rfl dX11_blame_70 ?_
        refine lv_iload_n (pc := 73) hx hb dX11_blame_73 rfl (lv_at hl 2 rfl) ?_
        refine lv_icmp_le (tgt := 88) (pc := 74) hx hb dX11_blame_74 (by decide) (fun hc => ?_) (fun hc => ?_)
        · rw [if_pos hc] at hm
          refine lv_iinc (k := 4) (v := x4 + 1) (lv' := [(4, .int (x4 + 1)), (0, .ref this), (1, .int days), (2, .int x2), (3, .int x3)]) (pc := 88) hx hb dX11_blame_88 hl rfl rfl (Nat.le_of_ble_eq_true rfl) rfl (fun ls hl => ?_)
          refine lv_goto (tgt := 19) (pc := 91) hx hb dX11_blame_91 (by decide) ?_
          exact ih x2 x3 (x4 + 1) (.ref this_here) r5.1 r5.2.1 r7.1 r7.2.1 r7.2.2.1 r5.2.2.2.2.2 r7.2.2.2.1 r7.2.2.2.2 H locs ls hP hD hS (lv_sub hl [1, 2, 3, 4, 0] rfl) hm
        · rw [if_neg hc] at hm
          refine lv_aload_n (pc := 77) hx hb dX11_blame_77 rfl (lv_at hl 0 rfl) ?_
          refine va_get (pc := 78) (D := D) (ci := 9) (C := RX11) (T := TX11) (N := 13) hx hb hts hiX11 hown hG.1 hP 0 rfl rfl 7 (Nat.le_of_ble_eq_true rfl) (hts _ kw_351) (fun _ h9 => h9) rfl dX11_blame_78 ?_
          refine va_getN (pc := 81) (D := D) (ci := 0) (C := RX1) (T := TX1) (N := 6) hx hb hts hiX1 hown hG.1 hP 5 rfl rfl 5 (Nat.le_of_ble_eq_true rfl) (va_Nw.use rfl (hG.2 _ kn_156)) (fun _ h9 => h9) rfl dX11_blame_81 ?_
          refine lv_istore_n (lv' := [(2, .int r7.1), (0, .ref this), (1, .int days), (3, .int x3), (4, .int x4)]) (pc := 84) hx hb dX11_blame_84 rfl hl (Nat.le_of_ble_eq_true rfl) rfl (fun ls hl => ?_)
          refine lv_iload (pc := 85) hx hb dX11_blame_85 (lv_at hl 4 rfl) ?_
          refine lv_istore_n (lv' := [(3, .int x4), (2, .int r7.1), (0, .ref this), (1, .int days), (4, .int x4)]) (pc := 87) hx hb dX11_blame_87 rfl hl (Nat.le_of_ble_eq_true rfl) rfl (fun ls hl => ?_)
          refine lv_iinc (k := 4) (v := x4 + 1) (lv' := [(4, .int (x4 + 1)), (3, .int x4), (2, .int r7.1), (0, .ref this), (1, .int days)]) (pc := 88) hx hb dX11_blame_88 hl rfl rfl (Nat.le_of_ble_eq_true rfl) rfl (fun ls hl => ?_)
          refine lv_goto (tgt := 19) (pc := 91) hx hb dX11_blame_91 (by decide) ?_
          exact ih r7.1 x4 (x4 + 1) (.ref this_here) r5.1 r5.2.1 r7.1 r7.2.1 r7.2.2.1 r5.2.2.2.2.2 r7.2.2.2.1 r7.2.2.2.2 H locs ls hP hD hS (lv_sub hl [3, 4, 2, 1, 0] rfl) hm
  unfold m_X11_blame at hm
  suffices hgo : ∀ (H : Heap) (locs : List Loc), va_P D vwCl (wd_X11_blame k this this_tape this_history this_seen this_measured this_marks this_standing this_now this_now_state this_now_state_lacks this_now_state_lacks_f this_now_state_feels this_now_state_feels_f this_now_state_date this_now_next this_now_town this_now_weighs this_now_rounds this_now_flag this_ahead this_ahead_state this_ahead_state_lacks this_ahead_state_lacks_f this_ahead_state_feels this_ahead_state_feels_f this_ahead_state_date this_ahead_next this_ahead_next_f this_ahead_town this_ahead_weighs this_ahead_rounds this_ahead_flag this_here this_here_names this_here_kinds this_here_kinds_f this_here_begin this_here_law this_here_law_steps this_here_law_steps_f this_here_law_stack this_here_law_stack_f this_here_law_size this_here_persons this_here_mast this_here_weighs this_here_rounds this_here_toldOnce this_townDraft this_told this_yearDraft this_drawn) H → va_D A (wd_X11_blame k this this_tape this_history this_seen this_measured this_marks this_standing this_now this_now_state this_now_state_lacks this_now_state_lacks_f this_now_state_feels this_now_state_feels_f this_now_state_date this_now_next this_now_town this_now_weighs this_now_rounds this_now_flag this_ahead this_ahead_state this_ahead_state_lacks this_ahead_state_lacks_f this_ahead_state_feels this_ahead_state_feels_f this_ahead_state_date this_ahead_next this_ahead_next_f this_ahead_town this_ahead_weighs this_ahead_rounds this_ahead_flag this_here this_here_names this_here_kinds this_here_kinds_f this_here_begin this_here_law this_here_law_steps this_here_law_steps_f this_here_law_stack this_here_law_stack_f this_here_law_size this_here_persons this_here_mast this_here_weighs this_here_rounds this_here_toldOnce this_townDraft this_told this_yearDraft this_drawn) → va_S A s.heap H locs → W p l e (Rm 6 134) s m args below meth c H locs 0 0 (MQ below (QW D (some (.int R0.1)) (wd_X11_blame k this this_tape this_history this_seen this_measured this_marks this_standing this_now this_now_state this_now_state_lacks this_now_state_lacks_f this_now_state_feels this_now_state_feels_f this_now_state_date this_now_next this_now_town this_now_weighs this_now_rounds this_now_flag this_ahead this_ahead_state this_ahead_state_lacks this_ahead_state_lacks_f this_ahead_state_feels this_ahead_state_feels_f this_ahead_state_date this_ahead_next this_ahead_next_f this_ahead_town this_ahead_weighs this_ahead_rounds this_ahead_flag this_here this_here_names this_here_kinds this_here_kinds_f this_here_begin this_here_law this_here_law_steps this_here_law_steps_f this_here_law_stack this_here_law_stack_f this_here_law_size this_here_persons this_here_mast this_here_weighs this_here_rounds this_here_toldOnce this_townDraft this_told this_yearDraft this_drawn) (wd_X11_blame k this this_tape this_history this_seen this_measured this_marks this_standing this_now this_now_state this_now_state_lacks this_now_state_lacks_f this_now_state_feels this_now_state_feels_f this_now_state_date this_now_next this_now_town this_now_weighs this_now_rounds this_now_flag this_ahead this_ahead_state this_ahead_state_lacks R0.2.2.2.2.2.2.1 this_ahead_state_feels R0.2.2.2.2.2.2.2.1 R0.2.2.2.2.2.1 this_ahead_next R0.2.2.2.2.2.2.2.2.1 R0.2.1 R0.2.2.1 R0.2.2.2.1 R0.2.2.2.2.1 this_here this_here_names this_here_kinds this_here_kinds_f this_here_begin this_here_law this_here_law_steps this_here_law_steps_f this_here_law_stack R0.2.2.2.2.2.2.2.2.2 this_here_law_size this_here_persons this_here_mast this_here_weighs this_here_rounds this_here_toldOnce this_townDraft this_told this_yearDraft this_drawn) s.heap.size) args s 0 0 A) (F0 m 0 ls []) from hgo _ _ hP hD hS
  clear hP hD hS
  intro H locs hP hD hS
  refine lv_iload_n (pc := 0) hx hb dX11_blame_0 rfl (lv_at hl 1 rfl) ?_
  refine lv_iconst (v := 0) (pc := 1) hx hb dX11_blame_1 (by decide) ?_
  refine lv_bipush (v := 20) (pc := 2) hx hb dX11_blame_2 (by decide) ?_
  obtain ⟨r8, hcl, hm⟩ := bd hm
  refine cr_back (run_S (pc := 4) (n := 3) (As := [.int days, .int 0, .int 20]) (rest := []) ⟨hx, hb, hml, hown, hts⟩ (c_X11_within l D k days 0 20 r8 hcl) ⟨kw_394, kw_1, by decide +kernel⟩ kw_759 kw_393 ⟨Nat.le_of_ble_eq_true rfl, Nat.le_of_ble_eq_true rfl⟩ pr_blind (prR (hP.sub [] rfl) hG) rfl hl.1 rfl (Nat.le_of_ble_eq_true rfl) dX11_blame_4 ⟨Nat.zero_le _, Nat.zero_le _⟩) ?_
  refine lv_if_ne (tgt := 12) (pc := 7) hx hb dX11_blame_7 (by decide) (fun hc => ?_) (fun hc => ?_)
  · rw [if_neg hc] at hm
    refine lv_iconst (v := (-1)) (pc := 12) hx hb dX11_blame_12 (by decide) ?_
    refine lv_istore_n (lv' := [(2, .int (-1)), (0, .ref this), (1, .int days)]) (pc := 13) hx hb dX11_blame_13 rfl hl (Nat.le_of_ble_eq_true rfl) rfl (fun ls hl => ?_)
    refine lv_iconst (v := (-1)) (pc := 14) hx hb dX11_blame_14 (by decide) ?_
    refine lv_istore_n (lv' := [(3, .int (-1)), (2, .int (-1)), (0, .ref this), (1, .int days)]) (pc := 15) hx hb dX11_blame_15 rfl hl (Nat.le_of_ble_eq_true rfl) rfl (fun ls hl => ?_)
    refine lv_iconst (v := 0) (pc := 16) hx hb dX11_blame_16 (by decide) ?_
    refine lv_istore (lv' := [(4, .int 0), (3, .int (-1)), (2, .int (-1)), (0, .ref this), (1, .int days)]) (pc := 17) hx hb dX11_blame_17 hl (Nat.le_of_ble_eq_true rfl) rfl (fun ls hl => ?_)
    exact h_19 FU (-1) (-1) 0 this_ahead_town this_ahead_weighs this_ahead_rounds this_ahead_flag this_ahead_state_date this_ahead_state_lacks_f this_ahead_state_feels_f this_ahead_next_f this_here_law_stack_f H locs ls hP hD hS (lv_sub hl [3, 4, 2, 1, 0] rfl) hm
  · rw [if_pos hc] at hm
    refine lv_iconst (v := (-1)) (pc := 10) hx hb dX11_blame_10 (by decide) ?_
    rw [← Option.some.inj hm]
    exact W.iret hx hb hr (fun t ht _ => hq _ _ H t ht hP hD locs hS) hS.2.2 dX11_blame_11 hlocks
theorem dX11_flagWithout_0 : decode cX11_flagWithout 0 = .ok (.iconst 0, 1) := by decide +kernel
theorem dX11_flagWithout_1 : decode cX11_flagWithout 1 = .ok (.istore_n 2, 1) := by decide +kernel
theorem dX11_flagWithout_2 : decode cX11_flagWithout 2 = .ok (.iconst 0, 1) := by decide +kernel
theorem dX11_flagWithout_3 : decode cX11_flagWithout 3 = .ok (.istore_n 3, 1) := by decide +kernel
theorem dX11_flagWithout_4 : decode cX11_flagWithout 4 = .ok (.iload_n 3, 1) := by decide +kernel
theorem dX11_flagWithout_5 : decode cX11_flagWithout 5 = .ok (.aload_n 0, 1) := by decide +kernel
theorem dX11_flagWithout_6 : decode cX11_flagWithout 6 = .ok (.getfield 56, 3) := by decide +kernel
theorem dX11_flagWithout_9 : decode cX11_flagWithout 9 = .ok (.getfield 197, 3) := by decide +kernel
theorem dX11_flagWithout_12 : decode cX11_flagWithout 12 = .ok (.if_icmp .ge 36, 3) := by decide +kernel
theorem dX11_flagWithout_15 : decode cX11_flagWithout 15 = .ok (.iload_n 1, 1) := by decide +kernel
theorem dX11_flagWithout_16 : decode cX11_flagWithout 16 = .ok (.iload_n 3, 1) := by decide +kernel
theorem dX11_flagWithout_17 : decode cX11_flagWithout 17 = .ok (.invokestatic 208, 3) := by decide +kernel
theorem dX11_flagWithout_20 : decode cX11_flagWithout 20 = .ok (.ifCond .ne 22, 3) := by decide +kernel
theorem dX11_flagWithout_23 : decode cX11_flagWithout 23 = .ok (.iload_n 2, 1) := by decide +kernel
theorem dX11_flagWithout_24 : decode cX11_flagWithout 24 = .ok (.aload_n 0, 1) := by decide +kernel
theorem dX11_flagWithout_25 : decode cX11_flagWithout 25 = .ok (.getfield 56, 3) := by decide +kernel
theorem dX11_flagWithout_28 : decode cX11_flagWithout 28 = .ok (.iload_n 3, 1) := by decide +kernel
theorem dX11_flagWithout_29 : decode cX11_flagWithout 29 = .ok (.aload_n 0, 1) := by decide +kernel
theorem dX11_flagWithout_30 : decode cX11_flagWithout 30 = .ok (.getfield 46, 3) := by decide +kernel
theorem dX11_flagWithout_33 : decode cX11_flagWithout 33 = .ok (.iload_n 3, 1) := by decide +kernel
theorem dX11_flagWithout_34 : decode cX11_flagWithout 34 = .ok (.invokevirtual 128, 3) := by decide +kernel
theorem dX11_flagWithout_37 : decode cX11_flagWithout 37 = .ok (.invokevirtual 132, 3) := by decide +kernel
theorem dX11_flagWithout_40 : decode cX11_flagWithout 40 = .ok (.iadd, 1) := by decide +kernel
theorem dX11_flagWithout_41 : decode cX11_flagWithout 41 = .ok (.istore_n 2, 1) := by decide +kernel
theorem dX11_flagWithout_42 : decode cX11_flagWithout 42 = .ok (.iinc 3 1, 3) := by decide +kernel
theorem dX11_flagWithout_45 : decode cX11_flagWithout 45 = .ok (.goto (-41), 3) := by decide +kernel
theorem dX11_flagWithout_48 : decode cX11_flagWithout 48 = .ok (.aload_n 0, 1) := by decide +kernel
theorem dX11_flagWithout_49 : decode cX11_flagWithout 49 = .ok (.getfield 56, 3) := by decide +kernel
theorem dX11_flagWithout_52 : decode cX11_flagWithout 52 = .ok (.iload_n 2, 1) := by decide +kernel
theorem dX11_flagWithout_53 : decode cX11_flagWithout 53 = .ok (.invokevirtual 212, 3) := by decide +kernel
theorem dX11_flagWithout_56 : decode cX11_flagWithout 56 = .ok (.ireturn, 1) := by decide +kernel
abbrev wd_X11_flagWithout (k : Nat → ClassId) (this : Nat) (this_tape : Nat) (this_history : Nat) (this_seen : Nat) (this_measured : Nat) (this_marks : Nat) (this_standing : Nat) (this_now : Nat) (this_now_state : Nat) (this_now_state_lacks : Nat) (this_now_state_lacks_f : Nat → Int32) (this_now_state_feels : Nat) (this_now_state_feels_f : Nat → Int32) (this_now_state_date : Int32) (this_now_next : Nat) (this_now_town : Nat) (this_now_weighs : Int32) (this_now_rounds : Int32) (this_now_flag : Int32) (this_ahead : Nat) (this_here : Nat) (this_here_names : Nat) (this_here_kinds : Nat) (this_here_kinds_f : Nat → Int32) (this_here_begin : Nat) (this_here_law : Nat) (this_here_persons : Int32) (this_here_mast : Int32) (this_here_weighs : Int32) (this_here_rounds : Int32) (this_here_toldOnce : Int32) (this_townDraft : Nat) (this_told : Nat) (this_yearDraft : Nat) (this_drawn : Int64) : va_W := [(this, .inr (9, [.ref this_tape, .ref this_history, .ref this_seen, .ref this_measured, .ref this_marks, .ref this_standing, .ref this_now, .ref this_ahead, .ref this_here, .ref this_townDraft, .ref this_told, .ref this_yearDraft, .long this_drawn])), (this_now, .inr (0, [.ref this_now_state, .ref this_now_next, .ref this_now_town, .int this_now_weighs, .int this_now_rounds, .int this_now_flag])), (this_now_state, .inr (5, [.ref this_now_state_lacks, .ref this_now_state_feels, .int this_now_state_date])), (this_now_state_lacks, .inl (k 0, 6, .inl this_now_state_lacks_f)), (this_now_state_feels, .inl (k 0, 6, .inl this_now_state_feels_f)), (this_here, .inr (7, [.ref this_here_names, .ref this_here_kinds, .ref this_here_begin, .ref this_here_law, .int this_here_persons, .int this_here_mast, .int this_here_weighs, .int this_here_rounds, .int this_here_toldOnce])), (this_here_kinds, .inl (k 0, 6, .inl this_here_kinds_f))]
set_option maxHeartbeats 4000000 in
set_option maxRecDepth 100000 in
theorem c_X11_flagWithout (l : Launch) (D : va_G) (k : Nat → ClassId) (this : Nat) (this_tape : Nat) (this_history : Nat) (this_seen : Nat) (this_measured : Nat) (this_marks : Nat) (this_standing : Nat) (this_now : Nat) (this_now_state : Nat) (this_now_state_lacks : Nat) (this_now_state_lacks_f : Nat → Int32) (this_now_state_feels : Nat) (this_now_state_feels_f : Nat → Int32) (this_now_state_date : Int32) (this_now_next : Nat) (this_now_town : Nat) (this_now_weighs : Int32) (this_now_rounds : Int32) (this_now_flag : Int32) (this_ahead : Nat) (this_here : Nat) (this_here_names : Nat) (this_here_kinds : Nat) (this_here_kinds_f : Nat → Int32) (this_here_begin : Nat) (this_here_law : Nat) (this_here_persons : Int32) (this_here_mast : Int32) (this_here_weighs : Int32) (this_here_rounds : Int32) (this_here_toldOnce : Int32) (this_townDraft : Nat) (this_told : Nat) (this_yearDraft : Nat) (this_drawn : Int64) (set : Int32) (R0 : Int32) (hm : m_X11_flagWithout this_now_state_lacks_f this_here_kinds_f this_here_persons this_here_mast this_here_weighs this_here_rounds set = some R0) : CR l D (TY k) yX11_flagWithout cX11_flagWithout 4 (some .int) 3 66 [.ref this, .int set] (wd_X11_flagWithout k this this_tape this_history this_seen this_measured this_marks this_standing this_now this_now_state this_now_state_lacks this_now_state_lacks_f this_now_state_feels this_now_state_feels_f this_now_state_date this_now_next this_now_town this_now_weighs this_now_rounds this_now_flag this_ahead this_here this_here_names this_here_kinds this_here_kinds_f this_here_begin this_here_law this_here_persons this_here_mast this_here_weighs this_here_rounds this_here_toldOnce this_townDraft this_told this_yearDraft this_drawn) (some (.int R0)) := by
  refine CR.mk (by decide) (Nat.le_of_ble_eq_true rfl) ?_
  intro p e s m args below meth c ls ⟨hx, hb, hr, hts, hown, hlocks, hml⟩ hP hG hl
  have hl : lv_has ls 4 [(0, .ref this), (1, .int set)] := hl
  have h_4 : ∀ (n : Nat), ∀ (x2 : Int32) (x3 : Int32) (ls : Array Slot), lv_has ls 4 [(0, .ref this), (1, .int set), (2, .int x2), (3, .int x3)] → m_X11_flagWithout_4 this_now_state_lacks_f this_here_kinds_f this_here_persons this_here_mast this_here_weighs this_here_rounds set n x2 x3 = some R0 → W p l e (Rm 3 66) s m args below meth c s.heap [] 0 0 (MQ below (QR (some (.int R0))) args s 0 0 (fun _ => False)) (F0 m 4 ls []) := by
    intro n
    induction n with
    | zero => intro x2 x3 ls hl hm; cases hm
    | succ n ih =>
      intro x2 x3 ls hl hm
      unfold m_X11_flagWithout_4 at hm
      refine lv_iload_n (pc := 4) hx hb dX11_flagWithout_4 rfl (lv_at hl 3 rfl) ?_
      refine lv_aload_n (pc := 5) hx hb dX11_flagWithout_5 rfl (lv_at hl 0 rfl) ?_
      refine va_get (pc := 6) (D := D) (ci := 9) (C := RX11) (T := TX11) (N := 13) hx hb hts hiX11 hown hG.1 hP 0 rfl rfl 8 (Nat.le_of_ble_eq_true rfl) (hts _ kw_352) (fun _ h9 => h9) rfl dX11_flagWithout_6 ?_
      refine va_getN (pc := 9) (D := D) (ci := 7) (C := RX8) (T := TX8) (N := 9) hx hb hts hiX8 hown hG.1 hP 5 rfl rfl 4 (Nat.le_of_ble_eq_true rfl) (va_Nw.use rfl (hG.2 _ kn_204)) (fun _ h9 => h9) rfl dX11_flagWithout_9 ?_
      refine lv_icmp_ge (tgt := 48) (pc := 12) hx hb dX11_flagWithout_12 (by decide) (fun hc => ?_) (fun hc => ?_)
      · rw [if_pos hc] at hm
        refine lv_aload_n (pc := 48) hx hb dX11_flagWithout_48 rfl (lv_at hl 0 rfl) ?_
        refine va_get (pc := 49) (D := D) (ci := 9) (C := RX11) (T := TX11) (N := 13) hx hb hts hiX11 hown hG.1 hP 0 rfl rfl 8 (Nat.le_of_ble_eq_true rfl) (hts _ kw_352) (fun _ h9 => h9) rfl dX11_flagWithout_49 ?_
        refine lv_iload_n (pc := 52) hx hb dX11_flagWithout_52 rfl (lv_at hl 2 rfl) ?_
        obtain ⟨r5, hcl, hm⟩ := bd hm
        refine cr_back (run_VN (pc := 53) (n := 1) (As := [.int x2]) (rest := []) ⟨hx, hb, hml, hown, hts⟩ (c_X8_flagBy l D k this_here this_here_names this_here_kinds this_here_begin this_here_law this_here_persons this_here_mast this_here_weighs this_here_rounds this_here_toldOnce x2 r5 hcl) ⟨kw_915, kw_9, by decide +kernel⟩ hG kn_912 kw_914 ks_69 ⟨Nat.le_of_ble_eq_true rfl, Nat.le_of_ble_eq_true rfl⟩ pr_blind (prR (hP.sub [5] rfl) hG) (va_recv hG.1 hP (ci := 7) (q0 := 5) rfl rfl) rfl hl.1 rfl (Nat.le_of_ble_eq_true rfl) dX11_flagWithout_53 ⟨Nat.zero_le _, Nat.zero_le _⟩) ?_
        rw [← Option.some.inj hm]
        exact W.iret hx hb hr (fun t ht _ => ⟨rfl, ht⟩) (fun _ h => by cases h) dX11_flagWithout_56 hlocks
      · rw [if_neg hc] at hm
        refine lv_iload_n (pc := 15) hx hb dX11_flagWithout_15 rfl (lv_at hl 1 rfl) ?_
        refine lv_iload_n (pc := 16) hx hb dX11_flagWithout_16 rfl (lv_at hl 3 rfl) ?_
        obtain ⟨r6, hcl, hm⟩ := bd hm
        refine cr_back (run_S (pc := 17) (n := 2) (As := [.int set, .int x3]) (rest := []) ⟨hx, hb, hml, hown, hts⟩ (c_X11_holds l D k set x3 r6 hcl) ⟨kw_604, kw_1, by decide +kernel⟩ kw_911 kw_603 ⟨Nat.le_of_ble_eq_true rfl, Nat.le_of_ble_eq_true rfl⟩ pr_blind (prR (hP.sub [] rfl) hG) rfl hl.1 rfl (Nat.le_of_ble_eq_true rfl) dX11_flagWithout_17 ⟨Nat.zero_le _, Nat.zero_le _⟩) ?_
        refine lv_if_ne (tgt := 42) (pc := 20) hx hb dX11_flagWithout_20 (by decide) (fun hc => ?_) (fun hc => ?_)
        · rw [if_neg hc] at hm
          refine lv_iinc (k := 3) (v := x3 + 1) (lv' := [(3, .int (x3 + 1)), (0, .ref this), (1, .int set), (2, .int x2)]) (pc := 42) hx hb dX11_flagWithout_42 hl rfl rfl (Nat.le_of_ble_eq_true rfl) rfl (fun ls hl => ?_)
          refine lv_goto (tgt := 4) (pc := 45) hx hb dX11_flagWithout_45 (by decide) ?_
          exact ih x2 (x3 + 1) ls (lv_sub hl [1, 2, 3, 0] rfl) hm
        · rw [if_pos hc] at hm
          refine lv_iload_n (pc := 23) hx hb dX11_flagWithout_23 rfl (lv_at hl 2 rfl) ?_
          refine lv_aload_n (pc := 24) hx hb dX11_flagWithout_24 rfl (lv_at hl 0 rfl) ?_
          refine va_get (pc := 25) (D := D) (ci := 9) (C := RX11) (T := TX11) (N := 13) hx hb hts hiX11 hown hG.1 hP 0 rfl rfl 8 (Nat.le_of_ble_eq_true rfl) (hts _ kw_352) (fun _ h9 => h9) rfl dX11_flagWithout_25 ?_
          refine lv_iload_n (pc := 28) hx hb dX11_flagWithout_28 rfl (lv_at hl 3 rfl) ?_
          refine lv_aload_n (pc := 29) hx hb dX11_flagWithout_29 rfl (lv_at hl 0 rfl) ?_
          refine va_get (pc := 30) (D := D) (ci := 9) (C := RX11) (T := TX11) (N := 13) hx hb hts hiX11 hown hG.1 hP 0 rfl rfl 6 (Nat.le_of_ble_eq_true rfl) (hts _ kw_350) (fun _ h9 => h9) rfl dX11_flagWithout_30 ?_
          refine lv_iload_n (pc := 33) hx hb dX11_flagWithout_33 rfl (lv_at hl 3 rfl) ?_
          obtain ⟨r7, hcl, hm⟩ := bd hm
          refine cr_back (run_VN (pc := 34) (n := 1) (As := [.int x3]) (rest := [.int x3, .ref this_here, .int x2]) ⟨hx, hb, hml, hown, hts⟩ (c_X1_lacking l D k this_now this_now_state this_now_state_lacks this_now_state_lacks_f this_now_state_feels this_now_state_date this_now_next this_now_town this_now_weighs this_now_rounds this_now_flag x3 r7 hcl) ⟨kw_748, kw_8, by decide +kernel⟩ hG kn_745 kw_747 ks_54 ⟨Nat.le_of_ble_eq_true rfl, Nat.le_of_ble_eq_true rfl⟩ pr_blind (prR (hP.sub [1, 2, 3] rfl) hG) (va_recv hG.1 hP (ci := 0) (q0 := 1) rfl rfl) rfl hl.1 rfl (Nat.le_of_ble_eq_true rfl) dX11_flagWithout_34 ⟨Nat.zero_le _, Nat.zero_le _⟩) ?_
          obtain ⟨r8, hcl, hm⟩ := bd hm
          refine cr_back (run_VN (pc := 37) (n := 2) (As := [.int x3, .int r7]) (rest := [.int x2]) ⟨hx, hb, hml, hown, hts⟩ (c_X8_weight l D k this_here this_here_names this_here_kinds this_here_kinds_f this_here_begin this_here_law this_here_persons this_here_mast this_here_weighs this_here_rounds this_here_toldOnce x3 r7 r8 hcl) ⟨kw_333, kw_9, by decide +kernel⟩ hG kn_750 kw_332 ks_10 ⟨Nat.le_of_ble_eq_true rfl, Nat.le_of_ble_eq_true rfl⟩ pr_blind (prR (hP.sub [5, 6] rfl) hG) (va_recv hG.1 hP (ci := 7) (q0 := 5) rfl rfl) rfl hl.1 rfl (Nat.le_of_ble_eq_true rfl) dX11_flagWithout_37 ⟨Nat.zero_le _, Nat.zero_le _⟩) ?_
          refine lv_iadd (pc := 40) hx hb dX11_flagWithout_40 ?_
          refine lv_istore_n (lv' := [(2, .int (x2 + r8)), (0, .ref this), (1, .int set), (3, .int x3)]) (pc := 41) hx hb dX11_flagWithout_41 rfl hl (Nat.le_of_ble_eq_true rfl) rfl (fun ls hl => ?_)
          refine lv_iinc (k := 3) (v := x3 + 1) (lv' := [(3, .int (x3 + 1)), (2, .int (x2 + r8)), (0, .ref this), (1, .int set)]) (pc := 42) hx hb dX11_flagWithout_42 hl rfl rfl (Nat.le_of_ble_eq_true rfl) rfl (fun ls hl => ?_)
          refine lv_goto (tgt := 4) (pc := 45) hx hb dX11_flagWithout_45 (by decide) ?_
          exact ih (x2 + r8) (x3 + 1) ls (lv_sub hl [2, 3, 1, 0] rfl) hm
  unfold m_X11_flagWithout at hm
  refine lv_iconst (v := 0) (pc := 0) hx hb dX11_flagWithout_0 (by decide) ?_
  refine lv_istore_n (lv' := [(2, .int 0), (0, .ref this), (1, .int set)]) (pc := 1) hx hb dX11_flagWithout_1 rfl hl (Nat.le_of_ble_eq_true rfl) rfl (fun ls hl => ?_)
  refine lv_iconst (v := 0) (pc := 2) hx hb dX11_flagWithout_2 (by decide) ?_
  refine lv_istore_n (lv' := [(3, .int 0), (2, .int 0), (0, .ref this), (1, .int set)]) (pc := 3) hx hb dX11_flagWithout_3 rfl hl (Nat.le_of_ble_eq_true rfl) rfl (fun ls hl => ?_)
  exact h_4 FU 0 0 ls (lv_sub hl [2, 3, 1, 0] rfl) hm
theorem dX11_spared_0 : decode cX11_spared 0 = .ok (.iload_n 1, 1) := by decide +kernel
theorem dX11_spared_1 : decode cX11_spared 1 = .ok (.iconst 1, 1) := by decide +kernel
theorem dX11_spared_2 : decode cX11_spared 2 = .ok (.bipush 99, 2) := by decide +kernel
theorem dX11_spared_4 : decode cX11_spared 4 = .ok (.invokestatic 148, 3) := by decide +kernel
theorem dX11_spared_7 : decode cX11_spared 7 = .ok (.ifCond .ne 5, 3) := by decide +kernel
theorem dX11_spared_10 : decode cX11_spared 10 = .ok (.iconst (-1), 1) := by decide +kernel
theorem dX11_spared_11 : decode cX11_spared 11 = .ok (.ireturn, 1) := by decide +kernel
theorem dX11_spared_12 : decode cX11_spared 12 = .ok (.iconst (-1), 1) := by decide +kernel
theorem dX11_spared_13 : decode cX11_spared 13 = .ok (.istore_n 2, 1) := by decide +kernel
theorem dX11_spared_14 : decode cX11_spared 14 = .ok (.iconst 0, 1) := by decide +kernel
theorem dX11_spared_15 : decode cX11_spared 15 = .ok (.istore_n 3, 1) := by decide +kernel
theorem dX11_spared_16 : decode cX11_spared 16 = .ok (.iload_n 3, 1) := by decide +kernel
theorem dX11_spared_17 : decode cX11_spared 17 = .ok (.iconst 1, 1) := by decide +kernel
theorem dX11_spared_18 : decode cX11_spared 18 = .ok (.aload_n 0, 1) := by decide +kernel
theorem dX11_spared_19 : decode cX11_spared 19 = .ok (.getfield 56, 3) := by decide +kernel
theorem dX11_spared_22 : decode cX11_spared 22 = .ok (.getfield 197, 3) := by decide +kernel
theorem dX11_spared_25 : decode cX11_spared 25 = .ok (.ishl, 1) := by decide +kernel
theorem dX11_spared_26 : decode cX11_spared 26 = .ok (.if_icmp .ge 48, 3) := by decide +kernel
theorem dX11_spared_29 : decode cX11_spared 29 = .ok (.iload_n 2, 1) := by decide +kernel
theorem dX11_spared_30 : decode cX11_spared 30 = .ok (.iconst (-1), 1) := by decide +kernel
theorem dX11_spared_31 : decode cX11_spared 31 = .ok (.if_icmp .eq 14, 3) := by decide +kernel
theorem dX11_spared_34 : decode cX11_spared 34 = .ok (.iload_n 3, 1) := by decide +kernel
theorem dX11_spared_35 : decode cX11_spared 35 = .ok (.invokestatic 200, 3) := by decide +kernel
theorem dX11_spared_38 : decode cX11_spared 38 = .ok (.iload_n 2, 1) := by decide +kernel
theorem dX11_spared_39 : decode cX11_spared 39 = .ok (.invokestatic 200, 3) := by decide +kernel
theorem dX11_spared_42 : decode cX11_spared 42 = .ok (.if_icmp .ge 7, 3) := by decide +kernel
theorem dX11_spared_45 : decode cX11_spared 45 = .ok (.iconst 1, 1) := by decide +kernel
theorem dX11_spared_46 : decode cX11_spared 46 = .ok (.goto 4, 3) := by decide +kernel
theorem dX11_spared_49 : decode cX11_spared 49 = .ok (.iconst 0, 1) := by decide +kernel
theorem dX11_spared_50 : decode cX11_spared 50 = .ok (.istore 4, 2) := by decide +kernel
theorem dX11_spared_52 : decode cX11_spared 52 = .ok (.iload 4, 2) := by decide +kernel
theorem dX11_spared_54 : decode cX11_spared 54 = .ok (.ifCond .eq 14, 3) := by decide +kernel
theorem dX11_spared_57 : decode cX11_spared 57 = .ok (.aload_n 0, 1) := by decide +kernel
theorem dX11_spared_58 : decode cX11_spared 58 = .ok (.iload_n 3, 1) := by decide +kernel
theorem dX11_spared_59 : decode cX11_spared 59 = .ok (.invokevirtual 205, 3) := by decide +kernel
theorem dX11_spared_62 : decode cX11_spared 62 = .ok (.iload_n 1, 1) := by decide +kernel
theorem dX11_spared_63 : decode cX11_spared 63 = .ok (.if_icmp .lt 5, 3) := by decide +kernel
theorem dX11_spared_66 : decode cX11_spared 66 = .ok (.iload_n 3, 1) := by decide +kernel
theorem dX11_spared_67 : decode cX11_spared 67 = .ok (.istore_n 2, 1) := by decide +kernel
theorem dX11_spared_68 : decode cX11_spared 68 = .ok (.iinc 3 1, 3) := by decide +kernel
theorem dX11_spared_71 : decode cX11_spared 71 = .ok (.goto (-55), 3) := by decide +kernel
theorem dX11_spared_74 : decode cX11_spared 74 = .ok (.iload_n 2, 1) := by decide +kernel
theorem dX11_spared_75 : decode cX11_spared 75 = .ok (.ireturn, 1) := by decide +kernel
abbrev wd_X11_spared (k : Nat → ClassId) (this : Nat) (this_tape : Nat) (this_history : Nat) (this_seen : Nat) (this_measured : Nat) (this_marks : Nat) (this_standing : Nat) (this_now : Nat) (this_now_state : Nat) (this_now_state_lacks : Nat) (this_now_state_lacks_f : Nat → Int32) (this_now_state_feels : Nat) (this_now_state_feels_f : Nat → Int32) (this_now_state_date : Int32) (this_now_next : Nat) (this_now_town : Nat) (this_now_weighs : Int32) (this_now_rounds : Int32) (this_now_flag : Int32) (this_ahead : Nat) (this_here : Nat) (this_here_names : Nat) (this_here_kinds : Nat) (this_here_kinds_f : Nat → Int32) (this_here_begin : Nat) (this_here_law : Nat) (this_here_persons : Int32) (this_here_mast : Int32) (this_here_weighs : Int32) (this_here_rounds : Int32) (this_here_toldOnce : Int32) (this_townDraft : Nat) (this_told : Nat) (this_yearDraft : Nat) (this_drawn : Int64) : va_W := [(this, .inr (9, [.ref this_tape, .ref this_history, .ref this_seen, .ref this_measured, .ref this_marks, .ref this_standing, .ref this_now, .ref this_ahead, .ref this_here, .ref this_townDraft, .ref this_told, .ref this_yearDraft, .long this_drawn])), (this_now, .inr (0, [.ref this_now_state, .ref this_now_next, .ref this_now_town, .int this_now_weighs, .int this_now_rounds, .int this_now_flag])), (this_now_state, .inr (5, [.ref this_now_state_lacks, .ref this_now_state_feels, .int this_now_state_date])), (this_now_state_lacks, .inl (k 0, 6, .inl this_now_state_lacks_f)), (this_now_state_feels, .inl (k 0, 6, .inl this_now_state_feels_f)), (this_here, .inr (7, [.ref this_here_names, .ref this_here_kinds, .ref this_here_begin, .ref this_here_law, .int this_here_persons, .int this_here_mast, .int this_here_weighs, .int this_here_rounds, .int this_here_toldOnce])), (this_here_kinds, .inl (k 0, 6, .inl this_here_kinds_f))]
set_option maxHeartbeats 4000000 in
set_option maxRecDepth 100000 in
theorem c_X11_spared (l : Launch) (D : va_G) (k : Nat → ClassId) (this : Nat) (this_tape : Nat) (this_history : Nat) (this_seen : Nat) (this_measured : Nat) (this_marks : Nat) (this_standing : Nat) (this_now : Nat) (this_now_state : Nat) (this_now_state_lacks : Nat) (this_now_state_lacks_f : Nat → Int32) (this_now_state_feels : Nat) (this_now_state_feels_f : Nat → Int32) (this_now_state_date : Int32) (this_now_next : Nat) (this_now_town : Nat) (this_now_weighs : Int32) (this_now_rounds : Int32) (this_now_flag : Int32) (this_ahead : Nat) (this_here : Nat) (this_here_names : Nat) (this_here_kinds : Nat) (this_here_kinds_f : Nat → Int32) (this_here_begin : Nat) (this_here_law : Nat) (this_here_persons : Int32) (this_here_mast : Int32) (this_here_weighs : Int32) (this_here_rounds : Int32) (this_here_toldOnce : Int32) (this_townDraft : Nat) (this_told : Nat) (this_yearDraft : Nat) (this_drawn : Int64) (height : Int32) (R0 : Int32) (hm : m_X11_spared this_now_state_lacks_f this_here_kinds_f this_here_persons this_here_mast this_here_weighs this_here_rounds height = some R0) : CR l D (TY k) yX11_spared cX11_spared 5 (some .int) 4 89 [.ref this, .int height] (wd_X11_spared k this this_tape this_history this_seen this_measured this_marks this_standing this_now this_now_state this_now_state_lacks this_now_state_lacks_f this_now_state_feels this_now_state_feels_f this_now_state_date this_now_next this_now_town this_now_weighs this_now_rounds this_now_flag this_ahead this_here this_here_names this_here_kinds this_here_kinds_f this_here_begin this_here_law this_here_persons this_here_mast this_here_weighs this_here_rounds this_here_toldOnce this_townDraft this_told this_yearDraft this_drawn) (some (.int R0)) := by
  refine CR.mk (by decide) (Nat.le_of_ble_eq_true rfl) ?_
  intro p e s m args below meth c ls ⟨hx, hb, hr, hts, hown, hlocks, hml⟩ hP hG hl
  have hl : lv_has ls 5 [(0, .ref this), (1, .int height)] := hl
  have h_50 : ∀ (K16 : Int32 → Int32 → Option (Int32)) (hK16 : ∀ (x2 : Int32) (x3 : Int32) (ls : Array Slot), lv_has ls 5 [(0, .ref this), (1, .int height), (2, .int x2), (3, .int x3)] → K16 x2 x3 = some R0 → W p l e (Rm 4 89) s m args below meth c s.heap [] 0 0 (MQ below (QR (some (.int R0))) args s 0 0 (fun _ => False)) (F0 m 16 ls [])), ∀ (x2 : Int32) (x3 : Int32) (t0 : Int32) (ls : Array Slot), lv_has ls 5 [(0, .ref this), (1, .int height), (2, .int x2), (3, .int x3)] → m_X11_spared_50 this_now_state_lacks_f this_here_kinds_f this_here_persons this_here_mast this_here_weighs this_here_rounds height K16 x2 x3 t0 = some R0 → W p l e (Rm 4 89) s m args below meth c s.heap [] 0 0 (MQ below (QR (some (.int R0))) args s 0 0 (fun _ => False)) (F0 m 50 ls [.int t0]) := by
    intro K16 hK16 x2 x3 t0 ls hl hm
    unfold m_X11_spared_50 at hm
    refine lv_istore (lv' := [(4, .int t0), (0, .ref this), (1, .int height), (2, .int x2), (3, .int x3)]) (pc := 50) hx hb dX11_spared_50 hl (Nat.le_of_ble_eq_true rfl) rfl (fun ls hl => ?_)
    refine lv_iload (pc := 52) hx hb dX11_spared_52 (lv_at hl 0 rfl) ?_
    refine lv_if_eq (tgt := 68) (pc := 54) hx hb dX11_spared_54 (by decide) (fun hc => ?_) (fun hc => ?_)
    · rw [if_pos hc] at hm
      refine lv_iinc (k := 4) (v := x3 + 1) (lv' := [(3, .int (x3 + 1)), (4, .int t0), (0, .ref this), (1, .int height), (2, .int x2)]) (pc := 68) hx hb dX11_spared_68 hl rfl rfl (Nat.le_of_ble_eq_true rfl) rfl (fun ls hl => ?_)
      refine lv_goto (tgt := 16) (pc := 71) hx hb dX11_spared_71 (by decide) ?_
      exact hK16 x2 (x3 + 1) ls (lv_sub hl [2, 3, 4, 0] rfl) hm
    · rw [if_neg hc] at hm
      refine lv_aload_n (pc := 57) hx hb dX11_spared_57 rfl (lv_at hl 1 rfl) ?_
      refine lv_iload_n (pc := 58) hx hb dX11_spared_58 rfl (lv_at hl 4 rfl) ?_
      obtain ⟨r5, hcl, hm⟩ := bd hm
      refine cr_back (run_V (pc := 59) (n := 1) (As := [.int x3]) (rest := []) ⟨hx, hb, hml, hown, hts⟩ (c_X11_flagWithout l D k this this_tape this_history this_seen this_measured this_marks this_standing this_now this_now_state this_now_state_lacks this_now_state_lacks_f this_now_state_feels this_now_state_feels_f this_now_state_date this_now_next this_now_town this_now_weighs this_now_rounds this_now_flag this_ahead this_here this_here_names this_here_kinds this_here_kinds_f this_here_begin this_here_law this_here_persons this_here_mast this_here_weighs this_here_rounds this_here_toldOnce this_townDraft this_told this_yearDraft this_drawn x3 r5 hcl) ⟨kw_910, kw_1, by decide +kernel⟩ kw_907 kw_909 ks_68 ⟨Nat.le_of_ble_eq_true rfl, Nat.le_of_ble_eq_true rfl⟩ pr_blind (prR (hP.sub [0, 1, 2, 3, 4, 5, 6] rfl) hG) (va_recv hG.1 hP (ci := 9) (q0 := 0) rfl rfl) rfl hl.1 rfl (Nat.le_of_ble_eq_true rfl) dX11_spared_59 ⟨Nat.zero_le _, Nat.zero_le _⟩) ?_
      refine lv_iload_n (pc := 62) hx hb dX11_spared_62 rfl (lv_at hl 2 rfl) ?_
      refine lv_icmp_lt (tgt := 68) (pc := 63) hx hb dX11_spared_63 (by decide) (fun hc => ?_) (fun hc => ?_)
      · rw [if_pos hc] at hm
        refine lv_iinc (k := 4) (v := x3 + 1) (lv' := [(3, .int (x3 + 1)), (4, .int t0), (0, .ref this), (1, .int height), (2, .int x2)]) (pc := 68) hx hb dX11_spared_68 hl rfl rfl (Nat.le_of_ble_eq_true rfl) rfl (fun ls hl => ?_)
        refine lv_goto (tgt := 16) (pc := 71) hx hb dX11_spared_71 (by decide) ?_
        exact hK16 x2 (x3 + 1) ls (lv_sub hl [2, 3, 4, 0] rfl) hm
      · rw [if_neg hc] at hm
        refine lv_iload_n (pc := 66) hx hb dX11_spared_66 rfl (lv_at hl 4 rfl) ?_
        refine lv_istore_n (lv' := [(2, .int x3), (4, .int t0), (0, .ref this), (1, .int height), (3, .int x3)]) (pc := 67) hx hb dX11_spared_67 rfl hl (Nat.le_of_ble_eq_true rfl) rfl (fun ls hl => ?_)
        refine lv_iinc (k := 4) (v := x3 + 1) (lv' := [(3, .int (x3 + 1)), (2, .int x3), (4, .int t0), (0, .ref this), (1, .int height)]) (pc := 68) hx hb dX11_spared_68 hl rfl rfl (Nat.le_of_ble_eq_true rfl) rfl (fun ls hl => ?_)
        refine lv_goto (tgt := 16) (pc := 71) hx hb dX11_spared_71 (by decide) ?_
        exact hK16 x3 (x3 + 1) ls (lv_sub hl [3, 4, 1, 0] rfl) hm
  have h_45 : ∀ (K16 : Int32 → Int32 → Option (Int32)) (hK16 : ∀ (x2 : Int32) (x3 : Int32) (ls : Array Slot), lv_has ls 5 [(0, .ref this), (1, .int height), (2, .int x2), (3, .int x3)] → K16 x2 x3 = some R0 → W p l e (Rm 4 89) s m args below meth c s.heap [] 0 0 (MQ below (QR (some (.int R0))) args s 0 0 (fun _ => False)) (F0 m 16 ls [])), ∀ (x2 : Int32) (x3 : Int32) (ls : Array Slot), lv_has ls 5 [(0, .ref this), (1, .int height), (2, .int x2), (3, .int x3)] → m_X11_spared_45 this_now_state_lacks_f this_here_kinds_f this_here_persons this_here_mast this_here_weighs this_here_rounds height K16 x2 x3 = some R0 → W p l e (Rm 4 89) s m args below meth c s.heap [] 0 0 (MQ below (QR (some (.int R0))) args s 0 0 (fun _ => False)) (F0 m 45 ls []) := by
    intro K16 hK16 x2 x3 ls hl hm
    unfold m_X11_spared_45 at hm
    refine lv_iconst (v := 1) (pc := 45) hx hb dX11_spared_45 (by decide) ?_
    refine lv_goto (tgt := 50) (pc := 46) hx hb dX11_spared_46 (by decide) ?_
    exact h_50 K16 hK16 x2 x3 1 ls (lv_sub hl [0, 1, 2, 3] rfl) hm
  have h_16 : ∀ (n : Nat), ∀ (x2 : Int32) (x3 : Int32) (ls : Array Slot), lv_has ls 5 [(0, .ref this), (1, .int height), (2, .int x2), (3, .int x3)] → m_X11_spared_16 this_now_state_lacks_f this_here_kinds_f this_here_persons this_here_mast this_here_weighs this_here_rounds height n x2 x3 = some R0 → W p l e (Rm 4 89) s m args below meth c s.heap [] 0 0 (MQ below (QR (some (.int R0))) args s 0 0 (fun _ => False)) (F0 m 16 ls []) := by
    intro n
    induction n with
    | zero => intro x2 x3 ls hl hm; cases hm
    | succ n ih =>
      intro x2 x3 ls hl hm
      unfold m_X11_spared_16 at hm
      refine lv_iload_n (pc := 16) hx hb dX11_spared_16 rfl (lv_at hl 3 rfl) ?_
      refine lv_iconst (v := 1) (pc := 17) hx hb dX11_spared_17 (by decide) ?_
      refine lv_aload_n (pc := 18) hx hb dX11_spared_18 rfl (lv_at hl 0 rfl) ?_
      refine va_get (pc := 19) (D := D) (ci := 9) (C := RX11) (T := TX11) (N := 13) hx hb hts hiX11 hown hG.1 hP 0 rfl rfl 8 (Nat.le_of_ble_eq_true rfl) (hts _ kw_352) (fun _ h9 => h9) rfl dX11_spared_19 ?_
      refine va_getN (pc := 22) (D := D) (ci := 7) (C := RX8) (T := TX8) (N := 9) hx hb hts hiX8 hown hG.1 hP 5 rfl rfl 4 (Nat.le_of_ble_eq_true rfl) (va_Nw.use rfl (hG.2 _ kn_204)) (fun _ h9 => h9) rfl dX11_spared_22 ?_
      refine lv_ishl (pc := 25) hx hb dX11_spared_25 ?_
      refine lv_icmp_ge (tgt := 74) (pc := 26) hx hb dX11_spared_26 (by decide) (fun hc => ?_) (fun hc => ?_)
      · rw [if_pos hc] at hm
        refine lv_iload_n (pc := 74) hx hb dX11_spared_74 rfl (lv_at hl 2 rfl) ?_
        rw [← Option.some.inj hm]
        exact W.iret hx hb hr (fun t ht _ => ⟨rfl, ht⟩) (fun _ h => by cases h) dX11_spared_75 hlocks
      · rw [if_neg hc] at hm
        refine lv_iload_n (pc := 29) hx hb dX11_spared_29 rfl (lv_at hl 2 rfl) ?_
        refine lv_iconst (v := (-1)) (pc := 30) hx hb dX11_spared_30 (by decide) ?_
        refine lv_icmp_eq (tgt := 45) (pc := 31) hx hb dX11_spared_31 (by decide) (fun hc => ?_) (fun hc => ?_)
        · rw [if_pos hc] at hm
          exact h_45 (m_X11_spared_16 this_now_state_lacks_f this_here_kinds_f this_here_persons this_here_mast this_here_weighs this_here_rounds height n) ih x2 x3 ls (lv_sub hl [0, 1, 2, 3] rfl) hm
        · rw [if_neg hc] at hm
          refine lv_iload_n (pc := 34) hx hb dX11_spared_34 rfl (lv_at hl 3 rfl) ?_
          obtain ⟨r6, hcl, hm⟩ := bd hm
          refine cr_back (run_S (pc := 35) (n := 1) (As := [.int x3]) (rest := []) ⟨hx, hb, hml, hown, hts⟩ (c_J6_bitCount_0f7a4 l D k x3 r6 hcl) ⟨kw_903, kw_23, by decide +kernel⟩ kw_901 kw_902 ⟨Nat.le_of_ble_eq_true rfl, Nat.le_of_ble_eq_true rfl⟩ pr_blind (prR (hP.sub [] rfl) hG) rfl hl.1 rfl (Nat.le_of_ble_eq_true rfl) dX11_spared_35 ⟨Nat.zero_le _, Nat.zero_le _⟩) ?_
          refine lv_iload_n (pc := 38) hx hb dX11_spared_38 rfl (lv_at hl 2 rfl) ?_
          obtain ⟨r7, hcl, hm⟩ := bd hm
          refine cr_back (run_S (pc := 39) (n := 1) (As := [.int x2]) (rest := [.int r6]) ⟨hx, hb, hml, hown, hts⟩ (c_J6_bitCount_0f7a4 l D k x2 r7 hcl) ⟨kw_903, kw_23, by decide +kernel⟩ kw_901 kw_902 ⟨Nat.le_of_ble_eq_true rfl, Nat.le_of_ble_eq_true rfl⟩ pr_blind (prR (hP.sub [] rfl) hG) rfl hl.1 rfl (Nat.le_of_ble_eq_true rfl) dX11_spared_39 ⟨Nat.zero_le _, Nat.zero_le _⟩) ?_
          refine lv_icmp_ge (tgt := 49) (pc := 42) hx hb dX11_spared_42 (by decide) (fun hc => ?_) (fun hc => ?_)
          · rw [if_pos hc] at hm
            refine lv_iconst (v := 0) (pc := 49) hx hb dX11_spared_49 (by decide) ?_
            exact h_50 (m_X11_spared_16 this_now_state_lacks_f this_here_kinds_f this_here_persons this_here_mast this_here_weighs this_here_rounds height n) ih x2 x3 0 ls (lv_sub hl [0, 1, 2, 3] rfl) hm
          · rw [if_neg hc] at hm
            exact h_45 (m_X11_spared_16 this_now_state_lacks_f this_here_kinds_f this_here_persons this_here_mast this_here_weighs this_here_rounds height n) ih x2 x3 ls (lv_sub hl [0, 1, 2, 3] rfl) hm
  unfold m_X11_spared at hm
  refine lv_iload_n (pc := 0) hx hb dX11_spared_0 rfl (lv_at hl 1 rfl) ?_
  refine lv_iconst (v := 1) (pc := 1) hx hb dX11_spared_1 (by decide) ?_
  refine lv_bipush (v := 99) (pc := 2) hx hb dX11_spared_2 (by decide) ?_
  obtain ⟨r8, hcl, hm⟩ := bd hm
  refine cr_back (run_S (pc := 4) (n := 3) (As := [.int height, .int 1, .int 99]) (rest := []) ⟨hx, hb, hml, hown, hts⟩ (c_X11_within l D k height 1 99 r8 hcl) ⟨kw_394, kw_1, by decide +kernel⟩ kw_759 kw_393 ⟨Nat.le_of_ble_eq_true rfl, Nat.le_of_ble_eq_true rfl⟩ pr_blind (prR (hP.sub [] rfl) hG) rfl hl.1 rfl (Nat.le_of_ble_eq_true rfl) dX11_spared_4 ⟨Nat.zero_le _, Nat.zero_le _⟩) ?_
  refine lv_if_ne (tgt := 12) (pc := 7) hx hb dX11_spared_7 (by decide) (fun hc => ?_) (fun hc => ?_)
  · rw [if_neg hc] at hm
    refine lv_iconst (v := (-1)) (pc := 12) hx hb dX11_spared_12 (by decide) ?_
    refine lv_istore_n (lv' := [(2, .int (-1)), (0, .ref this), (1, .int height)]) (pc := 13) hx hb dX11_spared_13 rfl hl (Nat.le_of_ble_eq_true rfl) rfl (fun ls hl => ?_)
    refine lv_iconst (v := 0) (pc := 14) hx hb dX11_spared_14 (by decide) ?_
    refine lv_istore_n (lv' := [(3, .int 0), (2, .int (-1)), (0, .ref this), (1, .int height)]) (pc := 15) hx hb dX11_spared_15 rfl hl (Nat.le_of_ble_eq_true rfl) rfl (fun ls hl => ?_)
    exact h_16 FU (-1) 0 ls (lv_sub hl [2, 3, 1, 0] rfl) hm
  · rw [if_pos hc] at hm
    refine lv_iconst (v := (-1)) (pc := 10) hx hb dX11_spared_10 (by decide) ?_
    rw [← Option.some.inj hm]
    exact W.iret hx hb hr (fun t ht _ => ⟨rfl, ht⟩) (fun _ h => by cases h) dX11_spared_11 hlocks
theorem dX11_flagIfLacking_0 : decode cX11_flagIfLacking 0 = .ok (.aload_n 0, 1) := by decide +kernel
theorem dX11_flagIfLacking_1 : decode cX11_flagIfLacking 1 = .ok (.getfield 56, 3) := by decide +kernel
theorem dX11_flagIfLacking_4 : decode cX11_flagIfLacking 4 = .ok (.aload_n 0, 1) := by decide +kernel
theorem dX11_flagIfLacking_5 : decode cX11_flagIfLacking 5 = .ok (.getfield 46, 3) := by decide +kernel
theorem dX11_flagIfLacking_8 : decode cX11_flagIfLacking 8 = .ok (.getfield 136, 3) := by decide +kernel
theorem dX11_flagIfLacking_11 : decode cX11_flagIfLacking 11 = .ok (.invokevirtual 221, 3) := by decide +kernel
theorem dX11_flagIfLacking_14 : decode cX11_flagIfLacking 14 = .ok (.aload_n 0, 1) := by decide +kernel
theorem dX11_flagIfLacking_15 : decode cX11_flagIfLacking 15 = .ok (.getfield 56, 3) := by decide +kernel
theorem dX11_flagIfLacking_18 : decode cX11_flagIfLacking 18 = .ok (.iload_n 1, 1) := by decide +kernel
theorem dX11_flagIfLacking_19 : decode cX11_flagIfLacking 19 = .ok (.aload_n 0, 1) := by decide +kernel
theorem dX11_flagIfLacking_20 : decode cX11_flagIfLacking 20 = .ok (.getfield 46, 3) := by decide +kernel
theorem dX11_flagIfLacking_23 : decode cX11_flagIfLacking 23 = .ok (.iload_n 1, 1) := by decide +kernel
theorem dX11_flagIfLacking_24 : decode cX11_flagIfLacking 24 = .ok (.invokevirtual 128, 3) := by decide +kernel
theorem dX11_flagIfLacking_27 : decode cX11_flagIfLacking 27 = .ok (.invokevirtual 132, 3) := by decide +kernel
theorem dX11_flagIfLacking_30 : decode cX11_flagIfLacking 30 = .ok (.isub, 1) := by decide +kernel
theorem dX11_flagIfLacking_31 : decode cX11_flagIfLacking 31 = .ok (.istore_n 3, 1) := by decide +kernel
theorem dX11_flagIfLacking_32 : decode cX11_flagIfLacking 32 = .ok (.aload_n 0, 1) := by decide +kernel
theorem dX11_flagIfLacking_33 : decode cX11_flagIfLacking 33 = .ok (.getfield 56, 3) := by decide +kernel
theorem dX11_flagIfLacking_36 : decode cX11_flagIfLacking 36 = .ok (.iload_n 3, 1) := by decide +kernel
theorem dX11_flagIfLacking_37 : decode cX11_flagIfLacking 37 = .ok (.aload_n 0, 1) := by decide +kernel
theorem dX11_flagIfLacking_38 : decode cX11_flagIfLacking 38 = .ok (.getfield 56, 3) := by decide +kernel
theorem dX11_flagIfLacking_41 : decode cX11_flagIfLacking 41 = .ok (.iload_n 1, 1) := by decide +kernel
theorem dX11_flagIfLacking_42 : decode cX11_flagIfLacking 42 = .ok (.iload_n 2, 1) := by decide +kernel
theorem dX11_flagIfLacking_43 : decode cX11_flagIfLacking 43 = .ok (.invokevirtual 132, 3) := by decide +kernel
theorem dX11_flagIfLacking_46 : decode cX11_flagIfLacking 46 = .ok (.iadd, 1) := by decide +kernel
theorem dX11_flagIfLacking_47 : decode cX11_flagIfLacking 47 = .ok (.invokevirtual 212, 3) := by decide +kernel
theorem dX11_flagIfLacking_50 : decode cX11_flagIfLacking 50 = .ok (.ireturn, 1) := by decide +kernel
abbrev wd_X11_flagIfLacking (k : Nat → ClassId) (this : Nat) (this_tape : Nat) (this_history : Nat) (this_seen : Nat) (this_measured : Nat) (this_marks : Nat) (this_standing : Nat) (this_now : Nat) (this_now_state : Nat) (this_now_state_lacks : Nat) (this_now_state_lacks_f : Nat → Int32) (this_now_state_feels : Nat) (this_now_state_feels_f : Nat → Int32) (this_now_state_date : Int32) (this_now_next : Nat) (this_now_town : Nat) (this_now_weighs : Int32) (this_now_rounds : Int32) (this_now_flag : Int32) (this_ahead : Nat) (this_here : Nat) (this_here_names : Nat) (this_here_kinds : Nat) (this_here_kinds_f : Nat → Int32) (this_here_begin : Nat) (this_here_law : Nat) (this_here_persons : Int32) (this_here_mast : Int32) (this_here_weighs : Int32) (this_here_rounds : Int32) (this_here_toldOnce : Int32) (this_townDraft : Nat) (this_told : Nat) (this_yearDraft : Nat) (this_drawn : Int64) : va_W := [(this, .inr (9, [.ref this_tape, .ref this_history, .ref this_seen, .ref this_measured, .ref this_marks, .ref this_standing, .ref this_now, .ref this_ahead, .ref this_here, .ref this_townDraft, .ref this_told, .ref this_yearDraft, .long this_drawn])), (this_now, .inr (0, [.ref this_now_state, .ref this_now_next, .ref this_now_town, .int this_now_weighs, .int this_now_rounds, .int this_now_flag])), (this_now_state, .inr (5, [.ref this_now_state_lacks, .ref this_now_state_feels, .int this_now_state_date])), (this_now_state_lacks, .inl (k 0, 6, .inl this_now_state_lacks_f)), (this_now_state_feels, .inl (k 0, 6, .inl this_now_state_feels_f)), (this_here, .inr (7, [.ref this_here_names, .ref this_here_kinds, .ref this_here_begin, .ref this_here_law, .int this_here_persons, .int this_here_mast, .int this_here_weighs, .int this_here_rounds, .int this_here_toldOnce])), (this_here_kinds, .inl (k 0, 6, .inl this_here_kinds_f))]
set_option maxHeartbeats 4000000 in
set_option maxRecDepth 100000 in
theorem c_X11_flagIfLacking (l : Launch) (D : va_G) (k : Nat → ClassId) (this : Nat) (this_tape : Nat) (this_history : Nat) (this_seen : Nat) (this_measured : Nat) (this_marks : Nat) (this_standing : Nat) (this_now : Nat) (this_now_state : Nat) (this_now_state_lacks : Nat) (this_now_state_lacks_f : Nat → Int32) (this_now_state_feels : Nat) (this_now_state_feels_f : Nat → Int32) (this_now_state_date : Int32) (this_now_next : Nat) (this_now_town : Nat) (this_now_weighs : Int32) (this_now_rounds : Int32) (this_now_flag : Int32) (this_ahead : Nat) (this_here : Nat) (this_here_names : Nat) (this_here_kinds : Nat) (this_here_kinds_f : Nat → Int32) (this_here_begin : Nat) (this_here_law : Nat) (this_here_persons : Int32) (this_here_mast : Int32) (this_here_weighs : Int32) (this_here_rounds : Int32) (this_here_toldOnce : Int32) (this_townDraft : Nat) (this_told : Nat) (this_yearDraft : Nat) (this_drawn : Int64) (person : Int32) (lacking : Int32) (R0 : Int32) (hm : m_X11_flagIfLacking this_now_state_lacks_f this_here_kinds_f this_here_persons this_here_mast this_here_weighs this_here_rounds person lacking = some R0) : CR l D (TY k) yX11_flagIfLacking cX11_flagIfLacking 4 (some .int) 3 66 [.ref this, .int person, .int lacking] (wd_X11_flagIfLacking k this this_tape this_history this_seen this_measured this_marks this_standing this_now this_now_state this_now_state_lacks this_now_state_lacks_f this_now_state_feels this_now_state_feels_f this_now_state_date this_now_next this_now_town this_now_weighs this_now_rounds this_now_flag this_ahead this_here this_here_names this_here_kinds this_here_kinds_f this_here_begin this_here_law this_here_persons this_here_mast this_here_weighs this_here_rounds this_here_toldOnce this_townDraft this_told this_yearDraft this_drawn) (some (.int R0)) := by
  refine CR.mk (by decide) (Nat.le_of_ble_eq_true rfl) ?_
  intro p e s m args below meth c ls ⟨hx, hb, hr, hts, hown, hlocks, hml⟩ hP hG hl
  have hl : lv_has ls 4 [(0, .ref this), (1, .int person), (2, .int lacking)] := hl
  unfold m_X11_flagIfLacking at hm
  refine lv_aload_n (pc := 0) hx hb dX11_flagIfLacking_0 rfl (lv_at hl 0 rfl) ?_
  refine va_get (pc := 1) (D := D) (ci := 9) (C := RX11) (T := TX11) (N := 13) hx hb hts hiX11 hown hG.1 hP 0 rfl rfl 8 (Nat.le_of_ble_eq_true rfl) (hts _ kw_352) (fun _ h9 => h9) rfl dX11_flagIfLacking_1 ?_
  refine lv_aload_n (pc := 4) hx hb dX11_flagIfLacking_4 rfl (lv_at hl 0 rfl) ?_
  refine va_get (pc := 5) (D := D) (ci := 9) (C := RX11) (T := TX11) (N := 13) hx hb hts hiX11 hown hG.1 hP 0 rfl rfl 6 (Nat.le_of_ble_eq_true rfl) (hts _ kw_350) (fun _ h9 => h9) rfl dX11_flagIfLacking_5 ?_
  refine va_getN (pc := 8) (D := D) (ci := 0) (C := RX1) (T := TX1) (N := 6) hx hb hts hiX1 hown hG.1 hP 1 rfl rfl 0 (Nat.le_of_ble_eq_true rfl) (va_Nw.use rfl (hG.2 _ kn_149)) (fun _ h9 => h9) rfl dX11_flagIfLacking_8 ?_
  obtain ⟨r6, hcl, hm⟩ := bd hm
  refine cr_back (run_VN (pc := 11) (n := 1) (As := [.ref this_now_state]) (rest := []) ⟨hx, hb, hml, hown, hts⟩ (c_X8_weightOfAll l D k this_here this_here_names this_here_kinds this_here_kinds_f this_here_begin this_here_law this_here_persons this_here_mast this_here_weighs this_here_rounds this_here_toldOnce this_now_state this_now_state_lacks this_now_state_lacks_f this_now_state_feels this_now_state_date r6 hcl) ⟨kw_326, kw_9, by decide +kernel⟩ hG kn_929 kw_325 ks_9 ⟨Nat.le_of_ble_eq_true rfl, Nat.le_of_ble_eq_true rfl⟩ pr_blind (prR (hP.sub [5, 6, 2, 3] rfl) hG) (va_recv hG.1 hP (ci := 7) (q0 := 5) rfl rfl) rfl hl.1 rfl (Nat.le_of_ble_eq_true rfl) dX11_flagIfLacking_11 ⟨Nat.zero_le _, Nat.zero_le _⟩) ?_
  refine lv_aload_n (pc := 14) hx hb dX11_flagIfLacking_14 rfl (lv_at hl 0 rfl) ?_
  refine va_get (pc := 15) (D := D) (ci := 9) (C := RX11) (T := TX11) (N := 13) hx hb hts hiX11 hown hG.1 hP 0 rfl rfl 8 (Nat.le_of_ble_eq_true rfl) (hts _ kw_352) (fun _ h9 => h9) rfl dX11_flagIfLacking_15 ?_
  refine lv_iload_n (pc := 18) hx hb dX11_flagIfLacking_18 rfl (lv_at hl 1 rfl) ?_
  refine lv_aload_n (pc := 19) hx hb dX11_flagIfLacking_19 rfl (lv_at hl 0 rfl) ?_
  refine va_get (pc := 20) (D := D) (ci := 9) (C := RX11) (T := TX11) (N := 13) hx hb hts hiX11 hown hG.1 hP 0 rfl rfl 6 (Nat.le_of_ble_eq_true rfl) (hts _ kw_350) (fun _ h9 => h9) rfl dX11_flagIfLacking_20 ?_
  refine lv_iload_n (pc := 23) hx hb dX11_flagIfLacking_23 rfl (lv_at hl 1 rfl) ?_
  obtain ⟨r7, hcl, hm⟩ := bd hm
  refine cr_back (run_VN (pc := 24) (n := 1) (As := [.int person]) (rest := [.int person, .ref this_here, .int r6]) ⟨hx, hb, hml, hown, hts⟩ (c_X1_lacking l D k this_now this_now_state this_now_state_lacks this_now_state_lacks_f this_now_state_feels this_now_state_date this_now_next this_now_town this_now_weighs this_now_rounds this_now_flag person r7 hcl) ⟨kw_748, kw_8, by decide +kernel⟩ hG kn_745 kw_747 ks_54 ⟨Nat.le_of_ble_eq_true rfl, Nat.le_of_ble_eq_true rfl⟩ pr_blind (prR (hP.sub [1, 2, 3] rfl) hG) (va_recv hG.1 hP (ci := 0) (q0 := 1) rfl rfl) rfl hl.1 rfl (Nat.le_of_ble_eq_true rfl) dX11_flagIfLacking_24 ⟨Nat.zero_le _, Nat.zero_le _⟩) ?_
  obtain ⟨r8, hcl, hm⟩ := bd hm
  refine cr_back (run_VN (pc := 27) (n := 2) (As := [.int person, .int r7]) (rest := [.int r6]) ⟨hx, hb, hml, hown, hts⟩ (c_X8_weight l D k this_here this_here_names this_here_kinds this_here_kinds_f this_here_begin this_here_law this_here_persons this_here_mast this_here_weighs this_here_rounds this_here_toldOnce person r7 r8 hcl) ⟨kw_333, kw_9, by decide +kernel⟩ hG kn_750 kw_332 ks_10 ⟨Nat.le_of_ble_eq_true rfl, Nat.le_of_ble_eq_true rfl⟩ pr_blind (prR (hP.sub [5, 6] rfl) hG) (va_recv hG.1 hP (ci := 7) (q0 := 5) rfl rfl) rfl hl.1 rfl (Nat.le_of_ble_eq_true rfl) dX11_flagIfLacking_27 ⟨Nat.zero_le _, Nat.zero_le _⟩) ?_
  refine lv_isub (pc := 30) hx hb dX11_flagIfLacking_30 ?_
  refine lv_istore_n (lv' := [(3, .int (r6 - r8)), (0, .ref this), (1, .int person), (2, .int lacking)]) (pc := 31) hx hb dX11_flagIfLacking_31 rfl hl (Nat.le_of_ble_eq_true rfl) rfl (fun ls hl => ?_)
  refine lv_aload_n (pc := 32) hx hb dX11_flagIfLacking_32 rfl (lv_at hl 1 rfl) ?_
  refine va_get (pc := 33) (D := D) (ci := 9) (C := RX11) (T := TX11) (N := 13) hx hb hts hiX11 hown hG.1 hP 0 rfl rfl 8 (Nat.le_of_ble_eq_true rfl) (hts _ kw_352) (fun _ h9 => h9) rfl dX11_flagIfLacking_33 ?_
  refine lv_iload_n (pc := 36) hx hb dX11_flagIfLacking_36 rfl (lv_at hl 0 rfl) ?_
  refine lv_aload_n (pc := 37) hx hb dX11_flagIfLacking_37 rfl (lv_at hl 1 rfl) ?_
  refine va_get (pc := 38) (D := D) (ci := 9) (C := RX11) (T := TX11) (N := 13) hx hb hts hiX11 hown hG.1 hP 0 rfl rfl 8 (Nat.le_of_ble_eq_true rfl) (hts _ kw_352) (fun _ h9 => h9) rfl dX11_flagIfLacking_38 ?_
  refine lv_iload_n (pc := 41) hx hb dX11_flagIfLacking_41 rfl (lv_at hl 2 rfl) ?_
  refine lv_iload_n (pc := 42) hx hb dX11_flagIfLacking_42 rfl (lv_at hl 3 rfl) ?_
  obtain ⟨r9, hcl, hm⟩ := bd hm
  refine cr_back (run_VN (pc := 43) (n := 2) (As := [.int person, .int lacking]) (rest := [.int (r6 - r8), .ref this_here]) ⟨hx, hb, hml, hown, hts⟩ (c_X8_weight l D k this_here this_here_names this_here_kinds this_here_kinds_f this_here_begin this_here_law this_here_persons this_here_mast this_here_weighs this_here_rounds this_here_toldOnce person lacking r9 hcl) ⟨kw_333, kw_9, by decide +kernel⟩ hG kn_750 kw_332 ks_10 ⟨Nat.le_of_ble_eq_true rfl, Nat.le_of_ble_eq_true rfl⟩ pr_blind (prR (hP.sub [5, 6] rfl) hG) (va_recv hG.1 hP (ci := 7) (q0 := 5) rfl rfl) rfl hl.1 rfl (Nat.le_of_ble_eq_true rfl) dX11_flagIfLacking_43 ⟨Nat.zero_le _, Nat.zero_le _⟩) ?_
  refine lv_iadd (pc := 46) hx hb dX11_flagIfLacking_46 ?_
  obtain ⟨r10, hcl, hm⟩ := bd hm
  refine cr_back (run_VN (pc := 47) (n := 1) (As := [.int ((r6 - r8) + r9)]) (rest := []) ⟨hx, hb, hml, hown, hts⟩ (c_X8_flagBy l D k this_here this_here_names this_here_kinds this_here_begin this_here_law this_here_persons this_here_mast this_here_weighs this_here_rounds this_here_toldOnce ((r6 - r8) + r9) r10 hcl) ⟨kw_915, kw_9, by decide +kernel⟩ hG kn_912 kw_914 ks_69 ⟨Nat.le_of_ble_eq_true rfl, Nat.le_of_ble_eq_true rfl⟩ pr_blind (prR (hP.sub [5] rfl) hG) (va_recv hG.1 hP (ci := 7) (q0 := 5) rfl rfl) rfl hl.1 rfl (Nat.le_of_ble_eq_true rfl) dX11_flagIfLacking_47 ⟨Nat.zero_le _, Nat.zero_le _⟩) ?_
  rw [← Option.some.inj hm]
  exact W.iret hx hb hr (fun t ht _ => ⟨rfl, ht⟩) (fun _ h => by cases h) dX11_flagIfLacking_50 hlocks
theorem dX11_firstToReach_0 : decode cX11_firstToReach 0 = .ok (.iconst 0, 1) := by decide +kernel
theorem dX11_firstToReach_1 : decode cX11_firstToReach 1 = .ok (.istore_n 3, 1) := by decide +kernel
theorem dX11_firstToReach_2 : decode cX11_firstToReach 2 = .ok (.iload_n 3, 1) := by decide +kernel
theorem dX11_firstToReach_3 : decode cX11_firstToReach 3 = .ok (.aload_n 0, 1) := by decide +kernel
theorem dX11_firstToReach_4 : decode cX11_firstToReach 4 = .ok (.getfield 56, 3) := by decide +kernel
theorem dX11_firstToReach_7 : decode cX11_firstToReach 7 = .ok (.getfield 197, 3) := by decide +kernel
theorem dX11_firstToReach_10 : decode cX11_firstToReach 10 = .ok (.if_icmp .ge 45, 3) := by decide +kernel
theorem dX11_firstToReach_13 : decode cX11_firstToReach 13 = .ok (.aload_n 0, 1) := by decide +kernel
theorem dX11_firstToReach_14 : decode cX11_firstToReach 14 = .ok (.getfield 46, 3) := by decide +kernel
theorem dX11_firstToReach_17 : decode cX11_firstToReach 17 = .ok (.iload_n 3, 1) := by decide +kernel
theorem dX11_firstToReach_18 : decode cX11_firstToReach 18 = .ok (.invokevirtual 128, 3) := by decide +kernel
theorem dX11_firstToReach_21 : decode cX11_firstToReach 21 = .ok (.iload_n 2, 1) := by decide +kernel
theorem dX11_firstToReach_22 : decode cX11_firstToReach 22 = .ok (.iadd, 1) := by decide +kernel
theorem dX11_firstToReach_23 : decode cX11_firstToReach 23 = .ok (.istore 4, 2) := by decide +kernel
theorem dX11_firstToReach_25 : decode cX11_firstToReach 25 = .ok (.iload 4, 2) := by decide +kernel
theorem dX11_firstToReach_27 : decode cX11_firstToReach 27 = .ok (.iconst 0, 1) := by decide +kernel
theorem dX11_firstToReach_28 : decode cX11_firstToReach 28 = .ok (.bipush 60, 2) := by decide +kernel
theorem dX11_firstToReach_30 : decode cX11_firstToReach 30 = .ok (.invokestatic 148, 3) := by decide +kernel
theorem dX11_firstToReach_33 : decode cX11_firstToReach 33 = .ok (.ifCond .eq 16, 3) := by decide +kernel
theorem dX11_firstToReach_36 : decode cX11_firstToReach 36 = .ok (.aload_n 0, 1) := by decide +kernel
theorem dX11_firstToReach_37 : decode cX11_firstToReach 37 = .ok (.iload_n 3, 1) := by decide +kernel
theorem dX11_firstToReach_38 : decode cX11_firstToReach 38 = .ok (.iload 4, 2) := by decide +kernel
theorem dX11_firstToReach_40 : decode cX11_firstToReach 40 = .ok (.invokevirtual 218, 3) := by decide +kernel
theorem dX11_firstToReach_43 : decode cX11_firstToReach 43 = .ok (.iload_n 1, 1) := by decide +kernel
theorem dX11_firstToReach_44 : decode cX11_firstToReach 44 = .ok (.if_icmp .ne 5, 3) := by decide +kernel
theorem dX11_firstToReach_47 : decode cX11_firstToReach 47 = .ok (.iload_n 3, 1) := by decide +kernel
theorem dX11_firstToReach_48 : decode cX11_firstToReach 48 = .ok (.ireturn, 1) := by decide +kernel
theorem dX11_firstToReach_49 : decode cX11_firstToReach 49 = .ok (.iinc 3 1, 3) := by decide +kernel
theorem dX11_firstToReach_52 : decode cX11_firstToReach 52 = .ok (.goto (-50), 3) := by decide +kernel
theorem dX11_firstToReach_55 : decode cX11_firstToReach 55 = .ok (.iconst (-1), 1) := by decide +kernel
theorem dX11_firstToReach_56 : decode cX11_firstToReach 56 = .ok (.ireturn, 1) := by decide +kernel
abbrev wd_X11_firstToReach (k : Nat → ClassId) (this : Nat) (this_tape : Nat) (this_history : Nat) (this_seen : Nat) (this_measured : Nat) (this_marks : Nat) (this_standing : Nat) (this_now : Nat) (this_now_state : Nat) (this_now_state_lacks : Nat) (this_now_state_lacks_f : Nat → Int32) (this_now_state_feels : Nat) (this_now_state_feels_f : Nat → Int32) (this_now_state_date : Int32) (this_now_next : Nat) (this_now_town : Nat) (this_now_weighs : Int32) (this_now_rounds : Int32) (this_now_flag : Int32) (this_ahead : Nat) (this_here : Nat) (this_here_names : Nat) (this_here_kinds : Nat) (this_here_kinds_f : Nat → Int32) (this_here_begin : Nat) (this_here_law : Nat) (this_here_persons : Int32) (this_here_mast : Int32) (this_here_weighs : Int32) (this_here_rounds : Int32) (this_here_toldOnce : Int32) (this_townDraft : Nat) (this_told : Nat) (this_yearDraft : Nat) (this_drawn : Int64) : va_W := [(this, .inr (9, [.ref this_tape, .ref this_history, .ref this_seen, .ref this_measured, .ref this_marks, .ref this_standing, .ref this_now, .ref this_ahead, .ref this_here, .ref this_townDraft, .ref this_told, .ref this_yearDraft, .long this_drawn])), (this_now, .inr (0, [.ref this_now_state, .ref this_now_next, .ref this_now_town, .int this_now_weighs, .int this_now_rounds, .int this_now_flag])), (this_now_state, .inr (5, [.ref this_now_state_lacks, .ref this_now_state_feels, .int this_now_state_date])), (this_now_state_lacks, .inl (k 0, 6, .inl this_now_state_lacks_f)), (this_now_state_feels, .inl (k 0, 6, .inl this_now_state_feels_f)), (this_here, .inr (7, [.ref this_here_names, .ref this_here_kinds, .ref this_here_begin, .ref this_here_law, .int this_here_persons, .int this_here_mast, .int this_here_weighs, .int this_here_rounds, .int this_here_toldOnce])), (this_here_kinds, .inl (k 0, 6, .inl this_here_kinds_f))]
set_option maxHeartbeats 4000000 in
set_option maxRecDepth 100000 in
theorem c_X11_firstToReach (l : Launch) (D : va_G) (k : Nat → ClassId) (this : Nat) (this_tape : Nat) (this_history : Nat) (this_seen : Nat) (this_measured : Nat) (this_marks : Nat) (this_standing : Nat) (this_now : Nat) (this_now_state : Nat) (this_now_state_lacks : Nat) (this_now_state_lacks_f : Nat → Int32) (this_now_state_feels : Nat) (this_now_state_feels_f : Nat → Int32) (this_now_state_date : Int32) (this_now_next : Nat) (this_now_town : Nat) (this_now_weighs : Int32) (this_now_rounds : Int32) (this_now_flag : Int32) (this_ahead : Nat) (this_here : Nat) (this_here_names : Nat) (this_here_kinds : Nat) (this_here_kinds_f : Nat → Int32) (this_here_begin : Nat) (this_here_law : Nat) (this_here_persons : Int32) (this_here_mast : Int32) (this_here_weighs : Int32) (this_here_rounds : Int32) (this_here_toldOnce : Int32) (this_townDraft : Nat) (this_told : Nat) (this_yearDraft : Nat) (this_drawn : Int64) (height : Int32) (more : Int32) (R0 : Int32) (hm : m_X11_firstToReach this_now_state_lacks_f this_here_kinds_f this_here_persons this_here_mast this_here_weighs this_here_rounds height more = some R0) : CR l D (TY k) yX11_firstToReach cX11_firstToReach 5 (some .int) 4 89 [.ref this, .int height, .int more] (wd_X11_firstToReach k this this_tape this_history this_seen this_measured this_marks this_standing this_now this_now_state this_now_state_lacks this_now_state_lacks_f this_now_state_feels this_now_state_feels_f this_now_state_date this_now_next this_now_town this_now_weighs this_now_rounds this_now_flag this_ahead this_here this_here_names this_here_kinds this_here_kinds_f this_here_begin this_here_law this_here_persons this_here_mast this_here_weighs this_here_rounds this_here_toldOnce this_townDraft this_told this_yearDraft this_drawn) (some (.int R0)) := by
  refine CR.mk (by decide) (Nat.le_of_ble_eq_true rfl) ?_
  intro p e s m args below meth c ls ⟨hx, hb, hr, hts, hown, hlocks, hml⟩ hP hG hl
  have hl : lv_has ls 5 [(0, .ref this), (1, .int height), (2, .int more)] := hl
  have h_2 : ∀ (n : Nat), ∀ (x3 : Int32) (ls : Array Slot), lv_has ls 5 [(0, .ref this), (1, .int height), (2, .int more), (3, .int x3)] → m_X11_firstToReach_2 this_now_state_lacks_f this_here_kinds_f this_here_persons this_here_mast this_here_weighs this_here_rounds height more n x3 = some R0 → W p l e (Rm 4 89) s m args below meth c s.heap [] 0 0 (MQ below (QR (some (.int R0))) args s 0 0 (fun _ => False)) (F0 m 2 ls []) := by
    intro n
    induction n with
    | zero => intro x3 ls hl hm; cases hm
    | succ n ih =>
      intro x3 ls hl hm
      unfold m_X11_firstToReach_2 at hm
      refine lv_iload_n (pc := 2) hx hb dX11_firstToReach_2 rfl (lv_at hl 3 rfl) ?_
      refine lv_aload_n (pc := 3) hx hb dX11_firstToReach_3 rfl (lv_at hl 0 rfl) ?_
      refine va_get (pc := 4) (D := D) (ci := 9) (C := RX11) (T := TX11) (N := 13) hx hb hts hiX11 hown hG.1 hP 0 rfl rfl 8 (Nat.le_of_ble_eq_true rfl) (hts _ kw_352) (fun _ h9 => h9) rfl dX11_firstToReach_4 ?_
      refine va_getN (pc := 7) (D := D) (ci := 7) (C := RX8) (T := TX8) (N := 9) hx hb hts hiX8 hown hG.1 hP 5 rfl rfl 4 (Nat.le_of_ble_eq_true rfl) (va_Nw.use rfl (hG.2 _ kn_204)) (fun _ h9 => h9) rfl dX11_firstToReach_7 ?_
      refine lv_icmp_ge (tgt := 55) (pc := 10) hx hb dX11_firstToReach_10 (by decide) (fun hc => ?_) (fun hc => ?_)
      · rw [if_pos hc] at hm
        refine lv_iconst (v := (-1)) (pc := 55) hx hb dX11_firstToReach_55 (by decide) ?_
        rw [← Option.some.inj hm]
        exact W.iret hx hb hr (fun t ht _ => ⟨rfl, ht⟩) (fun _ h => by cases h) dX11_firstToReach_56 hlocks
      · rw [if_neg hc] at hm
        refine lv_aload_n (pc := 13) hx hb dX11_firstToReach_13 rfl (lv_at hl 0 rfl) ?_
        refine va_get (pc := 14) (D := D) (ci := 9) (C := RX11) (T := TX11) (N := 13) hx hb hts hiX11 hown hG.1 hP 0 rfl rfl 6 (Nat.le_of_ble_eq_true rfl) (hts _ kw_350) (fun _ h9 => h9) rfl dX11_firstToReach_14 ?_
        refine lv_iload_n (pc := 17) hx hb dX11_firstToReach_17 rfl (lv_at hl 3 rfl) ?_
        obtain ⟨r4, hcl, hm⟩ := bd hm
        refine cr_back (run_VN (pc := 18) (n := 1) (As := [.int x3]) (rest := []) ⟨hx, hb, hml, hown, hts⟩ (c_X1_lacking l D k this_now this_now_state this_now_state_lacks this_now_state_lacks_f this_now_state_feels this_now_state_date this_now_next this_now_town this_now_weighs this_now_rounds this_now_flag x3 r4 hcl) ⟨kw_748, kw_8, by decide +kernel⟩ hG kn_745 kw_747 ks_54 ⟨Nat.le_of_ble_eq_true rfl, Nat.le_of_ble_eq_true rfl⟩ pr_blind (prR (hP.sub [1, 2, 3] rfl) hG) (va_recv hG.1 hP (ci := 0) (q0 := 1) rfl rfl) rfl hl.1 rfl (Nat.le_of_ble_eq_true rfl) dX11_firstToReach_18 ⟨Nat.zero_le _, Nat.zero_le _⟩) ?_
        refine lv_iload_n (pc := 21) hx hb dX11_firstToReach_21 rfl (lv_at hl 2 rfl) ?_
        refine lv_iadd (pc := 22) hx hb dX11_firstToReach_22 ?_
        refine lv_istore (lv' := [(4, .int (r4 + more)), (0, .ref this), (1, .int height), (2, .int more), (3, .int x3)]) (pc := 23) hx hb dX11_firstToReach_23 hl (Nat.le_of_ble_eq_true rfl) rfl (fun ls hl => ?_)
        refine lv_iload (pc := 25) hx hb dX11_firstToReach_25 (lv_at hl 0 rfl) ?_
        refine lv_iconst (v := 0) (pc := 27) hx hb dX11_firstToReach_27 (by decide) ?_
        refine lv_bipush (v := 60) (pc := 28) hx hb dX11_firstToReach_28 (by decide) ?_
        obtain ⟨r5, hcl, hm⟩ := bd hm
        refine cr_back (run_S (pc := 30) (n := 3) (As := [.int (r4 + more), .int 0, .int 60]) (rest := []) ⟨hx, hb, hml, hown, hts⟩ (c_X11_within l D k (r4 + more) 0 60 r5 hcl) ⟨kw_394, kw_1, by decide +kernel⟩ kw_759 kw_393 ⟨Nat.le_of_ble_eq_true rfl, Nat.le_of_ble_eq_true rfl⟩ pr_blind (prR (hP.sub [] rfl) hG) rfl hl.1 rfl (Nat.le_of_ble_eq_true rfl) dX11_firstToReach_30 ⟨Nat.zero_le _, Nat.zero_le _⟩) ?_
        refine lv_if_eq (tgt := 49) (pc := 33) hx hb dX11_firstToReach_33 (by decide) (fun hc => ?_) (fun hc => ?_)
        · rw [if_pos hc] at hm
          refine lv_iinc (k := 4) (v := x3 + 1) (lv' := [(3, .int (x3 + 1)), (4, .int (r4 + more)), (0, .ref this), (1, .int height), (2, .int more)]) (pc := 49) hx hb dX11_firstToReach_49 hl rfl rfl (Nat.le_of_ble_eq_true rfl) rfl (fun ls hl => ?_)
          refine lv_goto (tgt := 2) (pc := 52) hx hb dX11_firstToReach_52 (by decide) ?_
          exact ih (x3 + 1) ls (lv_sub hl [2, 3, 4, 0] rfl) hm
        · rw [if_neg hc] at hm
          refine lv_aload_n (pc := 36) hx hb dX11_firstToReach_36 rfl (lv_at hl 1 rfl) ?_
          refine lv_iload_n (pc := 37) hx hb dX11_firstToReach_37 rfl (lv_at hl 4 rfl) ?_
          refine lv_iload (pc := 38) hx hb dX11_firstToReach_38 (lv_at hl 0 rfl) ?_
          obtain ⟨r6, hcl, hm⟩ := bd hm
          refine cr_back (run_V (pc := 40) (n := 2) (As := [.int x3, .int (r4 + more)]) (rest := []) ⟨hx, hb, hml, hown, hts⟩ (c_X11_flagIfLacking l D k this this_tape this_history this_seen this_measured this_marks this_standing this_now this_now_state this_now_state_lacks this_now_state_lacks_f this_now_state_feels this_now_state_feels_f this_now_state_date this_now_next this_now_town this_now_weighs this_now_rounds this_now_flag this_ahead this_here this_here_names this_here_kinds this_here_kinds_f this_here_begin this_here_law this_here_persons this_here_mast this_here_weighs this_here_rounds this_here_toldOnce this_townDraft this_told this_yearDraft this_drawn x3 (r4 + more) r6 hcl) ⟨kw_928, kw_1, by decide +kernel⟩ kw_925 kw_927 ks_71 ⟨Nat.le_of_ble_eq_true rfl, Nat.le_of_ble_eq_true rfl⟩ pr_blind (prR (hP.sub [0, 1, 2, 3, 4, 5, 6] rfl) hG) (va_recv hG.1 hP (ci := 9) (q0 := 0) rfl rfl) rfl hl.1 rfl (Nat.le_of_ble_eq_true rfl) dX11_firstToReach_40 ⟨Nat.zero_le _, Nat.zero_le _⟩) ?_
          refine lv_iload_n (pc := 43) hx hb dX11_firstToReach_43 rfl (lv_at hl 2 rfl) ?_
          refine lv_icmp_ne (tgt := 49) (pc := 44) hx hb dX11_firstToReach_44 (by decide) (fun hc => ?_) (fun hc => ?_)
          · rw [if_neg hc] at hm
            refine lv_iinc (k := 4) (v := x3 + 1) (lv' := [(3, .int (x3 + 1)), (4, .int (r4 + more)), (0, .ref this), (1, .int height), (2, .int more)]) (pc := 49) hx hb dX11_firstToReach_49 hl rfl rfl (Nat.le_of_ble_eq_true rfl) rfl (fun ls hl => ?_)
            refine lv_goto (tgt := 2) (pc := 52) hx hb dX11_firstToReach_52 (by decide) ?_
            exact ih (x3 + 1) ls (lv_sub hl [2, 3, 4, 0] rfl) hm
          · rw [if_pos hc] at hm
            refine lv_iload_n (pc := 47) hx hb dX11_firstToReach_47 rfl (lv_at hl 4 rfl) ?_
            rw [← Option.some.inj hm]
            exact W.iret hx hb hr (fun t ht _ => ⟨rfl, ht⟩) (fun _ h => by cases h) dX11_firstToReach_48 hlocks
  unfold m_X11_firstToReach at hm
  refine lv_iconst (v := 0) (pc := 0) hx hb dX11_firstToReach_0 (by decide) ?_
  refine lv_istore_n (lv' := [(3, .int 0), (0, .ref this), (1, .int height), (2, .int more)]) (pc := 1) hx hb dX11_firstToReach_1 rfl hl (Nat.le_of_ble_eq_true rfl) rfl (fun ls hl => ?_)
  exact h_2 FU 0 ls (lv_sub hl [1, 2, 3, 0] rfl) hm
theorem dX11_least_0 : decode cX11_least 0 = .ok (.iload_n 1, 1) := by decide +kernel
theorem dX11_least_1 : decode cX11_least 1 = .ok (.iconst 0, 1) := by decide +kernel
theorem dX11_least_2 : decode cX11_least 2 = .ok (.bipush 99, 2) := by decide +kernel
theorem dX11_least_4 : decode cX11_least 4 = .ok (.invokestatic 148, 3) := by decide +kernel
theorem dX11_least_7 : decode cX11_least 7 = .ok (.ifCond .eq 12, 3) := by decide +kernel
theorem dX11_least_10 : decode cX11_least 10 = .ok (.iload_n 2, 1) := by decide +kernel
theorem dX11_least_11 : decode cX11_least 11 = .ok (.iconst 0, 1) := by decide +kernel
theorem dX11_least_12 : decode cX11_least 12 = .ok (.iconst 1, 1) := by decide +kernel
theorem dX11_least_13 : decode cX11_least 13 = .ok (.invokestatic 148, 3) := by decide +kernel
theorem dX11_least_16 : decode cX11_least 16 = .ok (.ifCond .ne 7, 3) := by decide +kernel
theorem dX11_least_19 : decode cX11_least 19 = .ok (.sipush (-1000), 3) := by decide +kernel
theorem dX11_least_22 : decode cX11_least 22 = .ok (.ireturn, 1) := by decide +kernel
theorem dX11_least_23 : decode cX11_least 23 = .ok (.aload_n 0, 1) := by decide +kernel
theorem dX11_least_24 : decode cX11_least 24 = .ok (.getfield 46, 3) := by decide +kernel
theorem dX11_least_27 : decode cX11_least 27 = .ok (.getfield 114, 3) := by decide +kernel
theorem dX11_least_30 : decode cX11_least 30 = .ok (.iload_n 1, 1) := by decide +kernel
theorem dX11_least_31 : decode cX11_least 31 = .ok (.if_icmp .ne 13, 3) := by decide +kernel
theorem dX11_least_34 : decode cX11_least 34 = .ok (.iload_n 2, 1) := by decide +kernel
theorem dX11_least_35 : decode cX11_least 35 = .ok (.ifCond .ne 7, 3) := by decide +kernel
theorem dX11_least_38 : decode cX11_least 38 = .ok (.iconst 0, 1) := by decide +kernel
theorem dX11_least_39 : decode cX11_least 39 = .ok (.goto 4, 3) := by decide +kernel
theorem dX11_least_42 : decode cX11_least 42 = .ok (.iconst (-1), 1) := by decide +kernel
theorem dX11_least_43 : decode cX11_least 43 = .ok (.ireturn, 1) := by decide +kernel
theorem dX11_least_44 : decode cX11_least 44 = .ok (.iconst 1, 1) := by decide +kernel
theorem dX11_least_45 : decode cX11_least 45 = .ok (.istore_n 3, 1) := by decide +kernel
theorem dX11_least_46 : decode cX11_least 46 = .ok (.iload_n 3, 1) := by decide +kernel
theorem dX11_least_47 : decode cX11_least 47 = .ok (.bipush 60, 2) := by decide +kernel
theorem dX11_least_49 : decode cX11_least 49 = .ok (.if_icmp .gt 57, 3) := by decide +kernel
theorem dX11_least_52 : decode cX11_least 52 = .ok (.iload_n 3, 1) := by decide +kernel
theorem dX11_least_53 : decode cX11_least 53 = .ok (.istore 4, 2) := by decide +kernel
theorem dX11_least_55 : decode cX11_least 55 = .ok (.iload 4, 2) := by decide +kernel
theorem dX11_least_57 : decode cX11_least 57 = .ok (.iload_n 3, 1) := by decide +kernel
theorem dX11_least_58 : decode cX11_least 58 = .ok (.ineg, 1) := by decide +kernel
theorem dX11_least_59 : decode cX11_least 59 = .ok (.if_icmp .lt 41, 3) := by decide +kernel
theorem dX11_least_62 : decode cX11_least 62 = .ok (.aload_n 0, 1) := by decide +kernel
theorem dX11_least_63 : decode cX11_least 63 = .ok (.iload_n 1, 1) := by decide +kernel
theorem dX11_least_64 : decode cX11_least 64 = .ok (.iload 4, 2) := by decide +kernel
theorem dX11_least_66 : decode cX11_least 66 = .ok (.invokevirtual 215, 3) := by decide +kernel
theorem dX11_least_69 : decode cX11_least 69 = .ok (.istore 5, 2) := by decide +kernel
theorem dX11_least_71 : decode cX11_least 71 = .ok (.iload 5, 2) := by decide +kernel
theorem dX11_least_73 : decode cX11_least 73 = .ok (.iconst (-1), 1) := by decide +kernel
theorem dX11_least_74 : decode cX11_least 74 = .ok (.if_icmp .eq 15, 3) := by decide +kernel
theorem dX11_least_77 : decode cX11_least 77 = .ok (.iload_n 2, 1) := by decide +kernel
theorem dX11_least_78 : decode cX11_least 78 = .ok (.ifCond .ne 8, 3) := by decide +kernel
theorem dX11_least_81 : decode cX11_least 81 = .ok (.iload 4, 2) := by decide +kernel
theorem dX11_least_83 : decode cX11_least 83 = .ok (.goto 5, 3) := by decide +kernel
theorem dX11_least_86 : decode cX11_least 86 = .ok (.iload 5, 2) := by decide +kernel
theorem dX11_least_88 : decode cX11_least 88 = .ok (.ireturn, 1) := by decide +kernel
theorem dX11_least_89 : decode cX11_least 89 = .ok (.iload 4, 2) := by decide +kernel
theorem dX11_least_91 : decode cX11_least 91 = .ok (.iconst 2, 1) := by decide +kernel
theorem dX11_least_92 : decode cX11_least 92 = .ok (.iload_n 3, 1) := by decide +kernel
theorem dX11_least_93 : decode cX11_least 93 = .ok (.imul, 1) := by decide +kernel
theorem dX11_least_94 : decode cX11_least 94 = .ok (.isub, 1) := by decide +kernel
theorem dX11_least_95 : decode cX11_least 95 = .ok (.istore 4, 2) := by decide +kernel
theorem dX11_least_97 : decode cX11_least 97 = .ok (.goto (-42), 3) := by decide +kernel
theorem dX11_least_100 : decode cX11_least 100 = .ok (.iinc 3 1, 3) := by decide +kernel
theorem dX11_least_103 : decode cX11_least 103 = .ok (.goto (-57), 3) := by decide +kernel
theorem dX11_least_106 : decode cX11_least 106 = .ok (.sipush (-1000), 3) := by decide +kernel
theorem dX11_least_109 : decode cX11_least 109 = .ok (.ireturn, 1) := by decide +kernel
abbrev wd_X11_least (k : Nat → ClassId) (this : Nat) (this_tape : Nat) (this_history : Nat) (this_seen : Nat) (this_measured : Nat) (this_marks : Nat) (this_standing : Nat) (this_now : Nat) (this_now_state : Nat) (this_now_state_lacks : Nat) (this_now_state_lacks_f : Nat → Int32) (this_now_state_feels : Nat) (this_now_state_feels_f : Nat → Int32) (this_now_state_date : Int32) (this_now_next : Nat) (this_now_town : Nat) (this_now_weighs : Int32) (this_now_rounds : Int32) (this_now_flag : Int32) (this_ahead : Nat) (this_here : Nat) (this_here_names : Nat) (this_here_kinds : Nat) (this_here_kinds_f : Nat → Int32) (this_here_begin : Nat) (this_here_law : Nat) (this_here_persons : Int32) (this_here_mast : Int32) (this_here_weighs : Int32) (this_here_rounds : Int32) (this_here_toldOnce : Int32) (this_townDraft : Nat) (this_told : Nat) (this_yearDraft : Nat) (this_drawn : Int64) : va_W := [(this, .inr (9, [.ref this_tape, .ref this_history, .ref this_seen, .ref this_measured, .ref this_marks, .ref this_standing, .ref this_now, .ref this_ahead, .ref this_here, .ref this_townDraft, .ref this_told, .ref this_yearDraft, .long this_drawn])), (this_now, .inr (0, [.ref this_now_state, .ref this_now_next, .ref this_now_town, .int this_now_weighs, .int this_now_rounds, .int this_now_flag])), (this_now_state, .inr (5, [.ref this_now_state_lacks, .ref this_now_state_feels, .int this_now_state_date])), (this_now_state_lacks, .inl (k 0, 6, .inl this_now_state_lacks_f)), (this_now_state_feels, .inl (k 0, 6, .inl this_now_state_feels_f)), (this_here, .inr (7, [.ref this_here_names, .ref this_here_kinds, .ref this_here_begin, .ref this_here_law, .int this_here_persons, .int this_here_mast, .int this_here_weighs, .int this_here_rounds, .int this_here_toldOnce])), (this_here_kinds, .inl (k 0, 6, .inl this_here_kinds_f))]
set_option maxHeartbeats 4000000 in
set_option maxRecDepth 100000 in
theorem c_X11_least (l : Launch) (D : va_G) (k : Nat → ClassId) (this : Nat) (this_tape : Nat) (this_history : Nat) (this_seen : Nat) (this_measured : Nat) (this_marks : Nat) (this_standing : Nat) (this_now : Nat) (this_now_state : Nat) (this_now_state_lacks : Nat) (this_now_state_lacks_f : Nat → Int32) (this_now_state_feels : Nat) (this_now_state_feels_f : Nat → Int32) (this_now_state_date : Int32) (this_now_next : Nat) (this_now_town : Nat) (this_now_weighs : Int32) (this_now_rounds : Int32) (this_now_flag : Int32) (this_ahead : Nat) (this_here : Nat) (this_here_names : Nat) (this_here_kinds : Nat) (this_here_kinds_f : Nat → Int32) (this_here_begin : Nat) (this_here_law : Nat) (this_here_persons : Int32) (this_here_mast : Int32) (this_here_weighs : Int32) (this_here_rounds : Int32) (this_here_toldOnce : Int32) (this_townDraft : Nat) (this_told : Nat) (this_yearDraft : Nat) (this_drawn : Int64) (height : Int32) (what : Int32) (R0 : Int32) (hm : m_X11_least this_now_state_lacks_f this_now_flag this_here_kinds_f this_here_persons this_here_mast this_here_weighs this_here_rounds height what = some R0) : CR l D (TY k) yX11_least cX11_least 6 (some .int) 5 113 [.ref this, .int height, .int what] (wd_X11_least k this this_tape this_history this_seen this_measured this_marks this_standing this_now this_now_state this_now_state_lacks this_now_state_lacks_f this_now_state_feels this_now_state_feels_f this_now_state_date this_now_next this_now_town this_now_weighs this_now_rounds this_now_flag this_ahead this_here this_here_names this_here_kinds this_here_kinds_f this_here_begin this_here_law this_here_persons this_here_mast this_here_weighs this_here_rounds this_here_toldOnce this_townDraft this_told this_yearDraft this_drawn) (some (.int R0)) := by
  refine CR.mk (by decide) (Nat.le_of_ble_eq_true rfl) ?_
  intro p e s m args below meth c ls ⟨hx, hb, hr, hts, hown, hlocks, hml⟩ hP hG hl
  have hl : lv_has ls 6 [(0, .ref this), (1, .int height), (2, .int what)] := hl
  have h_55 : ∀ (K46 : Int32 → Option (Int32)) (hK46 : ∀ (x3 : Int32) (ls : Array Slot), lv_has ls 6 [(0, .ref this), (1, .int height), (2, .int what), (3, .int x3)] → K46 x3 = some R0 → W p l e (Rm 5 113) s m args below meth c s.heap [] 0 0 (MQ below (QR (some (.int R0))) args s 0 0 (fun _ => False)) (F0 m 46 ls [])), ∀ (n : Nat), ∀ (x3 : Int32) (x4 : Int32) (ls : Array Slot), lv_has ls 6 [(0, .ref this), (1, .int height), (2, .int what), (3, .int x3), (4, .int x4)] → m_X11_least_55 this_now_state_lacks_f this_now_flag this_here_kinds_f this_here_persons this_here_mast this_here_weighs this_here_rounds height what K46 n x3 x4 = some R0 → W p l e (Rm 5 113) s m args below meth c s.heap [] 0 0 (MQ below (QR (some (.int R0))) args s 0 0 (fun _ => False)) (F0 m 55 ls []) := by
    intro K46 hK46
    intro n
    induction n with
    | zero => intro x3 x4 ls hl hm; cases hm
    | succ n ih =>
      intro x3 x4 ls hl hm
      unfold m_X11_least_55 at hm
      refine lv_iload (pc := 55) hx hb dX11_least_55 (lv_at hl 4 rfl) ?_
      refine lv_iload_n (pc := 57) hx hb dX11_least_57 rfl (lv_at hl 3 rfl) ?_
      refine lv_ineg (pc := 58) hx hb dX11_least_58 ?_
      refine lv_icmp_lt (tgt := 100) (pc := 59) hx hb dX11_least_59 (by decide) (fun hc => ?_) (fun hc => ?_)
      · rw [if_pos hc] at hm
        refine lv_iinc (k := 3) (v := x3 + 1) (lv' := [(3, .int (x3 + 1)), (0, .ref this), (1, .int height), (2, .int what), (4, .int x4)]) (pc := 100) hx hb dX11_least_100 hl rfl rfl (Nat.le_of_ble_eq_true rfl) rfl (fun ls hl => ?_)
        refine lv_goto (tgt := 46) (pc := 103) hx hb dX11_least_103 (by decide) ?_
        exact hK46 (x3 + 1) ls (lv_sub hl [1, 2, 3, 0] rfl) hm
      · rw [if_neg hc] at hm
        refine lv_aload_n (pc := 62) hx hb dX11_least_62 rfl (lv_at hl 0 rfl) ?_
        refine lv_iload_n (pc := 63) hx hb dX11_least_63 rfl (lv_at hl 1 rfl) ?_
        refine lv_iload (pc := 64) hx hb dX11_least_64 (lv_at hl 4 rfl) ?_
        obtain ⟨r4, hcl, hm⟩ := bd hm
        refine cr_back (run_V (pc := 66) (n := 2) (As := [.int height, .int x4]) (rest := []) ⟨hx, hb, hml, hown, hts⟩ (c_X11_firstToReach l D k this this_tape this_history this_seen this_measured this_marks this_standing this_now this_now_state this_now_state_lacks this_now_state_lacks_f this_now_state_feels this_now_state_feels_f this_now_state_date this_now_next this_now_town this_now_weighs this_now_rounds this_now_flag this_ahead this_here this_here_names this_here_kinds this_here_kinds_f this_here_begin this_here_law this_here_persons this_here_mast this_here_weighs this_here_rounds this_here_toldOnce this_townDraft this_told this_yearDraft this_drawn height x4 r4 hcl) ⟨kw_924, kw_1, by decide +kernel⟩ kw_921 kw_923 ks_70 ⟨Nat.le_of_ble_eq_true rfl, Nat.le_of_ble_eq_true rfl⟩ pr_blind (prR (hP.sub [0, 1, 2, 3, 4, 5, 6] rfl) hG) (va_recv hG.1 hP (ci := 9) (q0 := 0) rfl rfl) rfl hl.1 rfl (Nat.le_of_ble_eq_true rfl) dX11_least_66 ⟨Nat.zero_le _, Nat.zero_le _⟩) ?_
        refine lv_istore (lv' := [(5, .int r4), (0, .ref this), (1, .int height), (2, .int what), (3, .int x3), (4, .int x4)]) (pc := 69) hx hb dX11_least_69 hl (Nat.le_of_ble_eq_true rfl) rfl (fun ls hl => ?_)
        refine lv_iload (pc := 71) hx hb dX11_least_71 (lv_at hl 0 rfl) ?_
        refine lv_iconst (v := (-1)) (pc := 73) hx hb dX11_least_73 (by decide) ?_
        refine lv_icmp_eq (tgt := 89) (pc := 74) hx hb dX11_least_74 (by decide) (fun hc => ?_) (fun hc => ?_)
        · rw [if_pos hc] at hm
          refine lv_iload (pc := 89) hx hb dX11_least_89 (lv_at hl 5 rfl) ?_
          refine lv_iconst (v := 2) (pc := 91) hx hb dX11_least_91 (by decide) ?_
          refine lv_iload_n (pc := 92) hx hb dX11_least_92 rfl (lv_at hl 4 rfl) ?_
          refine lv_imul (pc := 93) hx hb dX11_least_93 ?_
          refine lv_isub (pc := 94) hx hb dX11_least_94 ?_
          refine lv_istore (lv' := [(4, .int (x4 - (2 * x3))), (5, .int r4), (0, .ref this), (1, .int height), (2, .int what), (3, .int x3)]) (pc := 95) hx hb dX11_least_95 hl (Nat.le_of_ble_eq_true rfl) rfl (fun ls hl => ?_)
          refine lv_goto (tgt := 55) (pc := 97) hx hb dX11_least_97 (by decide) ?_
          exact ih x3 (x4 - (2 * x3)) ls (lv_sub hl [2, 3, 4, 5, 0] rfl) hm
        · rw [if_neg hc] at hm
          refine lv_iload_n (pc := 77) hx hb dX11_least_77 rfl (lv_at hl 3 rfl) ?_
          refine lv_if_ne (tgt := 86) (pc := 78) hx hb dX11_least_78 (by decide) (fun hc => ?_) (fun hc => ?_)
          · rw [if_neg hc] at hm
            refine lv_iload (pc := 86) hx hb dX11_least_86 (lv_at hl 0 rfl) ?_
            rw [← Option.some.inj hm]
            exact W.iret hx hb hr (fun t ht _ => ⟨rfl, ht⟩) (fun _ h => by cases h) dX11_least_88 hlocks
          · rw [if_pos hc] at hm
            refine lv_iload (pc := 81) hx hb dX11_least_81 (lv_at hl 5 rfl) ?_
            refine lv_goto (tgt := 88) (pc := 83) hx hb dX11_least_83 (by decide) ?_
            rw [← Option.some.inj hm]
            exact W.iret hx hb hr (fun t ht _ => ⟨rfl, ht⟩) (fun _ h => by cases h) dX11_least_88 hlocks
  have h_46 : ∀ (n : Nat), ∀ (x3 : Int32) (ls : Array Slot), lv_has ls 6 [(0, .ref this), (1, .int height), (2, .int what), (3, .int x3)] → m_X11_least_46 this_now_state_lacks_f this_now_flag this_here_kinds_f this_here_persons this_here_mast this_here_weighs this_here_rounds height what n x3 = some R0 → W p l e (Rm 5 113) s m args below meth c s.heap [] 0 0 (MQ below (QR (some (.int R0))) args s 0 0 (fun _ => False)) (F0 m 46 ls []) := by
    intro n
    induction n with
    | zero => intro x3 ls hl hm; cases hm
    | succ n ih =>
      intro x3 ls hl hm
      unfold m_X11_least_46 at hm
      refine lv_iload_n (pc := 46) hx hb dX11_least_46 rfl (lv_at hl 3 rfl) ?_
      refine lv_bipush (v := 60) (pc := 47) hx hb dX11_least_47 (by decide) ?_
      refine lv_icmp_gt (tgt := 106) (pc := 49) hx hb dX11_least_49 (by decide) (fun hc => ?_) (fun hc => ?_)
      · rw [if_pos hc] at hm
        refine lv_sipush (v := (-1000)) (pc := 106) hx hb dX11_least_106 (by decide) ?_
        rw [← Option.some.inj hm]
        exact W.iret hx hb hr (fun t ht _ => ⟨rfl, ht⟩) (fun _ h => by cases h) dX11_least_109 hlocks
      · rw [if_neg hc] at hm
        refine lv_iload_n (pc := 52) hx hb dX11_least_52 rfl (lv_at hl 3 rfl) ?_
        refine lv_istore (lv' := [(4, .int x3), (0, .ref this), (1, .int height), (2, .int what), (3, .int x3)]) (pc := 53) hx hb dX11_least_53 hl (Nat.le_of_ble_eq_true rfl) rfl (fun ls hl => ?_)
        exact h_55 (m_X11_least_46 this_now_state_lacks_f this_now_flag this_here_kinds_f this_here_persons this_here_mast this_here_weighs this_here_rounds height what n) ih FU x3 x3 ls (lv_sub hl [1, 2, 3, 4, 0] rfl) hm
  unfold m_X11_least at hm
  refine lv_iload_n (pc := 0) hx hb dX11_least_0 rfl (lv_at hl 1 rfl) ?_
  refine lv_iconst (v := 0) (pc := 1) hx hb dX11_least_1 (by decide) ?_
  refine lv_bipush (v := 99) (pc := 2) hx hb dX11_least_2 (by decide) ?_
  obtain ⟨r5, hcl, hm⟩ := bd hm
  refine cr_back (run_S (pc := 4) (n := 3) (As := [.int height, .int 0, .int 99]) (rest := []) ⟨hx, hb, hml, hown, hts⟩ (c_X11_within l D k height 0 99 r5 hcl) ⟨kw_394, kw_1, by decide +kernel⟩ kw_759 kw_393 ⟨Nat.le_of_ble_eq_true rfl, Nat.le_of_ble_eq_true rfl⟩ pr_blind (prR (hP.sub [] rfl) hG) rfl hl.1 rfl (Nat.le_of_ble_eq_true rfl) dX11_least_4 ⟨Nat.zero_le _, Nat.zero_le _⟩) ?_
  refine lv_if_eq (tgt := 19) (pc := 7) hx hb dX11_least_7 (by decide) (fun hc => ?_) (fun hc => ?_)
  · rw [if_pos hc] at hm
    refine lv_sipush (v := (-1000)) (pc := 19) hx hb dX11_least_19 (by decide) ?_
    rw [← Option.some.inj hm]
    exact W.iret hx hb hr (fun t ht _ => ⟨rfl, ht⟩) (fun _ h => by cases h) dX11_least_22 hlocks
  · rw [if_neg hc] at hm
    refine lv_iload_n (pc := 10) hx hb dX11_least_10 rfl (lv_at hl 2 rfl) ?_
    refine lv_iconst (v := 0) (pc := 11) hx hb dX11_least_11 (by decide) ?_
    refine lv_iconst (v := 1) (pc := 12) hx hb dX11_least_12 (by decide) ?_
    obtain ⟨r6, hcl, hm⟩ := bd hm
    refine cr_back (run_S (pc := 13) (n := 3) (As := [.int what, .int 0, .int 1]) (rest := []) ⟨hx, hb, hml, hown, hts⟩ (c_X11_within l D k what 0 1 r6 hcl) ⟨kw_394, kw_1, by decide +kernel⟩ kw_759 kw_393 ⟨Nat.le_of_ble_eq_true rfl, Nat.le_of_ble_eq_true rfl⟩ pr_blind (prR (hP.sub [] rfl) hG) rfl hl.1 rfl (Nat.le_of_ble_eq_true rfl) dX11_least_13 ⟨Nat.zero_le _, Nat.zero_le _⟩) ?_
    refine lv_if_ne (tgt := 23) (pc := 16) hx hb dX11_least_16 (by decide) (fun hc => ?_) (fun hc => ?_)
    · rw [if_neg hc] at hm
      refine lv_aload_n (pc := 23) hx hb dX11_least_23 rfl (lv_at hl 0 rfl) ?_
      refine va_get (pc := 24) (D := D) (ci := 9) (C := RX11) (T := TX11) (N := 13) hx hb hts hiX11 hown hG.1 hP 0 rfl rfl 6 (Nat.le_of_ble_eq_true rfl) (hts _ kw_350) (fun _ h9 => h9) rfl dX11_least_24 ?_
      refine va_getN (pc := 27) (D := D) (ci := 0) (C := RX1) (T := TX1) (N := 6) hx hb hts hiX1 hown hG.1 hP 1 rfl rfl 5 (Nat.le_of_ble_eq_true rfl) (va_Nw.use rfl (hG.2 _ kn_156)) (fun _ h9 => h9) rfl dX11_least_27 ?_
      refine lv_iload_n (pc := 30) hx hb dX11_least_30 rfl (lv_at hl 1 rfl) ?_
      refine lv_icmp_ne (tgt := 44) (pc := 31) hx hb dX11_least_31 (by decide) (fun hc => ?_) (fun hc => ?_)
      · rw [if_neg hc] at hm
        refine lv_iconst (v := 1) (pc := 44) hx hb dX11_least_44 (by decide) ?_
        refine lv_istore_n (lv' := [(3, .int 1), (0, .ref this), (1, .int height), (2, .int what)]) (pc := 45) hx hb dX11_least_45 rfl hl (Nat.le_of_ble_eq_true rfl) rfl (fun ls hl => ?_)
        exact h_46 FU 1 ls (lv_sub hl [1, 2, 3, 0] rfl) hm
      · rw [if_pos hc] at hm
        refine lv_iload_n (pc := 34) hx hb dX11_least_34 rfl (lv_at hl 2 rfl) ?_
        refine lv_if_ne (tgt := 42) (pc := 35) hx hb dX11_least_35 (by decide) (fun hc => ?_) (fun hc => ?_)
        · rw [if_neg hc] at hm
          refine lv_iconst (v := (-1)) (pc := 42) hx hb dX11_least_42 (by decide) ?_
          rw [← Option.some.inj hm]
          exact W.iret hx hb hr (fun t ht _ => ⟨rfl, ht⟩) (fun _ h => by cases h) dX11_least_43 hlocks
        · rw [if_pos hc] at hm
          refine lv_iconst (v := 0) (pc := 38) hx hb dX11_least_38 (by decide) ?_
          refine lv_goto (tgt := 43) (pc := 39) hx hb dX11_least_39 (by decide) ?_
          rw [← Option.some.inj hm]
          exact W.iret hx hb hr (fun t ht _ => ⟨rfl, ht⟩) (fun _ h => by cases h) dX11_least_43 hlocks
    · rw [if_pos hc] at hm
      refine lv_sipush (v := (-1000)) (pc := 19) hx hb dX11_least_19 (by decide) ?_
      rw [← Option.some.inj hm]
      exact W.iret hx hb hr (fun t ht _ => ⟨rfl, ht⟩) (fun _ h => by cases h) dX11_least_22 hlocks
theorem dX11_cost_0 : decode cX11_cost 0 = .ok (.aload_n 0, 1) := by decide +kernel
theorem dX11_cost_1 : decode cX11_cost 1 = .ok (.getfield 56, 3) := by decide +kernel
theorem dX11_cost_4 : decode cX11_cost 4 = .ok (.iload_n 1, 1) := by decide +kernel
theorem dX11_cost_5 : decode cX11_cost 5 = .ok (.invokevirtual 117, 3) := by decide +kernel
theorem dX11_cost_8 : decode cX11_cost 8 = .ok (.ifCond .ne 5, 3) := by decide +kernel
theorem dX11_cost_11 : decode cX11_cost 11 = .ok (.iconst (-1), 1) := by decide +kernel
theorem dX11_cost_12 : decode cX11_cost 12 = .ok (.ireturn, 1) := by decide +kernel
theorem dX11_cost_13 : decode cX11_cost 13 = .ok (.iconst 1, 1) := by decide +kernel
theorem dX11_cost_14 : decode cX11_cost 14 = .ok (.istore_n 2, 1) := by decide +kernel
theorem dX11_cost_15 : decode cX11_cost 15 = .ok (.iload_n 2, 1) := by decide +kernel
theorem dX11_cost_16 : decode cX11_cost 16 = .ok (.aload_n 0, 1) := by decide +kernel
theorem dX11_cost_17 : decode cX11_cost 17 = .ok (.getfield 46, 3) := by decide +kernel
theorem dX11_cost_20 : decode cX11_cost 20 = .ok (.iload_n 1, 1) := by decide +kernel
theorem dX11_cost_21 : decode cX11_cost 21 = .ok (.invokevirtual 128, 3) := by decide +kernel
theorem dX11_cost_24 : decode cX11_cost 24 = .ok (.if_icmp .gt 36, 3) := by decide +kernel
theorem dX11_cost_27 : decode cX11_cost 27 = .ok (.aload_n 0, 1) := by decide +kernel
theorem dX11_cost_28 : decode cX11_cost 28 = .ok (.iload_n 1, 1) := by decide +kernel
theorem dX11_cost_29 : decode cX11_cost 29 = .ok (.aload_n 0, 1) := by decide +kernel
theorem dX11_cost_30 : decode cX11_cost 30 = .ok (.getfield 46, 3) := by decide +kernel
theorem dX11_cost_33 : decode cX11_cost 33 = .ok (.iload_n 1, 1) := by decide +kernel
theorem dX11_cost_34 : decode cX11_cost 34 = .ok (.invokevirtual 128, 3) := by decide +kernel
theorem dX11_cost_37 : decode cX11_cost 37 = .ok (.iload_n 2, 1) := by decide +kernel
theorem dX11_cost_38 : decode cX11_cost 38 = .ok (.isub, 1) := by decide +kernel
theorem dX11_cost_39 : decode cX11_cost 39 = .ok (.invokevirtual 218, 3) := by decide +kernel
theorem dX11_cost_42 : decode cX11_cost 42 = .ok (.aload_n 0, 1) := by decide +kernel
theorem dX11_cost_43 : decode cX11_cost 43 = .ok (.getfield 46, 3) := by decide +kernel
theorem dX11_cost_46 : decode cX11_cost 46 = .ok (.getfield 114, 3) := by decide +kernel
theorem dX11_cost_49 : decode cX11_cost 49 = .ok (.if_icmp .le 5, 3) := by decide +kernel
theorem dX11_cost_52 : decode cX11_cost 52 = .ok (.iload_n 2, 1) := by decide +kernel
theorem dX11_cost_53 : decode cX11_cost 53 = .ok (.ireturn, 1) := by decide +kernel
theorem dX11_cost_54 : decode cX11_cost 54 = .ok (.iinc 2 1, 3) := by decide +kernel
theorem dX11_cost_57 : decode cX11_cost 57 = .ok (.goto (-42), 3) := by decide +kernel
theorem dX11_cost_60 : decode cX11_cost 60 = .ok (.iconst (-1), 1) := by decide +kernel
theorem dX11_cost_61 : decode cX11_cost 61 = .ok (.ireturn, 1) := by decide +kernel
abbrev wd_X11_cost (k : Nat → ClassId) (this : Nat) (this_tape : Nat) (this_history : Nat) (this_seen : Nat) (this_measured : Nat) (this_marks : Nat) (this_standing : Nat) (this_now : Nat) (this_now_state : Nat) (this_now_state_lacks : Nat) (this_now_state_lacks_f : Nat → Int32) (this_now_state_feels : Nat) (this_now_state_feels_f : Nat → Int32) (this_now_state_date : Int32) (this_now_next : Nat) (this_now_town : Nat) (this_now_weighs : Int32) (this_now_rounds : Int32) (this_now_flag : Int32) (this_ahead : Nat) (this_here : Nat) (this_here_names : Nat) (this_here_kinds : Nat) (this_here_kinds_f : Nat → Int32) (this_here_begin : Nat) (this_here_law : Nat) (this_here_persons : Int32) (this_here_mast : Int32) (this_here_weighs : Int32) (this_here_rounds : Int32) (this_here_toldOnce : Int32) (this_townDraft : Nat) (this_told : Nat) (this_yearDraft : Nat) (this_drawn : Int64) : va_W := [(this, .inr (9, [.ref this_tape, .ref this_history, .ref this_seen, .ref this_measured, .ref this_marks, .ref this_standing, .ref this_now, .ref this_ahead, .ref this_here, .ref this_townDraft, .ref this_told, .ref this_yearDraft, .long this_drawn])), (this_now, .inr (0, [.ref this_now_state, .ref this_now_next, .ref this_now_town, .int this_now_weighs, .int this_now_rounds, .int this_now_flag])), (this_now_state, .inr (5, [.ref this_now_state_lacks, .ref this_now_state_feels, .int this_now_state_date])), (this_now_state_lacks, .inl (k 0, 6, .inl this_now_state_lacks_f)), (this_now_state_feels, .inl (k 0, 6, .inl this_now_state_feels_f)), (this_here, .inr (7, [.ref this_here_names, .ref this_here_kinds, .ref this_here_begin, .ref this_here_law, .int this_here_persons, .int this_here_mast, .int this_here_weighs, .int this_here_rounds, .int this_here_toldOnce])), (this_here_kinds, .inl (k 0, 6, .inl this_here_kinds_f))]
set_option maxHeartbeats 4000000 in
set_option maxRecDepth 100000 in
theorem c_X11_cost (l : Launch) (D : va_G) (k : Nat → ClassId) (this : Nat) (this_tape : Nat) (this_history : Nat) (this_seen : Nat) (this_measured : Nat) (this_marks : Nat) (this_standing : Nat) (this_now : Nat) (this_now_state : Nat) (this_now_state_lacks : Nat) (this_now_state_lacks_f : Nat → Int32) (this_now_state_feels : Nat) (this_now_state_feels_f : Nat → Int32) (this_now_state_date : Int32) (this_now_next : Nat) (this_now_town : Nat) (this_now_weighs : Int32) (this_now_rounds : Int32) (this_now_flag : Int32) (this_ahead : Nat) (this_here : Nat) (this_here_names : Nat) (this_here_kinds : Nat) (this_here_kinds_f : Nat → Int32) (this_here_begin : Nat) (this_here_law : Nat) (this_here_persons : Int32) (this_here_mast : Int32) (this_here_weighs : Int32) (this_here_rounds : Int32) (this_here_toldOnce : Int32) (this_townDraft : Nat) (this_told : Nat) (this_yearDraft : Nat) (this_drawn : Int64) (person : Int32) (R0 : Int32) (hm : m_X11_cost this_now_state_lacks_f this_now_flag this_here_kinds_f this_here_persons this_here_mast this_here_weighs this_here_rounds person = some R0) : CR l D (TY k) yX11_cost cX11_cost 3 (some .int) 4 89 [.ref this, .int person] (wd_X11_cost k this this_tape this_history this_seen this_measured this_marks this_standing this_now this_now_state this_now_state_lacks this_now_state_lacks_f this_now_state_feels this_now_state_feels_f this_now_state_date this_now_next this_now_town this_now_weighs this_now_rounds this_now_flag this_ahead this_here this_here_names this_here_kinds this_here_kinds_f this_here_begin this_here_law this_here_persons this_here_mast this_here_weighs this_here_rounds this_here_toldOnce this_townDraft this_told this_yearDraft this_drawn) (some (.int R0)) := by
  refine CR.mk (by decide) (Nat.le_of_ble_eq_true rfl) ?_
  intro p e s m args below meth c ls ⟨hx, hb, hr, hts, hown, hlocks, hml⟩ hP hG hl
  have hl : lv_has ls 3 [(0, .ref this), (1, .int person)] := hl
  have h_15 : ∀ (n : Nat), ∀ (x2 : Int32) (ls : Array Slot), lv_has ls 3 [(0, .ref this), (1, .int person), (2, .int x2)] → m_X11_cost_15 this_now_state_lacks_f this_now_flag this_here_kinds_f this_here_persons this_here_mast this_here_weighs this_here_rounds person n x2 = some R0 → W p l e (Rm 4 89) s m args below meth c s.heap [] 0 0 (MQ below (QR (some (.int R0))) args s 0 0 (fun _ => False)) (F0 m 15 ls []) := by
    intro n
    induction n with
    | zero => intro x2 ls hl hm; cases hm
    | succ n ih =>
      intro x2 ls hl hm
      unfold m_X11_cost_15 at hm
      refine lv_iload_n (pc := 15) hx hb dX11_cost_15 rfl (lv_at hl 2 rfl) ?_
      refine lv_aload_n (pc := 16) hx hb dX11_cost_16 rfl (lv_at hl 0 rfl) ?_
      refine va_get (pc := 17) (D := D) (ci := 9) (C := RX11) (T := TX11) (N := 13) hx hb hts hiX11 hown hG.1 hP 0 rfl rfl 6 (Nat.le_of_ble_eq_true rfl) (hts _ kw_350) (fun _ h9 => h9) rfl dX11_cost_17 ?_
      refine lv_iload_n (pc := 20) hx hb dX11_cost_20 rfl (lv_at hl 1 rfl) ?_
      obtain ⟨r5, hcl, hm⟩ := bd hm
      refine cr_back (run_VN (pc := 21) (n := 1) (As := [.int person]) (rest := [.int x2]) ⟨hx, hb, hml, hown, hts⟩ (c_X1_lacking l D k this_now this_now_state this_now_state_lacks this_now_state_lacks_f this_now_state_feels this_now_state_date this_now_next this_now_town this_now_weighs this_now_rounds this_now_flag person r5 hcl) ⟨kw_748, kw_8, by decide +kernel⟩ hG kn_745 kw_747 ks_54 ⟨Nat.le_of_ble_eq_true rfl, Nat.le_of_ble_eq_true rfl⟩ pr_blind (prR (hP.sub [1, 2, 3] rfl) hG) (va_recv hG.1 hP (ci := 0) (q0 := 1) rfl rfl) rfl hl.1 rfl (Nat.le_of_ble_eq_true rfl) dX11_cost_21 ⟨Nat.zero_le _, Nat.zero_le _⟩) ?_
      refine lv_icmp_gt (tgt := 60) (pc := 24) hx hb dX11_cost_24 (by decide) (fun hc => ?_) (fun hc => ?_)
      · rw [if_pos hc] at hm
        refine lv_iconst (v := (-1)) (pc := 60) hx hb dX11_cost_60 (by decide) ?_
        rw [← Option.some.inj hm]
        exact W.iret hx hb hr (fun t ht _ => ⟨rfl, ht⟩) (fun _ h => by cases h) dX11_cost_61 hlocks
      · rw [if_neg hc] at hm
        refine lv_aload_n (pc := 27) hx hb dX11_cost_27 rfl (lv_at hl 0 rfl) ?_
        refine lv_iload_n (pc := 28) hx hb dX11_cost_28 rfl (lv_at hl 1 rfl) ?_
        refine lv_aload_n (pc := 29) hx hb dX11_cost_29 rfl (lv_at hl 0 rfl) ?_
        refine va_get (pc := 30) (D := D) (ci := 9) (C := RX11) (T := TX11) (N := 13) hx hb hts hiX11 hown hG.1 hP 0 rfl rfl 6 (Nat.le_of_ble_eq_true rfl) (hts _ kw_350) (fun _ h9 => h9) rfl dX11_cost_30 ?_
        refine lv_iload_n (pc := 33) hx hb dX11_cost_33 rfl (lv_at hl 1 rfl) ?_
        obtain ⟨r6, hcl, hm⟩ := bd hm
        refine cr_back (run_VN (pc := 34) (n := 1) (As := [.int person]) (rest := [.int person, .ref this]) ⟨hx, hb, hml, hown, hts⟩ (c_X1_lacking l D k this_now this_now_state this_now_state_lacks this_now_state_lacks_f this_now_state_feels this_now_state_date this_now_next this_now_town this_now_weighs this_now_rounds this_now_flag person r6 hcl) ⟨kw_748, kw_8, by decide +kernel⟩ hG kn_745 kw_747 ks_54 ⟨Nat.le_of_ble_eq_true rfl, Nat.le_of_ble_eq_true rfl⟩ pr_blind (prR (hP.sub [1, 2, 3] rfl) hG) (va_recv hG.1 hP (ci := 0) (q0 := 1) rfl rfl) rfl hl.1 rfl (Nat.le_of_ble_eq_true rfl) dX11_cost_34 ⟨Nat.zero_le _, Nat.zero_le _⟩) ?_
        refine lv_iload_n (pc := 37) hx hb dX11_cost_37 rfl (lv_at hl 2 rfl) ?_
        refine lv_isub (pc := 38) hx hb dX11_cost_38 ?_
        obtain ⟨r7, hcl, hm⟩ := bd hm
        refine cr_back (run_V (pc := 39) (n := 2) (As := [.int person, .int (r6 - x2)]) (rest := []) ⟨hx, hb, hml, hown, hts⟩ (c_X11_flagIfLacking l D k this this_tape this_history this_seen this_measured this_marks this_standing this_now this_now_state this_now_state_lacks this_now_state_lacks_f this_now_state_feels this_now_state_feels_f this_now_state_date this_now_next this_now_town this_now_weighs this_now_rounds this_now_flag this_ahead this_here this_here_names this_here_kinds this_here_kinds_f this_here_begin this_here_law this_here_persons this_here_mast this_here_weighs this_here_rounds this_here_toldOnce this_townDraft this_told this_yearDraft this_drawn person (r6 - x2) r7 hcl) ⟨kw_928, kw_1, by decide +kernel⟩ kw_925 kw_927 ks_71 ⟨Nat.le_of_ble_eq_true rfl, Nat.le_of_ble_eq_true rfl⟩ pr_blind (prR (hP.sub [0, 1, 2, 3, 4, 5, 6] rfl) hG) (va_recv hG.1 hP (ci := 9) (q0 := 0) rfl rfl) rfl hl.1 rfl (Nat.le_of_ble_eq_true rfl) dX11_cost_39 ⟨Nat.zero_le _, Nat.zero_le _⟩) ?_
        refine lv_aload_n (pc := 42) hx hb dX11_cost_42 rfl (lv_at hl 0 rfl) ?_
        refine va_get (pc := 43) (D := D) (ci := 9) (C := RX11) (T := TX11) (N := 13) hx hb hts hiX11 hown hG.1 hP 0 rfl rfl 6 (Nat.le_of_ble_eq_true rfl) (hts _ kw_350) (fun _ h9 => h9) rfl dX11_cost_43 ?_
        refine va_getN (pc := 46) (D := D) (ci := 0) (C := RX1) (T := TX1) (N := 6) hx hb hts hiX1 hown hG.1 hP 1 rfl rfl 5 (Nat.le_of_ble_eq_true rfl) (va_Nw.use rfl (hG.2 _ kn_156)) (fun _ h9 => h9) rfl dX11_cost_46 ?_
        refine lv_icmp_le (tgt := 54) (pc := 49) hx hb dX11_cost_49 (by decide) (fun hc => ?_) (fun hc => ?_)
        · rw [if_pos hc] at hm
          refine lv_iinc (k := 2) (v := x2 + 1) (lv' := [(2, .int (x2 + 1)), (0, .ref this), (1, .int person)]) (pc := 54) hx hb dX11_cost_54 hl rfl rfl (Nat.le_of_ble_eq_true rfl) rfl (fun ls hl => ?_)
          refine lv_goto (tgt := 15) (pc := 57) hx hb dX11_cost_57 (by decide) ?_
          exact ih (x2 + 1) ls (lv_sub hl [1, 2, 0] rfl) hm
        · rw [if_neg hc] at hm
          refine lv_iload_n (pc := 52) hx hb dX11_cost_52 rfl (lv_at hl 2 rfl) ?_
          rw [← Option.some.inj hm]
          exact W.iret hx hb hr (fun t ht _ => ⟨rfl, ht⟩) (fun _ h => by cases h) dX11_cost_53 hlocks
  unfold m_X11_cost at hm
  refine lv_aload_n (pc := 0) hx hb dX11_cost_0 rfl (lv_at hl 0 rfl) ?_
  refine va_get (pc := 1) (D := D) (ci := 9) (C := RX11) (T := TX11) (N := 13) hx hb hts hiX11 hown hG.1 hP 0 rfl rfl 8 (Nat.le_of_ble_eq_true rfl) (hts _ kw_352) (fun _ h9 => h9) rfl dX11_cost_1 ?_
  refine lv_iload_n (pc := 4) hx hb dX11_cost_4 rfl (lv_at hl 1 rfl) ?_
  obtain ⟨r8, hcl, hm⟩ := bd hm
  refine cr_back (run_VN (pc := 5) (n := 1) (As := [.int person]) (rest := []) ⟨hx, hb, hml, hown, hts⟩ (c_X8_has l D k this_here this_here_names this_here_kinds this_here_begin this_here_law this_here_persons this_here_mast this_here_weighs this_here_rounds this_here_toldOnce person r8 hcl) ⟨kw_743, kw_9, by decide +kernel⟩ hG kn_740 kw_742 ks_53 ⟨Nat.le_of_ble_eq_true rfl, Nat.le_of_ble_eq_true rfl⟩ pr_blind (prR (hP.sub [5] rfl) hG) (va_recv hG.1 hP (ci := 7) (q0 := 5) rfl rfl) rfl hl.1 rfl (Nat.le_of_ble_eq_true rfl) dX11_cost_5 ⟨Nat.zero_le _, Nat.zero_le _⟩) ?_
  refine lv_if_ne (tgt := 13) (pc := 8) hx hb dX11_cost_8 (by decide) (fun hc => ?_) (fun hc => ?_)
  · rw [if_neg hc] at hm
    refine lv_iconst (v := 1) (pc := 13) hx hb dX11_cost_13 (by decide) ?_
    refine lv_istore_n (lv' := [(2, .int 1), (0, .ref this), (1, .int person)]) (pc := 14) hx hb dX11_cost_14 rfl hl (Nat.le_of_ble_eq_true rfl) rfl (fun ls hl => ?_)
    exact h_15 FU 1 ls (lv_sub hl [1, 2, 0] rfl) hm
  · rw [if_pos hc] at hm
    refine lv_iconst (v := (-1)) (pc := 11) hx hb dX11_cost_11 (by decide) ?_
    rw [← Option.some.inj hm]
    exact W.iret hx hb hr (fun t ht _ => ⟨rfl, ht⟩) (fun _ h => by cases h) dX11_cost_12 hlocks
theorem dX11_heavy_0 : decode cX11_heavy 0 = .ok (.iconst (-1), 1) := by decide +kernel
theorem dX11_heavy_1 : decode cX11_heavy 1 = .ok (.istore_n 1, 1) := by decide +kernel
theorem dX11_heavy_2 : decode cX11_heavy 2 = .ok (.iconst (-1), 1) := by decide +kernel
theorem dX11_heavy_3 : decode cX11_heavy 3 = .ok (.istore_n 2, 1) := by decide +kernel
theorem dX11_heavy_4 : decode cX11_heavy 4 = .ok (.iconst 0, 1) := by decide +kernel
theorem dX11_heavy_5 : decode cX11_heavy 5 = .ok (.istore_n 3, 1) := by decide +kernel
theorem dX11_heavy_6 : decode cX11_heavy 6 = .ok (.iload_n 3, 1) := by decide +kernel
theorem dX11_heavy_7 : decode cX11_heavy 7 = .ok (.aload_n 0, 1) := by decide +kernel
theorem dX11_heavy_8 : decode cX11_heavy 8 = .ok (.getfield 56, 3) := by decide +kernel
theorem dX11_heavy_11 : decode cX11_heavy 11 = .ok (.getfield 197, 3) := by decide +kernel
theorem dX11_heavy_14 : decode cX11_heavy 14 = .ok (.if_icmp .ge 38, 3) := by decide +kernel
theorem dX11_heavy_17 : decode cX11_heavy 17 = .ok (.aload_n 0, 1) := by decide +kernel
theorem dX11_heavy_18 : decode cX11_heavy 18 = .ok (.getfield 56, 3) := by decide +kernel
theorem dX11_heavy_21 : decode cX11_heavy 21 = .ok (.iload_n 3, 1) := by decide +kernel
theorem dX11_heavy_22 : decode cX11_heavy 22 = .ok (.aload_n 0, 1) := by decide +kernel
theorem dX11_heavy_23 : decode cX11_heavy 23 = .ok (.getfield 46, 3) := by decide +kernel
theorem dX11_heavy_26 : decode cX11_heavy 26 = .ok (.iload_n 3, 1) := by decide +kernel
theorem dX11_heavy_27 : decode cX11_heavy 27 = .ok (.invokevirtual 128, 3) := by decide +kernel
theorem dX11_heavy_30 : decode cX11_heavy 30 = .ok (.invokevirtual 132, 3) := by decide +kernel
theorem dX11_heavy_33 : decode cX11_heavy 33 = .ok (.istore 4, 2) := by decide +kernel
theorem dX11_heavy_35 : decode cX11_heavy 35 = .ok (.iload 4, 2) := by decide +kernel
theorem dX11_heavy_37 : decode cX11_heavy 37 = .ok (.iload_n 2, 1) := by decide +kernel
theorem dX11_heavy_38 : decode cX11_heavy 38 = .ok (.if_icmp .le 8, 3) := by decide +kernel
theorem dX11_heavy_41 : decode cX11_heavy 41 = .ok (.iload 4, 2) := by decide +kernel
theorem dX11_heavy_43 : decode cX11_heavy 43 = .ok (.istore_n 2, 1) := by decide +kernel
theorem dX11_heavy_44 : decode cX11_heavy 44 = .ok (.iload_n 3, 1) := by decide +kernel
theorem dX11_heavy_45 : decode cX11_heavy 45 = .ok (.istore_n 1, 1) := by decide +kernel
theorem dX11_heavy_46 : decode cX11_heavy 46 = .ok (.iinc 3 1, 3) := by decide +kernel
theorem dX11_heavy_49 : decode cX11_heavy 49 = .ok (.goto (-43), 3) := by decide +kernel
theorem dX11_heavy_52 : decode cX11_heavy 52 = .ok (.iload_n 1, 1) := by decide +kernel
theorem dX11_heavy_53 : decode cX11_heavy 53 = .ok (.ireturn, 1) := by decide +kernel
abbrev wd_X11_heavy (k : Nat → ClassId) (this : Nat) (this_tape : Nat) (this_history : Nat) (this_seen : Nat) (this_measured : Nat) (this_marks : Nat) (this_standing : Nat) (this_now : Nat) (this_now_state : Nat) (this_now_state_lacks : Nat) (this_now_state_lacks_f : Nat → Int32) (this_now_state_feels : Nat) (this_now_state_feels_f : Nat → Int32) (this_now_state_date : Int32) (this_now_next : Nat) (this_now_town : Nat) (this_now_weighs : Int32) (this_now_rounds : Int32) (this_now_flag : Int32) (this_ahead : Nat) (this_here : Nat) (this_here_names : Nat) (this_here_kinds : Nat) (this_here_kinds_f : Nat → Int32) (this_here_begin : Nat) (this_here_law : Nat) (this_here_persons : Int32) (this_here_mast : Int32) (this_here_weighs : Int32) (this_here_rounds : Int32) (this_here_toldOnce : Int32) (this_townDraft : Nat) (this_told : Nat) (this_yearDraft : Nat) (this_drawn : Int64) : va_W := [(this, .inr (9, [.ref this_tape, .ref this_history, .ref this_seen, .ref this_measured, .ref this_marks, .ref this_standing, .ref this_now, .ref this_ahead, .ref this_here, .ref this_townDraft, .ref this_told, .ref this_yearDraft, .long this_drawn])), (this_now, .inr (0, [.ref this_now_state, .ref this_now_next, .ref this_now_town, .int this_now_weighs, .int this_now_rounds, .int this_now_flag])), (this_now_state, .inr (5, [.ref this_now_state_lacks, .ref this_now_state_feels, .int this_now_state_date])), (this_now_state_lacks, .inl (k 0, 6, .inl this_now_state_lacks_f)), (this_now_state_feels, .inl (k 0, 6, .inl this_now_state_feels_f)), (this_here, .inr (7, [.ref this_here_names, .ref this_here_kinds, .ref this_here_begin, .ref this_here_law, .int this_here_persons, .int this_here_mast, .int this_here_weighs, .int this_here_rounds, .int this_here_toldOnce])), (this_here_kinds, .inl (k 0, 6, .inl this_here_kinds_f))]
set_option maxHeartbeats 4000000 in
set_option maxRecDepth 100000 in
theorem c_X11_heavy (l : Launch) (D : va_G) (k : Nat → ClassId) (this : Nat) (this_tape : Nat) (this_history : Nat) (this_seen : Nat) (this_measured : Nat) (this_marks : Nat) (this_standing : Nat) (this_now : Nat) (this_now_state : Nat) (this_now_state_lacks : Nat) (this_now_state_lacks_f : Nat → Int32) (this_now_state_feels : Nat) (this_now_state_feels_f : Nat → Int32) (this_now_state_date : Int32) (this_now_next : Nat) (this_now_town : Nat) (this_now_weighs : Int32) (this_now_rounds : Int32) (this_now_flag : Int32) (this_ahead : Nat) (this_here : Nat) (this_here_names : Nat) (this_here_kinds : Nat) (this_here_kinds_f : Nat → Int32) (this_here_begin : Nat) (this_here_law : Nat) (this_here_persons : Int32) (this_here_mast : Int32) (this_here_weighs : Int32) (this_here_rounds : Int32) (this_here_toldOnce : Int32) (this_townDraft : Nat) (this_told : Nat) (this_yearDraft : Nat) (this_drawn : Int64) (R0 : Int32) (hm : m_X11_heavy this_now_state_lacks_f this_here_kinds_f this_here_persons = some R0) : CR l D (TY k) yX11_heavy cX11_heavy 5 (some .int) 2 43 [.ref this] (wd_X11_heavy k this this_tape this_history this_seen this_measured this_marks this_standing this_now this_now_state this_now_state_lacks this_now_state_lacks_f this_now_state_feels this_now_state_feels_f this_now_state_date this_now_next this_now_town this_now_weighs this_now_rounds this_now_flag this_ahead this_here this_here_names this_here_kinds this_here_kinds_f this_here_begin this_here_law this_here_persons this_here_mast this_here_weighs this_here_rounds this_here_toldOnce this_townDraft this_told this_yearDraft this_drawn) (some (.int R0)) := by
  refine CR.mk (by decide) (Nat.le_of_ble_eq_true rfl) ?_
  intro p e s m args below meth c ls ⟨hx, hb, hr, hts, hown, hlocks, hml⟩ hP hG hl
  have hl : lv_has ls 5 [(0, .ref this)] := hl
  have h_6 : ∀ (n : Nat), ∀ (x1 : Int32) (x2 : Int32) (x3 : Int32) (ls : Array Slot), lv_has ls 5 [(0, .ref this), (1, .int x1), (2, .int x2), (3, .int x3)] → m_X11_heavy_6 this_now_state_lacks_f this_here_kinds_f this_here_persons n x1 x2 x3 = some R0 → W p l e (Rm 2 43) s m args below meth c s.heap [] 0 0 (MQ below (QR (some (.int R0))) args s 0 0 (fun _ => False)) (F0 m 6 ls []) := by
    intro n
    induction n with
    | zero => intro x1 x2 x3 ls hl hm; cases hm
    | succ n ih =>
      intro x1 x2 x3 ls hl hm
      unfold m_X11_heavy_6 at hm
      refine lv_iload_n (pc := 6) hx hb dX11_heavy_6 rfl (lv_at hl 3 rfl) ?_
      refine lv_aload_n (pc := 7) hx hb dX11_heavy_7 rfl (lv_at hl 0 rfl) ?_
      refine va_get (pc := 8) (D := D) (ci := 9) (C := RX11) (T := TX11) (N := 13) hx hb hts hiX11 hown hG.1 hP 0 rfl rfl 8 (Nat.le_of_ble_eq_true rfl) (hts _ kw_352) (fun _ h9 => h9) rfl dX11_heavy_8 ?_
      refine va_getN (pc := 11) (D := D) (ci := 7) (C := RX8) (T := TX8) (N := 9) hx hb hts hiX8 hown hG.1 hP 5 rfl rfl 4 (Nat.le_of_ble_eq_true rfl) (va_Nw.use rfl (hG.2 _ kn_204)) (fun _ h9 => h9) rfl dX11_heavy_11 ?_
      refine lv_icmp_ge (tgt := 52) (pc := 14) hx hb dX11_heavy_14 (by decide) (fun hc => ?_) (fun hc => ?_)
      · rw [if_pos hc] at hm
        refine lv_iload_n (pc := 52) hx hb dX11_heavy_52 rfl (lv_at hl 1 rfl) ?_
        rw [← Option.some.inj hm]
        exact W.iret hx hb hr (fun t ht _ => ⟨rfl, ht⟩) (fun _ h => by cases h) dX11_heavy_53 hlocks
      · rw [if_neg hc] at hm
        refine lv_aload_n (pc := 17) hx hb dX11_heavy_17 rfl (lv_at hl 0 rfl) ?_
        refine va_get (pc := 18) (D := D) (ci := 9) (C := RX11) (T := TX11) (N := 13) hx hb hts hiX11 hown hG.1 hP 0 rfl rfl 8 (Nat.le_of_ble_eq_true rfl) (hts _ kw_352) (fun _ h9 => h9) rfl dX11_heavy_18 ?_
        refine lv_iload_n (pc := 21) hx hb dX11_heavy_21 rfl (lv_at hl 3 rfl) ?_
        refine lv_aload_n (pc := 22) hx hb dX11_heavy_22 rfl (lv_at hl 0 rfl) ?_
        refine va_get (pc := 23) (D := D) (ci := 9) (C := RX11) (T := TX11) (N := 13) hx hb hts hiX11 hown hG.1 hP 0 rfl rfl 6 (Nat.le_of_ble_eq_true rfl) (hts _ kw_350) (fun _ h9 => h9) rfl dX11_heavy_23 ?_
        refine lv_iload_n (pc := 26) hx hb dX11_heavy_26 rfl (lv_at hl 3 rfl) ?_
        obtain ⟨r3, hcl, hm⟩ := bd hm
        refine cr_back (run_VN (pc := 27) (n := 1) (As := [.int x3]) (rest := [.int x3, .ref this_here]) ⟨hx, hb, hml, hown, hts⟩ (c_X1_lacking l D k this_now this_now_state this_now_state_lacks this_now_state_lacks_f this_now_state_feels this_now_state_date this_now_next this_now_town this_now_weighs this_now_rounds this_now_flag x3 r3 hcl) ⟨kw_748, kw_8, by decide +kernel⟩ hG kn_745 kw_747 ks_54 ⟨Nat.le_of_ble_eq_true rfl, Nat.le_of_ble_eq_true rfl⟩ pr_blind (prR (hP.sub [1, 2, 3] rfl) hG) (va_recv hG.1 hP (ci := 0) (q0 := 1) rfl rfl) rfl hl.1 rfl (Nat.le_of_ble_eq_true rfl) dX11_heavy_27 ⟨Nat.zero_le _, Nat.zero_le _⟩) ?_
        obtain ⟨r4, hcl, hm⟩ := bd hm
        refine cr_back (run_VN (pc := 30) (n := 2) (As := [.int x3, .int r3]) (rest := []) ⟨hx, hb, hml, hown, hts⟩ (c_X8_weight l D k this_here this_here_names this_here_kinds this_here_kinds_f this_here_begin this_here_law this_here_persons this_here_mast this_here_weighs this_here_rounds this_here_toldOnce x3 r3 r4 hcl) ⟨kw_333, kw_9, by decide +kernel⟩ hG kn_750 kw_332 ks_10 ⟨Nat.le_of_ble_eq_true rfl, Nat.le_of_ble_eq_true rfl⟩ pr_blind (prR (hP.sub [5, 6] rfl) hG) (va_recv hG.1 hP (ci := 7) (q0 := 5) rfl rfl) rfl hl.1 rfl (Nat.le_of_ble_eq_true rfl) dX11_heavy_30 ⟨Nat.zero_le _, Nat.zero_le _⟩) ?_
        refine lv_istore (lv' := [(4, .int r4), (0, .ref this), (1, .int x1), (2, .int x2), (3, .int x3)]) (pc := 33) hx hb dX11_heavy_33 hl (Nat.le_of_ble_eq_true rfl) rfl (fun ls hl => ?_)
        refine lv_iload (pc := 35) hx hb dX11_heavy_35 (lv_at hl 0 rfl) ?_
        refine lv_iload_n (pc := 37) hx hb dX11_heavy_37 rfl (lv_at hl 3 rfl) ?_
        refine lv_icmp_le (tgt := 46) (pc := 38) hx hb dX11_heavy_38 (by decide) (fun hc => ?_) (fun hc => ?_)
        · rw [if_pos hc] at hm
          refine lv_iinc (k := 4) (v := x3 + 1) (lv' := [(3, .int (x3 + 1)), (4, .int r4), (0, .ref this), (1, .int x1), (2, .int x2)]) (pc := 46) hx hb dX11_heavy_46 hl rfl rfl (Nat.le_of_ble_eq_true rfl) rfl (fun ls hl => ?_)
          refine lv_goto (tgt := 6) (pc := 49) hx hb dX11_heavy_49 (by decide) ?_
          exact ih x1 x2 (x3 + 1) ls (lv_sub hl [2, 3, 4, 0] rfl) hm
        · rw [if_neg hc] at hm
          refine lv_iload (pc := 41) hx hb dX11_heavy_41 (lv_at hl 0 rfl) ?_
          refine lv_istore_n (lv' := [(2, .int r4), (4, .int r4), (0, .ref this), (1, .int x1), (3, .int x3)]) (pc := 43) hx hb dX11_heavy_43 rfl hl (Nat.le_of_ble_eq_true rfl) rfl (fun ls hl => ?_)
          refine lv_iload_n (pc := 44) hx hb dX11_heavy_44 rfl (lv_at hl 4 rfl) ?_
          refine lv_istore_n (lv' := [(1, .int x3), (2, .int r4), (4, .int r4), (0, .ref this), (3, .int x3)]) (pc := 45) hx hb dX11_heavy_45 rfl hl (Nat.le_of_ble_eq_true rfl) rfl (fun ls hl => ?_)
          refine lv_iinc (k := 4) (v := x3 + 1) (lv' := [(3, .int (x3 + 1)), (1, .int x3), (2, .int r4), (4, .int r4), (0, .ref this)]) (pc := 46) hx hb dX11_heavy_46 hl rfl rfl (Nat.le_of_ble_eq_true rfl) rfl (fun ls hl => ?_)
          refine lv_goto (tgt := 6) (pc := 49) hx hb dX11_heavy_49 (by decide) ?_
          exact ih x3 r4 (x3 + 1) ls (lv_sub hl [4, 1, 2, 0] rfl) hm
  unfold m_X11_heavy at hm
  refine lv_iconst (v := (-1)) (pc := 0) hx hb dX11_heavy_0 (by decide) ?_
  refine lv_istore_n (lv' := [(1, .int (-1)), (0, .ref this)]) (pc := 1) hx hb dX11_heavy_1 rfl hl (Nat.le_of_ble_eq_true rfl) rfl (fun ls hl => ?_)
  refine lv_iconst (v := (-1)) (pc := 2) hx hb dX11_heavy_2 (by decide) ?_
  refine lv_istore_n (lv' := [(2, .int (-1)), (1, .int (-1)), (0, .ref this)]) (pc := 3) hx hb dX11_heavy_3 rfl hl (Nat.le_of_ble_eq_true rfl) rfl (fun ls hl => ?_)
  refine lv_iconst (v := 0) (pc := 4) hx hb dX11_heavy_4 (by decide) ?_
  refine lv_istore_n (lv' := [(3, .int 0), (2, .int (-1)), (1, .int (-1)), (0, .ref this)]) (pc := 5) hx hb dX11_heavy_5 rfl hl (Nat.le_of_ble_eq_true rfl) rfl (fun ls hl => ?_)
  exact h_6 FU (-1) (-1) 0 ls (lv_sub hl [3, 2, 1, 0] rfl) hm
theorem dX11_pair_0 : decode cX11_pair 0 = .ok (.iconst (-1), 1) := by decide +kernel
theorem dX11_pair_1 : decode cX11_pair 1 = .ok (.istore_n 1, 1) := by decide +kernel
theorem dX11_pair_2 : decode cX11_pair 2 = .ok (.iconst (-1), 1) := by decide +kernel
theorem dX11_pair_3 : decode cX11_pair 3 = .ok (.istore_n 2, 1) := by decide +kernel
theorem dX11_pair_4 : decode cX11_pair 4 = .ok (.iconst 0, 1) := by decide +kernel
theorem dX11_pair_5 : decode cX11_pair 5 = .ok (.istore_n 3, 1) := by decide +kernel
theorem dX11_pair_6 : decode cX11_pair 6 = .ok (.iload_n 3, 1) := by decide +kernel
theorem dX11_pair_7 : decode cX11_pair 7 = .ok (.aload_n 0, 1) := by decide +kernel
theorem dX11_pair_8 : decode cX11_pair 8 = .ok (.getfield 56, 3) := by decide +kernel
theorem dX11_pair_11 : decode cX11_pair 11 = .ok (.getfield 197, 3) := by decide +kernel
theorem dX11_pair_14 : decode cX11_pair 14 = .ok (.if_icmp .ge 65, 3) := by decide +kernel
theorem dX11_pair_17 : decode cX11_pair 17 = .ok (.iload_n 3, 1) := by decide +kernel
theorem dX11_pair_18 : decode cX11_pair 18 = .ok (.iconst 1, 1) := by decide +kernel
theorem dX11_pair_19 : decode cX11_pair 19 = .ok (.iadd, 1) := by decide +kernel
theorem dX11_pair_20 : decode cX11_pair 20 = .ok (.istore 4, 2) := by decide +kernel
theorem dX11_pair_22 : decode cX11_pair 22 = .ok (.iload 4, 2) := by decide +kernel
theorem dX11_pair_24 : decode cX11_pair 24 = .ok (.aload_n 0, 1) := by decide +kernel
theorem dX11_pair_25 : decode cX11_pair 25 = .ok (.getfield 56, 3) := by decide +kernel
theorem dX11_pair_28 : decode cX11_pair 28 = .ok (.getfield 197, 3) := by decide +kernel
theorem dX11_pair_31 : decode cX11_pair 31 = .ok (.if_icmp .ge 42, 3) := by decide +kernel
theorem dX11_pair_34 : decode cX11_pair 34 = .ok (.aload_n 0, 1) := by decide +kernel
theorem dX11_pair_35 : decode cX11_pair 35 = .ok (.iload_n 3, 1) := by decide +kernel
theorem dX11_pair_36 : decode cX11_pair 36 = .ok (.invokestatic 225, 3) := by decide +kernel
theorem dX11_pair_39 : decode cX11_pair 39 = .ok (.iload 4, 2) := by decide +kernel
theorem dX11_pair_41 : decode cX11_pair 41 = .ok (.invokestatic 225, 3) := by decide +kernel
theorem dX11_pair_44 : decode cX11_pair 44 = .ok (.ior, 1) := by decide +kernel
theorem dX11_pair_45 : decode cX11_pair 45 = .ok (.invokevirtual 205, 3) := by decide +kernel
theorem dX11_pair_48 : decode cX11_pair 48 = .ok (.istore 5, 2) := by decide +kernel
theorem dX11_pair_50 : decode cX11_pair 50 = .ok (.iload 5, 2) := by decide +kernel
theorem dX11_pair_52 : decode cX11_pair 52 = .ok (.iload_n 1, 1) := by decide +kernel
theorem dX11_pair_53 : decode cX11_pair 53 = .ok (.if_icmp .le 14, 3) := by decide +kernel
theorem dX11_pair_56 : decode cX11_pair 56 = .ok (.iload 5, 2) := by decide +kernel
theorem dX11_pair_58 : decode cX11_pair 58 = .ok (.istore_n 1, 1) := by decide +kernel
theorem dX11_pair_59 : decode cX11_pair 59 = .ok (.bipush 8, 2) := by decide +kernel
theorem dX11_pair_61 : decode cX11_pair 61 = .ok (.iload_n 3, 1) := by decide +kernel
theorem dX11_pair_62 : decode cX11_pair 62 = .ok (.imul, 1) := by decide +kernel
theorem dX11_pair_63 : decode cX11_pair 63 = .ok (.iload 4, 2) := by decide +kernel
theorem dX11_pair_65 : decode cX11_pair 65 = .ok (.iadd, 1) := by decide +kernel
theorem dX11_pair_66 : decode cX11_pair 66 = .ok (.istore_n 2, 1) := by decide +kernel
theorem dX11_pair_67 : decode cX11_pair 67 = .ok (.iinc 4 1, 3) := by decide +kernel
theorem dX11_pair_70 : decode cX11_pair 70 = .ok (.goto (-48), 3) := by decide +kernel
theorem dX11_pair_73 : decode cX11_pair 73 = .ok (.iinc 3 1, 3) := by decide +kernel
theorem dX11_pair_76 : decode cX11_pair 76 = .ok (.goto (-70), 3) := by decide +kernel
theorem dX11_pair_79 : decode cX11_pair 79 = .ok (.iload_n 2, 1) := by decide +kernel
theorem dX11_pair_80 : decode cX11_pair 80 = .ok (.ireturn, 1) := by decide +kernel
abbrev wd_X11_pair (k : Nat → ClassId) (this : Nat) (this_tape : Nat) (this_history : Nat) (this_seen : Nat) (this_measured : Nat) (this_marks : Nat) (this_standing : Nat) (this_now : Nat) (this_now_state : Nat) (this_now_state_lacks : Nat) (this_now_state_lacks_f : Nat → Int32) (this_now_state_feels : Nat) (this_now_state_feels_f : Nat → Int32) (this_now_state_date : Int32) (this_now_next : Nat) (this_now_town : Nat) (this_now_weighs : Int32) (this_now_rounds : Int32) (this_now_flag : Int32) (this_ahead : Nat) (this_here : Nat) (this_here_names : Nat) (this_here_kinds : Nat) (this_here_kinds_f : Nat → Int32) (this_here_begin : Nat) (this_here_law : Nat) (this_here_persons : Int32) (this_here_mast : Int32) (this_here_weighs : Int32) (this_here_rounds : Int32) (this_here_toldOnce : Int32) (this_townDraft : Nat) (this_told : Nat) (this_yearDraft : Nat) (this_drawn : Int64) : va_W := [(this, .inr (9, [.ref this_tape, .ref this_history, .ref this_seen, .ref this_measured, .ref this_marks, .ref this_standing, .ref this_now, .ref this_ahead, .ref this_here, .ref this_townDraft, .ref this_told, .ref this_yearDraft, .long this_drawn])), (this_now, .inr (0, [.ref this_now_state, .ref this_now_next, .ref this_now_town, .int this_now_weighs, .int this_now_rounds, .int this_now_flag])), (this_now_state, .inr (5, [.ref this_now_state_lacks, .ref this_now_state_feels, .int this_now_state_date])), (this_now_state_lacks, .inl (k 0, 6, .inl this_now_state_lacks_f)), (this_now_state_feels, .inl (k 0, 6, .inl this_now_state_feels_f)), (this_here, .inr (7, [.ref this_here_names, .ref this_here_kinds, .ref this_here_begin, .ref this_here_law, .int this_here_persons, .int this_here_mast, .int this_here_weighs, .int this_here_rounds, .int this_here_toldOnce])), (this_here_kinds, .inl (k 0, 6, .inl this_here_kinds_f))]
set_option maxHeartbeats 4000000 in
set_option maxRecDepth 100000 in
theorem c_X11_pair (l : Launch) (D : va_G) (k : Nat → ClassId) (this : Nat) (this_tape : Nat) (this_history : Nat) (this_seen : Nat) (this_measured : Nat) (this_marks : Nat) (this_standing : Nat) (this_now : Nat) (this_now_state : Nat) (this_now_state_lacks : Nat) (this_now_state_lacks_f : Nat → Int32) (this_now_state_feels : Nat) (this_now_state_feels_f : Nat → Int32) (this_now_state_date : Int32) (this_now_next : Nat) (this_now_town : Nat) (this_now_weighs : Int32) (this_now_rounds : Int32) (this_now_flag : Int32) (this_ahead : Nat) (this_here : Nat) (this_here_names : Nat) (this_here_kinds : Nat) (this_here_kinds_f : Nat → Int32) (this_here_begin : Nat) (this_here_law : Nat) (this_here_persons : Int32) (this_here_mast : Int32) (this_here_weighs : Int32) (this_here_rounds : Int32) (this_here_toldOnce : Int32) (this_townDraft : Nat) (this_told : Nat) (this_yearDraft : Nat) (this_drawn : Int64) (R0 : Int32) (hm : m_X11_pair this_now_state_lacks_f this_here_kinds_f this_here_persons this_here_mast this_here_weighs this_here_rounds = some R0) : CR l D (TY k) yX11_pair cX11_pair 6 (some .int) 4 89 [.ref this] (wd_X11_pair k this this_tape this_history this_seen this_measured this_marks this_standing this_now this_now_state this_now_state_lacks this_now_state_lacks_f this_now_state_feels this_now_state_feels_f this_now_state_date this_now_next this_now_town this_now_weighs this_now_rounds this_now_flag this_ahead this_here this_here_names this_here_kinds this_here_kinds_f this_here_begin this_here_law this_here_persons this_here_mast this_here_weighs this_here_rounds this_here_toldOnce this_townDraft this_told this_yearDraft this_drawn) (some (.int R0)) := by
  refine CR.mk (by decide) (Nat.le_of_ble_eq_true rfl) ?_
  intro p e s m args below meth c ls ⟨hx, hb, hr, hts, hown, hlocks, hml⟩ hP hG hl
  have hl : lv_has ls 6 [(0, .ref this)] := hl
  have h_22 : ∀ (K6 : Int32 → Int32 → Int32 → Option (Int32)) (hK6 : ∀ (x1 : Int32) (x2 : Int32) (x3 : Int32) (ls : Array Slot), lv_has ls 6 [(0, .ref this), (1, .int x1), (2, .int x2), (3, .int x3)] → K6 x1 x2 x3 = some R0 → W p l e (Rm 4 89) s m args below meth c s.heap [] 0 0 (MQ below (QR (some (.int R0))) args s 0 0 (fun _ => False)) (F0 m 6 ls [])), ∀ (n : Nat), ∀ (x1 : Int32) (x2 : Int32) (x3 : Int32) (x4 : Int32) (ls : Array Slot), lv_has ls 6 [(0, .ref this), (1, .int x1), (2, .int x2), (3, .int x3), (4, .int x4)] → m_X11_pair_22 this_now_state_lacks_f this_here_kinds_f this_here_persons this_here_mast this_here_weighs this_here_rounds K6 n x1 x2 x3 x4 = some R0 → W p l e (Rm 4 89) s m args below meth c s.heap [] 0 0 (MQ below (QR (some (.int R0))) args s 0 0 (fun _ => False)) (F0 m 22 ls []) := by
    intro K6 hK6
    intro n
    induction n with
    | zero => intro x1 x2 x3 x4 ls hl hm; cases hm
    | succ n ih =>
      intro x1 x2 x3 x4 ls hl hm
      unfold m_X11_pair_22 at hm
      refine lv_iload (pc := 22) hx hb dX11_pair_22 (lv_at hl 4 rfl) ?_
      refine lv_aload_n (pc := 24) hx hb dX11_pair_24 rfl (lv_at hl 0 rfl) ?_
      refine va_get (pc := 25) (D := D) (ci := 9) (C := RX11) (T := TX11) (N := 13) hx hb hts hiX11 hown hG.1 hP 0 rfl rfl 8 (Nat.le_of_ble_eq_true rfl) (hts _ kw_352) (fun _ h9 => h9) rfl dX11_pair_25 ?_
      refine va_getN (pc := 28) (D := D) (ci := 7) (C := RX8) (T := TX8) (N := 9) hx hb hts hiX8 hown hG.1 hP 5 rfl rfl 4 (Nat.le_of_ble_eq_true rfl) (va_Nw.use rfl (hG.2 _ kn_204)) (fun _ h9 => h9) rfl dX11_pair_28 ?_
      refine lv_icmp_ge (tgt := 73) (pc := 31) hx hb dX11_pair_31 (by decide) (fun hc => ?_) (fun hc => ?_)
      · rw [if_pos hc] at hm
        refine lv_iinc (k := 3) (v := x3 + 1) (lv' := [(3, .int (x3 + 1)), (0, .ref this), (1, .int x1), (2, .int x2), (4, .int x4)]) (pc := 73) hx hb dX11_pair_73 hl rfl rfl (Nat.le_of_ble_eq_true rfl) rfl (fun ls hl => ?_)
        refine lv_goto (tgt := 6) (pc := 76) hx hb dX11_pair_76 (by decide) ?_
        exact hK6 x1 x2 (x3 + 1) ls (lv_sub hl [1, 2, 3, 0] rfl) hm
      · rw [if_neg hc] at hm
        refine lv_aload_n (pc := 34) hx hb dX11_pair_34 rfl (lv_at hl 0 rfl) ?_
        refine lv_iload_n (pc := 35) hx hb dX11_pair_35 rfl (lv_at hl 3 rfl) ?_
        obtain ⟨r4, hcl, hm⟩ := bd hm
        refine cr_back (run_S (pc := 36) (n := 1) (As := [.int x3]) (rest := [.ref this]) ⟨hx, hb, hml, hown, hts⟩ (c_X11_bit l D k x3 r4 hcl) ⟨kw_607, kw_1, by decide +kernel⟩ kw_605 kw_606 ⟨Nat.le_of_ble_eq_true rfl, Nat.le_of_ble_eq_true rfl⟩ pr_blind (prR (hP.sub [] rfl) hG) rfl hl.1 rfl (Nat.le_of_ble_eq_true rfl) dX11_pair_36 ⟨Nat.zero_le _, Nat.zero_le _⟩) ?_
        refine lv_iload (pc := 39) hx hb dX11_pair_39 (lv_at hl 4 rfl) ?_
        obtain ⟨r5, hcl, hm⟩ := bd hm
        refine cr_back (run_S (pc := 41) (n := 1) (As := [.int x4]) (rest := [.int r4, .ref this]) ⟨hx, hb, hml, hown, hts⟩ (c_X11_bit l D k x4 r5 hcl) ⟨kw_607, kw_1, by decide +kernel⟩ kw_605 kw_606 ⟨Nat.le_of_ble_eq_true rfl, Nat.le_of_ble_eq_true rfl⟩ pr_blind (prR (hP.sub [] rfl) hG) rfl hl.1 rfl (Nat.le_of_ble_eq_true rfl) dX11_pair_41 ⟨Nat.zero_le _, Nat.zero_le _⟩) ?_
        refine lv_ior (pc := 44) hx hb dX11_pair_44 ?_
        obtain ⟨r6, hcl, hm⟩ := bd hm
        refine cr_back (run_V (pc := 45) (n := 1) (As := [.int (r4 ||| r5)]) (rest := []) ⟨hx, hb, hml, hown, hts⟩ (c_X11_flagWithout l D k this this_tape this_history this_seen this_measured this_marks this_standing this_now this_now_state this_now_state_lacks this_now_state_lacks_f this_now_state_feels this_now_state_feels_f this_now_state_date this_now_next this_now_town this_now_weighs this_now_rounds this_now_flag this_ahead this_here this_here_names this_here_kinds this_here_kinds_f this_here_begin this_here_law this_here_persons this_here_mast this_here_weighs this_here_rounds this_here_toldOnce this_townDraft this_told this_yearDraft this_drawn (r4 ||| r5) r6 hcl) ⟨kw_910, kw_1, by decide +kernel⟩ kw_907 kw_909 ks_68 ⟨Nat.le_of_ble_eq_true rfl, Nat.le_of_ble_eq_true rfl⟩ pr_blind (prR (hP.sub [0, 1, 2, 3, 4, 5, 6] rfl) hG) (va_recv hG.1 hP (ci := 9) (q0 := 0) rfl rfl) rfl hl.1 rfl (Nat.le_of_ble_eq_true rfl) dX11_pair_45 ⟨Nat.zero_le _, Nat.zero_le _⟩) ?_
        refine lv_istore (lv' := [(5, .int r6), (0, .ref this), (1, .int x1), (2, .int x2), (3, .int x3), (4, .int x4)]) (pc := 48) hx hb dX11_pair_48 hl (Nat.le_of_ble_eq_true rfl) rfl (fun ls hl => ?_)
        refine lv_iload (pc := 50) hx hb dX11_pair_50 (lv_at hl 0 rfl) ?_
        refine lv_iload_n (pc := 52) hx hb dX11_pair_52 rfl (lv_at hl 2 rfl) ?_
        refine lv_icmp_le (tgt := 67) (pc := 53) hx hb dX11_pair_53 (by decide) (fun hc => ?_) (fun hc => ?_)
        · rw [if_pos hc] at hm
          refine lv_iinc (k := 5) (v := x4 + 1) (lv' := [(4, .int (x4 + 1)), (5, .int r6), (0, .ref this), (1, .int x1), (2, .int x2), (3, .int x3)]) (pc := 67) hx hb dX11_pair_67 hl rfl rfl (Nat.le_of_ble_eq_true rfl) rfl (fun ls hl => ?_)
          refine lv_goto (tgt := 22) (pc := 70) hx hb dX11_pair_70 (by decide) ?_
          exact ih x1 x2 x3 (x4 + 1) ls (lv_sub hl [2, 3, 4, 5, 0] rfl) hm
        · rw [if_neg hc] at hm
          refine lv_iload (pc := 56) hx hb dX11_pair_56 (lv_at hl 0 rfl) ?_
          refine lv_istore_n (lv' := [(1, .int r6), (5, .int r6), (0, .ref this), (2, .int x2), (3, .int x3), (4, .int x4)]) (pc := 58) hx hb dX11_pair_58 rfl hl (Nat.le_of_ble_eq_true rfl) rfl (fun ls hl => ?_)
          refine lv_bipush (v := 8) (pc := 59) hx hb dX11_pair_59 (by decide) ?_
          refine lv_iload_n (pc := 61) hx hb dX11_pair_61 rfl (lv_at hl 4 rfl) ?_
          refine lv_imul (pc := 62) hx hb dX11_pair_62 ?_
          refine lv_iload (pc := 63) hx hb dX11_pair_63 (lv_at hl 5 rfl) ?_
          refine lv_iadd (pc := 65) hx hb dX11_pair_65 ?_
          refine lv_istore_n (lv' := [(2, .int ((8 * x3) + x4)), (1, .int r6), (5, .int r6), (0, .ref this), (3, .int x3), (4, .int x4)]) (pc := 66) hx hb dX11_pair_66 rfl hl (Nat.le_of_ble_eq_true rfl) rfl (fun ls hl => ?_)
          refine lv_iinc (k := 5) (v := x4 + 1) (lv' := [(4, .int (x4 + 1)), (2, .int ((8 * x3) + x4)), (1, .int r6), (5, .int r6), (0, .ref this), (3, .int x3)]) (pc := 67) hx hb dX11_pair_67 hl rfl rfl (Nat.le_of_ble_eq_true rfl) rfl (fun ls hl => ?_)
          refine lv_goto (tgt := 22) (pc := 70) hx hb dX11_pair_70 (by decide) ?_
          exact ih r6 ((8 * x3) + x4) x3 (x4 + 1) ls (lv_sub hl [4, 2, 1, 5, 0] rfl) hm
  have h_6 : ∀ (n : Nat), ∀ (x1 : Int32) (x2 : Int32) (x3 : Int32) (ls : Array Slot), lv_has ls 6 [(0, .ref this), (1, .int x1), (2, .int x2), (3, .int x3)] → m_X11_pair_6 this_now_state_lacks_f this_here_kinds_f this_here_persons this_here_mast this_here_weighs this_here_rounds n x1 x2 x3 = some R0 → W p l e (Rm 4 89) s m args below meth c s.heap [] 0 0 (MQ below (QR (some (.int R0))) args s 0 0 (fun _ => False)) (F0 m 6 ls []) := by
    intro n
    induction n with
    | zero => intro x1 x2 x3 ls hl hm; cases hm
    | succ n ih =>
      intro x1 x2 x3 ls hl hm
      unfold m_X11_pair_6 at hm
      refine lv_iload_n (pc := 6) hx hb dX11_pair_6 rfl (lv_at hl 3 rfl) ?_
      refine lv_aload_n (pc := 7) hx hb dX11_pair_7 rfl (lv_at hl 0 rfl) ?_
      refine va_get (pc := 8) (D := D) (ci := 9) (C := RX11) (T := TX11) (N := 13) hx hb hts hiX11 hown hG.1 hP 0 rfl rfl 8 (Nat.le_of_ble_eq_true rfl) (hts _ kw_352) (fun _ h9 => h9) rfl dX11_pair_8 ?_
      refine va_getN (pc := 11) (D := D) (ci := 7) (C := RX8) (T := TX8) (N := 9) hx hb hts hiX8 hown hG.1 hP 5 rfl rfl 4 (Nat.le_of_ble_eq_true rfl) (va_Nw.use rfl (hG.2 _ kn_204)) (fun _ h9 => h9) rfl dX11_pair_11 ?_
      refine lv_icmp_ge (tgt := 79) (pc := 14) hx hb dX11_pair_14 (by decide) (fun hc => ?_) (fun hc => ?_)
      · rw [if_pos hc] at hm
        refine lv_iload_n (pc := 79) hx hb dX11_pair_79 rfl (lv_at hl 2 rfl) ?_
        rw [← Option.some.inj hm]
        exact W.iret hx hb hr (fun t ht _ => ⟨rfl, ht⟩) (fun _ h => by cases h) dX11_pair_80 hlocks
      · rw [if_neg hc] at hm
        refine lv_iload_n (pc := 17) hx hb dX11_pair_17 rfl (lv_at hl 3 rfl) ?_
        refine lv_iconst (v := 1) (pc := 18) hx hb dX11_pair_18 (by decide) ?_
        refine lv_iadd (pc := 19) hx hb dX11_pair_19 ?_
        refine lv_istore (lv' := [(4, .int (x3 + 1)), (0, .ref this), (1, .int x1), (2, .int x2), (3, .int x3)]) (pc := 20) hx hb dX11_pair_20 hl (Nat.le_of_ble_eq_true rfl) rfl (fun ls hl => ?_)
        exact h_22 (m_X11_pair_6 this_now_state_lacks_f this_here_kinds_f this_here_persons this_here_mast this_here_weighs this_here_rounds n) ih FU x1 x2 x3 (x3 + 1) ls (lv_sub hl [1, 2, 3, 4, 0] rfl) hm
  unfold m_X11_pair at hm
  refine lv_iconst (v := (-1)) (pc := 0) hx hb dX11_pair_0 (by decide) ?_
  refine lv_istore_n (lv' := [(1, .int (-1)), (0, .ref this)]) (pc := 1) hx hb dX11_pair_1 rfl hl (Nat.le_of_ble_eq_true rfl) rfl (fun ls hl => ?_)
  refine lv_iconst (v := (-1)) (pc := 2) hx hb dX11_pair_2 (by decide) ?_
  refine lv_istore_n (lv' := [(2, .int (-1)), (1, .int (-1)), (0, .ref this)]) (pc := 3) hx hb dX11_pair_3 rfl hl (Nat.le_of_ble_eq_true rfl) rfl (fun ls hl => ?_)
  refine lv_iconst (v := 0) (pc := 4) hx hb dX11_pair_4 (by decide) ?_
  refine lv_istore_n (lv' := [(3, .int 0), (2, .int (-1)), (1, .int (-1)), (0, .ref this)]) (pc := 5) hx hb dX11_pair_5 rfl hl (Nat.le_of_ble_eq_true rfl) rfl (fun ls hl => ?_)
  exact h_6 FU (-1) (-1) 0 ls (lv_sub hl [3, 2, 1, 0] rfl) hm
theorem dX11_even_0 : decode cX11_even 0 = .ok (.aload_n 0, 1) := by decide +kernel
theorem dX11_even_1 : decode cX11_even 1 = .ok (.getfield 46, 3) := by decide +kernel
theorem dX11_even_4 : decode cX11_even 4 = .ok (.getfield 114, 3) := by decide +kernel
theorem dX11_even_7 : decode cX11_even 7 = .ok (.ifCond .ne 5, 3) := by decide +kernel
theorem dX11_even_10 : decode cX11_even 10 = .ok (.iconst 0, 1) := by decide +kernel
theorem dX11_even_11 : decode cX11_even 11 = .ok (.ireturn, 1) := by decide +kernel
theorem dX11_even_12 : decode cX11_even 12 = .ok (.aload_n 0, 1) := by decide +kernel
theorem dX11_even_13 : decode cX11_even 13 = .ok (.getfield 56, 3) := by decide +kernel
theorem dX11_even_16 : decode cX11_even 16 = .ok (.aload_n 0, 1) := by decide +kernel
theorem dX11_even_17 : decode cX11_even 17 = .ok (.getfield 46, 3) := by decide +kernel
theorem dX11_even_20 : decode cX11_even 20 = .ok (.getfield 136, 3) := by decide +kernel
theorem dX11_even_23 : decode cX11_even 23 = .ok (.invokevirtual 221, 3) := by decide +kernel
theorem dX11_even_26 : decode cX11_even 26 = .ok (.istore_n 1, 1) := by decide +kernel
theorem dX11_even_27 : decode cX11_even 27 = .ok (.iconst 1, 1) := by decide +kernel
theorem dX11_even_28 : decode cX11_even 28 = .ok (.istore_n 2, 1) := by decide +kernel
theorem dX11_even_29 : decode cX11_even 29 = .ok (.iload_n 2, 1) := by decide +kernel
theorem dX11_even_30 : decode cX11_even 30 = .ok (.bipush 20, 2) := by decide +kernel
theorem dX11_even_32 : decode cX11_even 32 = .ok (.if_icmp .ge 29, 3) := by decide +kernel
theorem dX11_even_35 : decode cX11_even 35 = .ok (.aload_n 0, 1) := by decide +kernel
theorem dX11_even_36 : decode cX11_even 36 = .ok (.getfield 56, 3) := by decide +kernel
theorem dX11_even_39 : decode cX11_even 39 = .ok (.iload_n 1, 1) := by decide +kernel
theorem dX11_even_40 : decode cX11_even 40 = .ok (.iload_n 2, 1) := by decide +kernel
theorem dX11_even_41 : decode cX11_even 41 = .ok (.iadd, 1) := by decide +kernel
theorem dX11_even_42 : decode cX11_even 42 = .ok (.invokevirtual 212, 3) := by decide +kernel
theorem dX11_even_45 : decode cX11_even 45 = .ok (.aload_n 0, 1) := by decide +kernel
theorem dX11_even_46 : decode cX11_even 46 = .ok (.getfield 46, 3) := by decide +kernel
theorem dX11_even_49 : decode cX11_even 49 = .ok (.getfield 114, 3) := by decide +kernel
theorem dX11_even_52 : decode cX11_even 52 = .ok (.if_icmp .lt 9, 3) := by decide +kernel
theorem dX11_even_55 : decode cX11_even 55 = .ok (.iinc 2 1, 3) := by decide +kernel
theorem dX11_even_58 : decode cX11_even 58 = .ok (.goto (-29), 3) := by decide +kernel
theorem dX11_even_61 : decode cX11_even 61 = .ok (.iload_n 2, 1) := by decide +kernel
theorem dX11_even_62 : decode cX11_even 62 = .ok (.ireturn, 1) := by decide +kernel
abbrev wd_X11_even (k : Nat → ClassId) (this : Nat) (this_tape : Nat) (this_history : Nat) (this_seen : Nat) (this_measured : Nat) (this_marks : Nat) (this_standing : Nat) (this_now : Nat) (this_now_state : Nat) (this_now_state_lacks : Nat) (this_now_state_lacks_f : Nat → Int32) (this_now_state_feels : Nat) (this_now_state_feels_f : Nat → Int32) (this_now_state_date : Int32) (this_now_next : Nat) (this_now_town : Nat) (this_now_weighs : Int32) (this_now_rounds : Int32) (this_now_flag : Int32) (this_ahead : Nat) (this_here : Nat) (this_here_names : Nat) (this_here_kinds : Nat) (this_here_kinds_f : Nat → Int32) (this_here_begin : Nat) (this_here_law : Nat) (this_here_persons : Int32) (this_here_mast : Int32) (this_here_weighs : Int32) (this_here_rounds : Int32) (this_here_toldOnce : Int32) (this_townDraft : Nat) (this_told : Nat) (this_yearDraft : Nat) (this_drawn : Int64) : va_W := [(this, .inr (9, [.ref this_tape, .ref this_history, .ref this_seen, .ref this_measured, .ref this_marks, .ref this_standing, .ref this_now, .ref this_ahead, .ref this_here, .ref this_townDraft, .ref this_told, .ref this_yearDraft, .long this_drawn])), (this_now, .inr (0, [.ref this_now_state, .ref this_now_next, .ref this_now_town, .int this_now_weighs, .int this_now_rounds, .int this_now_flag])), (this_now_state, .inr (5, [.ref this_now_state_lacks, .ref this_now_state_feels, .int this_now_state_date])), (this_now_state_lacks, .inl (k 0, 6, .inl this_now_state_lacks_f)), (this_now_state_feels, .inl (k 0, 6, .inl this_now_state_feels_f)), (this_here, .inr (7, [.ref this_here_names, .ref this_here_kinds, .ref this_here_begin, .ref this_here_law, .int this_here_persons, .int this_here_mast, .int this_here_weighs, .int this_here_rounds, .int this_here_toldOnce])), (this_here_kinds, .inl (k 0, 6, .inl this_here_kinds_f))]
set_option maxHeartbeats 4000000 in
set_option maxRecDepth 100000 in
theorem c_X11_even (l : Launch) (D : va_G) (k : Nat → ClassId) (this : Nat) (this_tape : Nat) (this_history : Nat) (this_seen : Nat) (this_measured : Nat) (this_marks : Nat) (this_standing : Nat) (this_now : Nat) (this_now_state : Nat) (this_now_state_lacks : Nat) (this_now_state_lacks_f : Nat → Int32) (this_now_state_feels : Nat) (this_now_state_feels_f : Nat → Int32) (this_now_state_date : Int32) (this_now_next : Nat) (this_now_town : Nat) (this_now_weighs : Int32) (this_now_rounds : Int32) (this_now_flag : Int32) (this_ahead : Nat) (this_here : Nat) (this_here_names : Nat) (this_here_kinds : Nat) (this_here_kinds_f : Nat → Int32) (this_here_begin : Nat) (this_here_law : Nat) (this_here_persons : Int32) (this_here_mast : Int32) (this_here_weighs : Int32) (this_here_rounds : Int32) (this_here_toldOnce : Int32) (this_townDraft : Nat) (this_told : Nat) (this_yearDraft : Nat) (this_drawn : Int64) (R0 : Int32) (hm : m_X11_even this_now_state_lacks_f this_now_flag this_here_kinds_f this_here_persons this_here_mast this_here_weighs this_here_rounds = some R0) : CR l D (TY k) yX11_even cX11_even 3 (some .int) 3 66 [.ref this] (wd_X11_even k this this_tape this_history this_seen this_measured this_marks this_standing this_now this_now_state this_now_state_lacks this_now_state_lacks_f this_now_state_feels this_now_state_feels_f this_now_state_date this_now_next this_now_town this_now_weighs this_now_rounds this_now_flag this_ahead this_here this_here_names this_here_kinds this_here_kinds_f this_here_begin this_here_law this_here_persons this_here_mast this_here_weighs this_here_rounds this_here_toldOnce this_townDraft this_told this_yearDraft this_drawn) (some (.int R0)) := by
  refine CR.mk (by decide) (Nat.le_of_ble_eq_true rfl) ?_
  intro p e s m args below meth c ls ⟨hx, hb, hr, hts, hown, hlocks, hml⟩ hP hG hl
  have hl : lv_has ls 3 [(0, .ref this)] := hl
  have h_29 : ∀ (n : Nat), ∀ (x1 : Int32) (x2 : Int32) (ls : Array Slot), lv_has ls 3 [(0, .ref this), (1, .int x1), (2, .int x2)] → m_X11_even_29 this_now_state_lacks_f this_now_flag this_here_kinds_f this_here_persons this_here_mast this_here_weighs this_here_rounds n x1 x2 = some R0 → W p l e (Rm 3 66) s m args below meth c s.heap [] 0 0 (MQ below (QR (some (.int R0))) args s 0 0 (fun _ => False)) (F0 m 29 ls []) := by
    intro n
    induction n with
    | zero => intro x1 x2 ls hl hm; cases hm
    | succ n ih =>
      intro x1 x2 ls hl hm
      unfold m_X11_even_29 at hm
      refine lv_iload_n (pc := 29) hx hb dX11_even_29 rfl (lv_at hl 2 rfl) ?_
      refine lv_bipush (v := 20) (pc := 30) hx hb dX11_even_30 (by decide) ?_
      refine lv_icmp_ge (tgt := 61) (pc := 32) hx hb dX11_even_32 (by decide) (fun hc => ?_) (fun hc => ?_)
      · rw [if_pos hc] at hm
        refine lv_iload_n (pc := 61) hx hb dX11_even_61 rfl (lv_at hl 2 rfl) ?_
        rw [← Option.some.inj hm]
        exact W.iret hx hb hr (fun t ht _ => ⟨rfl, ht⟩) (fun _ h => by cases h) dX11_even_62 hlocks
      · rw [if_neg hc] at hm
        refine lv_aload_n (pc := 35) hx hb dX11_even_35 rfl (lv_at hl 0 rfl) ?_
        refine va_get (pc := 36) (D := D) (ci := 9) (C := RX11) (T := TX11) (N := 13) hx hb hts hiX11 hown hG.1 hP 0 rfl rfl 8 (Nat.le_of_ble_eq_true rfl) (hts _ kw_352) (fun _ h9 => h9) rfl dX11_even_36 ?_
        refine lv_iload_n (pc := 39) hx hb dX11_even_39 rfl (lv_at hl 1 rfl) ?_
        refine lv_iload_n (pc := 40) hx hb dX11_even_40 rfl (lv_at hl 2 rfl) ?_
        refine lv_iadd (pc := 41) hx hb dX11_even_41 ?_
        obtain ⟨r3, hcl, hm⟩ := bd hm
        refine cr_back (run_VN (pc := 42) (n := 1) (As := [.int (x1 + x2)]) (rest := []) ⟨hx, hb, hml, hown, hts⟩ (c_X8_flagBy l D k this_here this_here_names this_here_kinds this_here_begin this_here_law this_here_persons this_here_mast this_here_weighs this_here_rounds this_here_toldOnce (x1 + x2) r3 hcl) ⟨kw_915, kw_9, by decide +kernel⟩ hG kn_912 kw_914 ks_69 ⟨Nat.le_of_ble_eq_true rfl, Nat.le_of_ble_eq_true rfl⟩ pr_blind (prR (hP.sub [5] rfl) hG) (va_recv hG.1 hP (ci := 7) (q0 := 5) rfl rfl) rfl hl.1 rfl (Nat.le_of_ble_eq_true rfl) dX11_even_42 ⟨Nat.zero_le _, Nat.zero_le _⟩) ?_
        refine lv_aload_n (pc := 45) hx hb dX11_even_45 rfl (lv_at hl 0 rfl) ?_
        refine va_get (pc := 46) (D := D) (ci := 9) (C := RX11) (T := TX11) (N := 13) hx hb hts hiX11 hown hG.1 hP 0 rfl rfl 6 (Nat.le_of_ble_eq_true rfl) (hts _ kw_350) (fun _ h9 => h9) rfl dX11_even_46 ?_
        refine va_getN (pc := 49) (D := D) (ci := 0) (C := RX1) (T := TX1) (N := 6) hx hb hts hiX1 hown hG.1 hP 1 rfl rfl 5 (Nat.le_of_ble_eq_true rfl) (va_Nw.use rfl (hG.2 _ kn_156)) (fun _ h9 => h9) rfl dX11_even_49 ?_
        refine lv_icmp_lt (tgt := 61) (pc := 52) hx hb dX11_even_52 (by decide) (fun hc => ?_) (fun hc => ?_)
        · rw [if_pos hc] at hm
          refine lv_iload_n (pc := 61) hx hb dX11_even_61 rfl (lv_at hl 2 rfl) ?_
          rw [← Option.some.inj hm]
          exact W.iret hx hb hr (fun t ht _ => ⟨rfl, ht⟩) (fun _ h => by cases h) dX11_even_62 hlocks
        · rw [if_neg hc] at hm
          refine lv_iinc (k := 2) (v := x2 + 1) (lv' := [(2, .int (x2 + 1)), (0, .ref this), (1, .int x1)]) (pc := 55) hx hb dX11_even_55 hl rfl rfl (Nat.le_of_ble_eq_true rfl) rfl (fun ls hl => ?_)
          refine lv_goto (tgt := 29) (pc := 58) hx hb dX11_even_58 (by decide) ?_
          exact ih x1 (x2 + 1) ls (lv_sub hl [1, 2, 0] rfl) hm
  unfold m_X11_even at hm
  refine lv_aload_n (pc := 0) hx hb dX11_even_0 rfl (lv_at hl 0 rfl) ?_
  refine va_get (pc := 1) (D := D) (ci := 9) (C := RX11) (T := TX11) (N := 13) hx hb hts hiX11 hown hG.1 hP 0 rfl rfl 6 (Nat.le_of_ble_eq_true rfl) (hts _ kw_350) (fun _ h9 => h9) rfl dX11_even_1 ?_
  refine va_getN (pc := 4) (D := D) (ci := 0) (C := RX1) (T := TX1) (N := 6) hx hb hts hiX1 hown hG.1 hP 1 rfl rfl 5 (Nat.le_of_ble_eq_true rfl) (va_Nw.use rfl (hG.2 _ kn_156)) (fun _ h9 => h9) rfl dX11_even_4 ?_
  refine lv_if_ne (tgt := 12) (pc := 7) hx hb dX11_even_7 (by decide) (fun hc => ?_) (fun hc => ?_)
  · rw [if_neg hc] at hm
    refine lv_aload_n (pc := 12) hx hb dX11_even_12 rfl (lv_at hl 0 rfl) ?_
    refine va_get (pc := 13) (D := D) (ci := 9) (C := RX11) (T := TX11) (N := 13) hx hb hts hiX11 hown hG.1 hP 0 rfl rfl 8 (Nat.le_of_ble_eq_true rfl) (hts _ kw_352) (fun _ h9 => h9) rfl dX11_even_13 ?_
    refine lv_aload_n (pc := 16) hx hb dX11_even_16 rfl (lv_at hl 0 rfl) ?_
    refine va_get (pc := 17) (D := D) (ci := 9) (C := RX11) (T := TX11) (N := 13) hx hb hts hiX11 hown hG.1 hP 0 rfl rfl 6 (Nat.le_of_ble_eq_true rfl) (hts _ kw_350) (fun _ h9 => h9) rfl dX11_even_17 ?_
    refine va_getN (pc := 20) (D := D) (ci := 0) (C := RX1) (T := TX1) (N := 6) hx hb hts hiX1 hown hG.1 hP 1 rfl rfl 0 (Nat.le_of_ble_eq_true rfl) (va_Nw.use rfl (hG.2 _ kn_149)) (fun _ h9 => h9) rfl dX11_even_20 ?_
    obtain ⟨r4, hcl, hm⟩ := bd hm
    refine cr_back (run_VN (pc := 23) (n := 1) (As := [.ref this_now_state]) (rest := []) ⟨hx, hb, hml, hown, hts⟩ (c_X8_weightOfAll l D k this_here this_here_names this_here_kinds this_here_kinds_f this_here_begin this_here_law this_here_persons this_here_mast this_here_weighs this_here_rounds this_here_toldOnce this_now_state this_now_state_lacks this_now_state_lacks_f this_now_state_feels this_now_state_date r4 hcl) ⟨kw_326, kw_9, by decide +kernel⟩ hG kn_929 kw_325 ks_9 ⟨Nat.le_of_ble_eq_true rfl, Nat.le_of_ble_eq_true rfl⟩ pr_blind (prR (hP.sub [5, 6, 2, 3] rfl) hG) (va_recv hG.1 hP (ci := 7) (q0 := 5) rfl rfl) rfl hl.1 rfl (Nat.le_of_ble_eq_true rfl) dX11_even_23 ⟨Nat.zero_le _, Nat.zero_le _⟩) ?_
    refine lv_istore_n (lv' := [(1, .int r4), (0, .ref this)]) (pc := 26) hx hb dX11_even_26 rfl hl (Nat.le_of_ble_eq_true rfl) rfl (fun ls hl => ?_)
    refine lv_iconst (v := 1) (pc := 27) hx hb dX11_even_27 (by decide) ?_
    refine lv_istore_n (lv' := [(2, .int 1), (1, .int r4), (0, .ref this)]) (pc := 28) hx hb dX11_even_28 rfl hl (Nat.le_of_ble_eq_true rfl) rfl (fun ls hl => ?_)
    exact h_29 FU r4 1 ls (lv_sub hl [2, 1, 0] rfl) hm
  · rw [if_pos hc] at hm
    refine lv_iconst (v := 0) (pc := 10) hx hb dX11_even_10 (by decide) ?_
    rw [← Option.some.inj hm]
    exact W.iret hx hb hr (fun t ht _ => ⟨rfl, ht⟩) (fun _ h => by cases h) dX11_even_11 hlocks
