theorem dX11_reach_0 : decode cX11_reach 0 = .ok (.aload_n 0, 1) := by decide +kernel
theorem dX11_reach_1 : decode cX11_reach 1 = .ok (.getfield 56, 3) := by decide +kernel
theorem dX11_reach_4 : decode cX11_reach 4 = .ok (.iload_n 1, 1) := by decide +kernel
theorem dX11_reach_5 : decode cX11_reach 5 = .ok (.invokevirtual 117, 3) := by decide +kernel
theorem dX11_reach_8 : decode cX11_reach 8 = .ok (.ifCond .eq 17, 3) := by decide +kernel
theorem dX11_reach_11 : decode cX11_reach 11 = .ok (.aload_n 0, 1) := by decide +kernel
theorem dX11_reach_12 : decode cX11_reach 12 = .ok (.getfield 46, 3) := by decide +kernel
theorem dX11_reach_15 : decode cX11_reach 15 = .ok (.getfield 136, 3) := by decide +kernel
theorem dX11_reach_18 : decode cX11_reach 18 = .ok (.iload_n 1, 1) := by decide +kernel
theorem dX11_reach_19 : decode cX11_reach 19 = .ok (.invokevirtual 264, 3) := by decide +kernel
theorem dX11_reach_22 : decode cX11_reach 22 = .ok (.goto 4, 3) := by decide +kernel
theorem dX11_reach_25 : decode cX11_reach 25 = .ok (.iconst (-1), 1) := by decide +kernel
theorem dX11_reach_26 : decode cX11_reach 26 = .ok (.ireturn, 1) := by decide +kernel
abbrev wd_X11_reach (k : Nat → ClassId) (this : Nat) (this_tape : Nat) (this_history : Nat) (this_seen : Nat) (this_measured : Nat) (this_marks : Nat) (this_standing : Nat) (this_now : Nat) (this_now_state : Nat) (this_now_state_lacks : Nat) (this_now_state_lacks_f : Nat → Int32) (this_now_state_feels : Nat) (this_now_state_feels_f : Nat → Int32) (this_now_state_date : Int32) (this_now_next : Nat) (this_now_town : Nat) (this_now_weighs : Int32) (this_now_rounds : Int32) (this_now_flag : Int32) (this_ahead : Nat) (this_here : Nat) (this_here_names : Nat) (this_here_kinds : Nat) (this_here_begin : Nat) (this_here_law : Nat) (this_here_persons : Int32) (this_here_mast : Int32) (this_here_weighs : Int32) (this_here_rounds : Int32) (this_here_toldOnce : Int32) (this_townDraft : Nat) (this_told : Nat) (this_yearDraft : Nat) (this_drawn : Int64) : va_W := [(this, .inr (9, [.ref this_tape, .ref this_history, .ref this_seen, .ref this_measured, .ref this_marks, .ref this_standing, .ref this_now, .ref this_ahead, .ref this_here, .ref this_townDraft, .ref this_told, .ref this_yearDraft, .long this_drawn])), (this_now, .inr (0, [.ref this_now_state, .ref this_now_next, .ref this_now_town, .int this_now_weighs, .int this_now_rounds, .int this_now_flag])), (this_now_state, .inr (5, [.ref this_now_state_lacks, .ref this_now_state_feels, .int this_now_state_date])), (this_now_state_lacks, .inl (k 0, 6, .inl this_now_state_lacks_f)), (this_now_state_feels, .inl (k 0, 6, .inl this_now_state_feels_f)), (this_here, .inr (7, [.ref this_here_names, .ref this_here_kinds, .ref this_here_begin, .ref this_here_law, .int this_here_persons, .int this_here_mast, .int this_here_weighs, .int this_here_rounds, .int this_here_toldOnce]))]
set_option maxHeartbeats 4000000 in
set_option maxRecDepth 100000 in
theorem c_X11_reach (l : Launch) (D : va_G) (k : Nat → ClassId) (this : Nat) (this_tape : Nat) (this_history : Nat) (this_seen : Nat) (this_measured : Nat) (this_marks : Nat) (this_standing : Nat) (this_now : Nat) (this_now_state : Nat) (this_now_state_lacks : Nat) (this_now_state_lacks_f : Nat → Int32) (this_now_state_feels : Nat) (this_now_state_feels_f : Nat → Int32) (this_now_state_date : Int32) (this_now_next : Nat) (this_now_town : Nat) (this_now_weighs : Int32) (this_now_rounds : Int32) (this_now_flag : Int32) (this_ahead : Nat) (this_here : Nat) (this_here_names : Nat) (this_here_kinds : Nat) (this_here_begin : Nat) (this_here_law : Nat) (this_here_persons : Int32) (this_here_mast : Int32) (this_here_weighs : Int32) (this_here_rounds : Int32) (this_here_toldOnce : Int32) (this_townDraft : Nat) (this_told : Nat) (this_yearDraft : Nat) (this_drawn : Int64) (person : Int32) (R0 : Int32) (hm : m_X11_reach this_now_state_feels_f this_here_persons person = some R0) : CR l D (TY k) yX11_reach cX11_reach 2 (some .int) 4 87 [.ref this, .int person] (wd_X11_reach k this this_tape this_history this_seen this_measured this_marks this_standing this_now this_now_state this_now_state_lacks this_now_state_lacks_f this_now_state_feels this_now_state_feels_f this_now_state_date this_now_next this_now_town this_now_weighs this_now_rounds this_now_flag this_ahead this_here this_here_names this_here_kinds this_here_begin this_here_law this_here_persons this_here_mast this_here_weighs this_here_rounds this_here_toldOnce this_townDraft this_told this_yearDraft this_drawn) (some (.int R0)) := by
  refine CR.mk (by decide) (Nat.le_of_ble_eq_true rfl) ?_
  intro p e s m args below meth c ls ⟨hx, hb, hr, hts, hown, hlocks, hml⟩ hP hG hl
  have hl : lv_has ls 2 [(0, .ref this), (1, .int person)] := hl
  unfold m_X11_reach at hm
  refine lv_aload_n (pc := 0) hx hb dX11_reach_0 rfl (lv_at hl 0 rfl) ?_
  refine va_get (pc := 1) (D := D) (ci := 9) (C := RX11) (T := TX11) (N := 13) hx hb hts hiX11 hown hG.1 hP 0 rfl rfl 8 (Nat.le_of_ble_eq_true rfl) (hts _ kw_352) (fun _ h9 => h9) rfl dX11_reach_1 ?_
  refine lv_iload_n (pc := 4) hx hb dX11_reach_4 rfl (lv_at hl 1 rfl) ?_
  obtain ⟨r3, hcl, hm⟩ := bd hm
  refine cr_back (run_VN (pc := 5) (n := 1) (As := [.int person]) (rest := []) ⟨hx, hb, hml, hown, hts⟩ (c_X8_has l D k this_here this_here_names this_here_kinds this_here_begin this_here_law this_here_persons this_here_mast this_here_weighs this_here_rounds this_here_toldOnce person r3 hcl) ⟨kw_743, kw_9, by decide +kernel⟩ hG kn_740 kw_742 ks_53 ⟨Nat.le_of_ble_eq_true rfl, Nat.le_of_ble_eq_true rfl⟩ pr_blind (prR (hP.sub [5] rfl) hG) (va_recv hG.1 hP (ci := 7) (q0 := 5) rfl rfl) rfl hl.1 rfl (Nat.le_of_ble_eq_true rfl) dX11_reach_5 ⟨Nat.zero_le _, Nat.zero_le _⟩) ?_
  refine lv_if_eq (tgt := 25) (pc := 8) hx hb dX11_reach_8 (by decide) (fun hc => ?_) (fun hc => ?_)
  · rw [if_pos hc] at hm
    refine lv_iconst (v := (-1)) (pc := 25) hx hb dX11_reach_25 (by decide) ?_
    rw [← Option.some.inj hm]
    exact W.iret hx hb hr (fun t ht _ => ⟨rfl, ht⟩) (fun _ h => by cases h) dX11_reach_26 hlocks
  · rw [if_neg hc] at hm
    refine lv_aload_n (pc := 11) hx hb dX11_reach_11 rfl (lv_at hl 0 rfl) ?_
    refine va_get (pc := 12) (D := D) (ci := 9) (C := RX11) (T := TX11) (N := 13) hx hb hts hiX11 hown hG.1 hP 0 rfl rfl 6 (Nat.le_of_ble_eq_true rfl) (hts _ kw_350) (fun _ h9 => h9) rfl dX11_reach_12 ?_
    refine va_getN (pc := 15) (D := D) (ci := 0) (C := RX1) (T := TX1) (N := 6) hx hb hts hiX1 hown hG.1 hP 1 rfl rfl 0 (Nat.le_of_ble_eq_true rfl) (va_Nw.use rfl (hG.2 _ kn_149)) (fun _ h9 => h9) rfl dX11_reach_15 ?_
    refine lv_iload_n (pc := 18) hx hb dX11_reach_18 rfl (lv_at hl 1 rfl) ?_
    obtain ⟨r4, hcl, hm⟩ := bd hm
    refine cr_back (run_VN (pc := 19) (n := 1) (As := [.int person]) (rest := []) ⟨hx, hb, hml, hown, hts⟩ (c_X6_feltFrom l D k this_now_state this_now_state_lacks this_now_state_lacks_f this_now_state_feels this_now_state_feels_f this_now_state_date person r4 hcl) ⟨kw_1008, kw_6, by decide +kernel⟩ hG kn_1005 kw_1007 ks_79 ⟨Nat.le_of_ble_eq_true rfl, Nat.le_of_ble_eq_true rfl⟩ pr_blind (prR (hP.sub [2, 3, 4] rfl) hG) (va_recv hG.1 hP (ci := 5) (q0 := 2) rfl rfl) rfl hl.1 rfl (Nat.le_of_ble_eq_true rfl) dX11_reach_19 ⟨Nat.zero_le _, Nat.zero_le _⟩) ?_
    refine lv_goto (tgt := 26) (pc := 22) hx hb dX11_reach_22 (by decide) ?_
    rw [← Option.some.inj hm]
    exact W.iret hx hb hr (fun t ht _ => ⟨rfl, ht⟩) (fun _ h => by cases h) dX11_reach_26 hlocks
theorem dX11_through_0 : decode cX11_through 0 = .ok (.aload_n 0, 1) := by decide +kernel
theorem dX11_through_1 : decode cX11_through 1 = .ok (.getfield 56, 3) := by decide +kernel
theorem dX11_through_4 : decode cX11_through 4 = .ok (.iload_n 1, 1) := by decide +kernel
theorem dX11_through_5 : decode cX11_through 5 = .ok (.invokevirtual 117, 3) := by decide +kernel
theorem dX11_through_8 : decode cX11_through 8 = .ok (.ifCond .eq 14, 3) := by decide +kernel
theorem dX11_through_11 : decode cX11_through 11 = .ok (.aload_n 0, 1) := by decide +kernel
theorem dX11_through_12 : decode cX11_through 12 = .ok (.getfield 56, 3) := by decide +kernel
theorem dX11_through_15 : decode cX11_through 15 = .ok (.iload_n 2, 1) := by decide +kernel
theorem dX11_through_16 : decode cX11_through 16 = .ok (.invokevirtual 117, 3) := by decide +kernel
theorem dX11_through_19 : decode cX11_through 19 = .ok (.ifCond .ne 5, 3) := by decide +kernel
theorem dX11_through_22 : decode cX11_through 22 = .ok (.iconst (-1), 1) := by decide +kernel
theorem dX11_through_23 : decode cX11_through 23 = .ok (.ireturn, 1) := by decide +kernel
theorem dX11_through_24 : decode cX11_through 24 = .ok (.aload_n 0, 1) := by decide +kernel
theorem dX11_through_25 : decode cX11_through 25 = .ok (.getfield 46, 3) := by decide +kernel
theorem dX11_through_28 : decode cX11_through 28 = .ok (.getfield 136, 3) := by decide +kernel
theorem dX11_through_31 : decode cX11_through 31 = .ok (.getfield 139, 3) := by decide +kernel
theorem dX11_through_34 : decode cX11_through 34 = .ok (.iload_n 1, 1) := by decide +kernel
theorem dX11_through_35 : decode cX11_through 35 = .ok (.invokestatic 124, 3) := by decide +kernel
theorem dX11_through_38 : decode cX11_through 38 = .ok (.istore_n 3, 1) := by decide +kernel
theorem dX11_through_39 : decode cX11_through 39 = .ok (.iconst 1, 1) := by decide +kernel
theorem dX11_through_40 : decode cX11_through 40 = .ok (.istore 4, 2) := by decide +kernel
theorem dX11_through_42 : decode cX11_through 42 = .ok (.iload 4, 2) := by decide +kernel
theorem dX11_through_44 : decode cX11_through 44 = .ok (.bipush 6, 2) := by decide +kernel
theorem dX11_through_46 : decode cX11_through 46 = .ok (.if_icmp .gt 34, 3) := by decide +kernel
theorem dX11_through_49 : decode cX11_through 49 = .ok (.iload_n 3, 1) := by decide +kernel
theorem dX11_through_50 : decode cX11_through 50 = .ok (.iload_n 2, 1) := by decide +kernel
theorem dX11_through_51 : decode cX11_through 51 = .ok (.invokestatic 208, 3) := by decide +kernel
theorem dX11_through_54 : decode cX11_through 54 = .ok (.ifCond .eq 6, 3) := by decide +kernel
theorem dX11_through_57 : decode cX11_through 57 = .ok (.iload 4, 2) := by decide +kernel
theorem dX11_through_59 : decode cX11_through 59 = .ok (.ireturn, 1) := by decide +kernel
theorem dX11_through_60 : decode cX11_through 60 = .ok (.iload_n 3, 1) := by decide +kernel
theorem dX11_through_61 : decode cX11_through 61 = .ok (.aload_n 0, 1) := by decide +kernel
theorem dX11_through_62 : decode cX11_through 62 = .ok (.getfield 46, 3) := by decide +kernel
theorem dX11_through_65 : decode cX11_through 65 = .ok (.getfield 136, 3) := by decide +kernel
theorem dX11_through_68 : decode cX11_through 68 = .ok (.iload_n 3, 1) := by decide +kernel
theorem dX11_through_69 : decode cX11_through 69 = .ok (.invokevirtual 267, 3) := by decide +kernel
theorem dX11_through_72 : decode cX11_through 72 = .ok (.ior, 1) := by decide +kernel
theorem dX11_through_73 : decode cX11_through 73 = .ok (.istore_n 3, 1) := by decide +kernel
theorem dX11_through_74 : decode cX11_through 74 = .ok (.iinc 4 1, 3) := by decide +kernel
theorem dX11_through_77 : decode cX11_through 77 = .ok (.goto (-35), 3) := by decide +kernel
theorem dX11_through_80 : decode cX11_through 80 = .ok (.iconst (-1), 1) := by decide +kernel
theorem dX11_through_81 : decode cX11_through 81 = .ok (.ireturn, 1) := by decide +kernel
abbrev wd_X11_through (k : Nat → ClassId) (this : Nat) (this_tape : Nat) (this_history : Nat) (this_seen : Nat) (this_measured : Nat) (this_marks : Nat) (this_standing : Nat) (this_now : Nat) (this_now_state : Nat) (this_now_state_lacks : Nat) (this_now_state_lacks_f : Nat → Int32) (this_now_state_feels : Nat) (this_now_state_feels_f : Nat → Int32) (this_now_state_date : Int32) (this_now_next : Nat) (this_now_town : Nat) (this_now_weighs : Int32) (this_now_rounds : Int32) (this_now_flag : Int32) (this_ahead : Nat) (this_here : Nat) (this_here_names : Nat) (this_here_kinds : Nat) (this_here_begin : Nat) (this_here_law : Nat) (this_here_persons : Int32) (this_here_mast : Int32) (this_here_weighs : Int32) (this_here_rounds : Int32) (this_here_toldOnce : Int32) (this_townDraft : Nat) (this_told : Nat) (this_yearDraft : Nat) (this_drawn : Int64) : va_W := [(this, .inr (9, [.ref this_tape, .ref this_history, .ref this_seen, .ref this_measured, .ref this_marks, .ref this_standing, .ref this_now, .ref this_ahead, .ref this_here, .ref this_townDraft, .ref this_told, .ref this_yearDraft, .long this_drawn])), (this_now, .inr (0, [.ref this_now_state, .ref this_now_next, .ref this_now_town, .int this_now_weighs, .int this_now_rounds, .int this_now_flag])), (this_now_state, .inr (5, [.ref this_now_state_lacks, .ref this_now_state_feels, .int this_now_state_date])), (this_now_state_lacks, .inl (k 0, 6, .inl this_now_state_lacks_f)), (this_now_state_feels, .inl (k 0, 6, .inl this_now_state_feels_f)), (this_here, .inr (7, [.ref this_here_names, .ref this_here_kinds, .ref this_here_begin, .ref this_here_law, .int this_here_persons, .int this_here_mast, .int this_here_weighs, .int this_here_rounds, .int this_here_toldOnce]))]
set_option maxHeartbeats 4000000 in
set_option maxRecDepth 100000 in
theorem c_X11_through (l : Launch) (D : va_G) (k : Nat → ClassId) (this : Nat) (this_tape : Nat) (this_history : Nat) (this_seen : Nat) (this_measured : Nat) (this_marks : Nat) (this_standing : Nat) (this_now : Nat) (this_now_state : Nat) (this_now_state_lacks : Nat) (this_now_state_lacks_f : Nat → Int32) (this_now_state_feels : Nat) (this_now_state_feels_f : Nat → Int32) (this_now_state_date : Int32) (this_now_next : Nat) (this_now_town : Nat) (this_now_weighs : Int32) (this_now_rounds : Int32) (this_now_flag : Int32) (this_ahead : Nat) (this_here : Nat) (this_here_names : Nat) (this_here_kinds : Nat) (this_here_begin : Nat) (this_here_law : Nat) (this_here_persons : Int32) (this_here_mast : Int32) (this_here_weighs : Int32) (this_here_rounds : Int32) (this_here_toldOnce : Int32) (this_townDraft : Nat) (this_told : Nat) (this_yearDraft : Nat) (this_drawn : Int64) (person : Int32) (other : Int32) (R0 : Int32) (hm : m_X11_through this_now_state_feels_f this_here_persons person other = some R0) : CR l D (TY k) yX11_through cX11_through 5 (some .int) 3 64 [.ref this, .int person, .int other] (wd_X11_through k this this_tape this_history this_seen this_measured this_marks this_standing this_now this_now_state this_now_state_lacks this_now_state_lacks_f this_now_state_feels this_now_state_feels_f this_now_state_date this_now_next this_now_town this_now_weighs this_now_rounds this_now_flag this_ahead this_here this_here_names this_here_kinds this_here_begin this_here_law this_here_persons this_here_mast this_here_weighs this_here_rounds this_here_toldOnce this_townDraft this_told this_yearDraft this_drawn) (some (.int R0)) := by
  refine CR.mk (by decide) (Nat.le_of_ble_eq_true rfl) ?_
  intro p e s m args below meth c ls ⟨hx, hb, hr, hts, hown, hlocks, hml⟩ hP hG hl
  have hl : lv_has ls 5 [(0, .ref this), (1, .int person), (2, .int other)] := hl
  have h_42 : ∀ (n : Nat), ∀ (x3 : Int32) (x4 : Int32) (ls : Array Slot), lv_has ls 5 [(0, .ref this), (2, .int other), (3, .int x3), (4, .int x4)] → m_X11_through_42 this_now_state_feels_f this_here_persons person other n x3 x4 = some R0 → W p l e (Rm 3 64) s m args below meth c s.heap [] 0 0 (MQ below (QR (some (.int R0))) args s 0 0 (fun _ => False)) (F0 m 42 ls []) := by
    intro n
    induction n with
    | zero => intro x3 x4 ls hl hm; cases hm
    | succ n ih =>
      intro x3 x4 ls hl hm
      unfold m_X11_through_42 at hm
      refine lv_iload (pc := 42) hx hb dX11_through_42 (lv_at hl 3 rfl) ?_
      refine lv_bipush (v := 6) (pc := 44) hx hb dX11_through_44 (by decide) ?_
      refine lv_icmp_gt (tgt := 80) (pc := 46) hx hb dX11_through_46 (by decide) (fun hc => ?_) (fun hc => ?_)
      · rw [if_pos hc] at hm
        refine lv_iconst (v := (-1)) (pc := 80) hx hb dX11_through_80 (by decide) ?_
        rw [← Option.some.inj hm]
        exact W.iret hx hb hr (fun t ht _ => ⟨rfl, ht⟩) (fun _ h => by cases h) dX11_through_81 hlocks
      · rw [if_neg hc] at hm
        refine lv_iload_n (pc := 49) hx hb dX11_through_49 rfl (lv_at hl 2 rfl) ?_
        refine lv_iload_n (pc := 50) hx hb dX11_through_50 rfl (lv_at hl 1 rfl) ?_
        obtain ⟨r6, hcl, hm⟩ := bd hm
        refine cr_back (run_S (pc := 51) (n := 2) (As := [.int x3, .int other]) (rest := []) ⟨hx, hb, hml, hown, hts⟩ (c_X11_holds l D k x3 other r6 hcl) ⟨kw_604, kw_1, by decide +kernel⟩ kw_911 kw_603 ⟨Nat.le_of_ble_eq_true rfl, Nat.le_of_ble_eq_true rfl⟩ pr_blind (prR (hP.sub [] rfl) hG) rfl hl.1 rfl (Nat.le_of_ble_eq_true rfl) dX11_through_51 ⟨Nat.zero_le _, Nat.zero_le _⟩) ?_
        refine lv_if_eq (tgt := 60) (pc := 54) hx hb dX11_through_54 (by decide) (fun hc => ?_) (fun hc => ?_)
        · rw [if_pos hc] at hm
          refine lv_iload_n (pc := 60) hx hb dX11_through_60 rfl (lv_at hl 2 rfl) ?_
          refine lv_aload_n (pc := 61) hx hb dX11_through_61 rfl (lv_at hl 0 rfl) ?_
          refine va_get (pc := 62) (D := D) (ci := 9) (C := RX11) (T := TX11) (N := 13) hx hb hts hiX11 hown hG.1 hP 0 rfl rfl 6 (Nat.le_of_ble_eq_true rfl) (hts _ kw_350) (fun _ h9 => h9) rfl dX11_through_62 ?_
          refine va_getN (pc := 65) (D := D) (ci := 0) (C := RX1) (T := TX1) (N := 6) hx hb hts hiX1 hown hG.1 hP 1 rfl rfl 0 (Nat.le_of_ble_eq_true rfl) (va_Nw.use rfl (hG.2 _ kn_149)) (fun _ h9 => h9) rfl dX11_through_65 ?_
          refine lv_iload_n (pc := 68) hx hb dX11_through_68 rfl (lv_at hl 2 rfl) ?_
          obtain ⟨r7, hcl, hm⟩ := bd hm
          refine cr_back (run_VN (pc := 69) (n := 1) (As := [.int x3]) (rest := [.int x3]) ⟨hx, hb, hml, hown, hts⟩ (c_X6_feltBy l D k this_now_state this_now_state_lacks this_now_state_lacks_f this_now_state_feels this_now_state_feels_f this_now_state_date x3 r7 hcl) ⟨kw_1012, kw_6, by decide +kernel⟩ hG kn_1017 kw_1011 ks_80 ⟨Nat.le_of_ble_eq_true rfl, Nat.le_of_ble_eq_true rfl⟩ pr_blind (prR (hP.sub [2, 3, 4] rfl) hG) (va_recv hG.1 hP (ci := 5) (q0 := 2) rfl rfl) rfl hl.1 rfl (Nat.le_of_ble_eq_true rfl) dX11_through_69 ⟨Nat.zero_le _, Nat.zero_le _⟩) ?_
          refine lv_ior (pc := 72) hx hb dX11_through_72 ?_
          refine lv_istore_n (lv' := [(3, .int (x3 ||| r7)), (0, .ref this), (2, .int other), (4, .int x4)]) (pc := 73) hx hb dX11_through_73 rfl hl (Nat.le_of_ble_eq_true rfl) rfl (fun ls hl => ?_)
          refine lv_iinc (k := 3) (v := x4 + 1) (lv' := [(4, .int (x4 + 1)), (3, .int (x3 ||| r7)), (0, .ref this), (2, .int other)]) (pc := 74) hx hb dX11_through_74 hl rfl rfl (Nat.le_of_ble_eq_true rfl) rfl (fun ls hl => ?_)
          refine lv_goto (tgt := 42) (pc := 77) hx hb dX11_through_77 (by decide) ?_
          exact ih (x3 ||| r7) (x4 + 1) ls (lv_sub hl [2, 3, 1, 0] rfl) hm
        · rw [if_neg hc] at hm
          refine lv_iload (pc := 57) hx hb dX11_through_57 (lv_at hl 3 rfl) ?_
          rw [← Option.some.inj hm]
          exact W.iret hx hb hr (fun t ht _ => ⟨rfl, ht⟩) (fun _ h => by cases h) dX11_through_59 hlocks
  unfold m_X11_through at hm
  refine lv_aload_n (pc := 0) hx hb dX11_through_0 rfl (lv_at hl 0 rfl) ?_
  refine va_get (pc := 1) (D := D) (ci := 9) (C := RX11) (T := TX11) (N := 13) hx hb hts hiX11 hown hG.1 hP 0 rfl rfl 8 (Nat.le_of_ble_eq_true rfl) (hts _ kw_352) (fun _ h9 => h9) rfl dX11_through_1 ?_
  refine lv_iload_n (pc := 4) hx hb dX11_through_4 rfl (lv_at hl 1 rfl) ?_
  obtain ⟨r8, hcl, hm⟩ := bd hm
  refine cr_back (run_VN (pc := 5) (n := 1) (As := [.int person]) (rest := []) ⟨hx, hb, hml, hown, hts⟩ (c_X8_has l D k this_here this_here_names this_here_kinds this_here_begin this_here_law this_here_persons this_here_mast this_here_weighs this_here_rounds this_here_toldOnce person r8 hcl) ⟨kw_743, kw_9, by decide +kernel⟩ hG kn_740 kw_742 ks_53 ⟨Nat.le_of_ble_eq_true rfl, Nat.le_of_ble_eq_true rfl⟩ pr_blind (prR (hP.sub [5] rfl) hG) (va_recv hG.1 hP (ci := 7) (q0 := 5) rfl rfl) rfl hl.1 rfl (Nat.le_of_ble_eq_true rfl) dX11_through_5 ⟨Nat.zero_le _, Nat.zero_le _⟩) ?_
  refine lv_if_eq (tgt := 22) (pc := 8) hx hb dX11_through_8 (by decide) (fun hc => ?_) (fun hc => ?_)
  · rw [if_pos hc] at hm
    refine lv_iconst (v := (-1)) (pc := 22) hx hb dX11_through_22 (by decide) ?_
    rw [← Option.some.inj hm]
    exact W.iret hx hb hr (fun t ht _ => ⟨rfl, ht⟩) (fun _ h => by cases h) dX11_through_23 hlocks
  · rw [if_neg hc] at hm
    refine lv_aload_n (pc := 11) hx hb dX11_through_11 rfl (lv_at hl 0 rfl) ?_
    refine va_get (pc := 12) (D := D) (ci := 9) (C := RX11) (T := TX11) (N := 13) hx hb hts hiX11 hown hG.1 hP 0 rfl rfl 8 (Nat.le_of_ble_eq_true rfl) (hts _ kw_352) (fun _ h9 => h9) rfl dX11_through_12 ?_
    refine lv_iload_n (pc := 15) hx hb dX11_through_15 rfl (lv_at hl 2 rfl) ?_
    obtain ⟨r9, hcl, hm⟩ := bd hm
    refine cr_back (run_VN (pc := 16) (n := 1) (As := [.int other]) (rest := []) ⟨hx, hb, hml, hown, hts⟩ (c_X8_has l D k this_here this_here_names this_here_kinds this_here_begin this_here_law this_here_persons this_here_mast this_here_weighs this_here_rounds this_here_toldOnce other r9 hcl) ⟨kw_743, kw_9, by decide +kernel⟩ hG kn_740 kw_742 ks_53 ⟨Nat.le_of_ble_eq_true rfl, Nat.le_of_ble_eq_true rfl⟩ pr_blind (prR (hP.sub [5] rfl) hG) (va_recv hG.1 hP (ci := 7) (q0 := 5) rfl rfl) rfl hl.1 rfl (Nat.le_of_ble_eq_true rfl) dX11_through_16 ⟨Nat.zero_le _, Nat.zero_le _⟩) ?_
    refine lv_if_ne (tgt := 24) (pc := 19) hx hb dX11_through_19 (by decide) (fun hc => ?_) (fun hc => ?_)
    · rw [if_neg hc] at hm
      refine lv_aload_n (pc := 24) hx hb dX11_through_24 rfl (lv_at hl 0 rfl) ?_
      refine va_get (pc := 25) (D := D) (ci := 9) (C := RX11) (T := TX11) (N := 13) hx hb hts hiX11 hown hG.1 hP 0 rfl rfl 6 (Nat.le_of_ble_eq_true rfl) (hts _ kw_350) (fun _ h9 => h9) rfl dX11_through_25 ?_
      refine va_getN (pc := 28) (D := D) (ci := 0) (C := RX1) (T := TX1) (N := 6) hx hb hts hiX1 hown hG.1 hP 1 rfl rfl 0 (Nat.le_of_ble_eq_true rfl) (va_Nw.use rfl (hG.2 _ kn_149)) (fun _ h9 => h9) rfl dX11_through_28 ?_
      refine va_getN (pc := 31) (D := D) (ci := 5) (C := RX6) (T := TX6) (N := 3) hx hb hts hiX6 hown hG.1 hP 2 rfl rfl 1 (Nat.le_of_ble_eq_true rfl) (va_Nw.use rfl (hG.2 _ kn_98)) (fun _ h9 => h9) rfl dX11_through_31 ?_
      refine lv_iload_n (pc := 34) hx hb dX11_through_34 rfl (lv_at hl 1 rfl) ?_
      obtain ⟨r10, hcl, hm⟩ := bd hm
      refine cr_back (run_S (pc := 35) (n := 2) (As := [.ref this_now_state_feels, .int person]) (rest := []) ⟨hx, hb, hml, hown, hts⟩ (c_X11_at l D k this_now_state_feels 6 this_now_state_feels_f person r10 hcl) ⟨kw_329, kw_1, by decide +kernel⟩ kw_744 kw_328 ⟨Nat.le_of_ble_eq_true rfl, Nat.le_of_ble_eq_true rfl⟩ pr_blind (prR (hP.sub [4] rfl) hG) rfl hl.1 rfl (Nat.le_of_ble_eq_true rfl) dX11_through_35 ⟨Nat.zero_le _, Nat.zero_le _⟩) ?_
      refine lv_istore_n (lv' := [(3, .int r10), (0, .ref this), (1, .int person), (2, .int other)]) (pc := 38) hx hb dX11_through_38 rfl hl (Nat.le_of_ble_eq_true rfl) rfl (fun ls hl => ?_)
      refine lv_iconst (v := 1) (pc := 39) hx hb dX11_through_39 (by decide) ?_
      refine lv_istore (lv' := [(4, .int 1), (3, .int r10), (0, .ref this), (1, .int person), (2, .int other)]) (pc := 40) hx hb dX11_through_40 hl (Nat.le_of_ble_eq_true rfl) rfl (fun ls hl => ?_)
      exact h_42 FU r10 1 ls (lv_sub hl [2, 4, 1, 0] rfl) hm
    · rw [if_pos hc] at hm
      refine lv_iconst (v := (-1)) (pc := 22) hx hb dX11_through_22 (by decide) ?_
      rw [← Option.some.inj hm]
      exact W.iret hx hb hr (fun t ht _ => ⟨rfl, ht⟩) (fun _ h => by cases h) dX11_through_23 hlocks
theorem dX11_isFirstOfGroup_0 : decode cX11_isFirstOfGroup 0 = .ok (.aload_n 0, 1) := by decide +kernel
theorem dX11_isFirstOfGroup_1 : decode cX11_isFirstOfGroup 1 = .ok (.getfield 46, 3) := by decide +kernel
theorem dX11_isFirstOfGroup_4 : decode cX11_isFirstOfGroup 4 = .ok (.getfield 136, 3) := by decide +kernel
theorem dX11_isFirstOfGroup_7 : decode cX11_isFirstOfGroup 7 = .ok (.iload_n 1, 1) := by decide +kernel
theorem dX11_isFirstOfGroup_8 : decode cX11_isFirstOfGroup 8 = .ok (.invokevirtual 264, 3) := by decide +kernel
theorem dX11_isFirstOfGroup_11 : decode cX11_isFirstOfGroup 11 = .ok (.istore_n 2, 1) := by decide +kernel
theorem dX11_isFirstOfGroup_12 : decode cX11_isFirstOfGroup 12 = .ok (.iconst 0, 1) := by decide +kernel
theorem dX11_isFirstOfGroup_13 : decode cX11_isFirstOfGroup 13 = .ok (.istore_n 3, 1) := by decide +kernel
theorem dX11_isFirstOfGroup_14 : decode cX11_isFirstOfGroup 14 = .ok (.iload_n 3, 1) := by decide +kernel
theorem dX11_isFirstOfGroup_15 : decode cX11_isFirstOfGroup 15 = .ok (.iload_n 1, 1) := by decide +kernel
theorem dX11_isFirstOfGroup_16 : decode cX11_isFirstOfGroup 16 = .ok (.if_icmp .ge 37, 3) := by decide +kernel
theorem dX11_isFirstOfGroup_19 : decode cX11_isFirstOfGroup 19 = .ok (.iload_n 2, 1) := by decide +kernel
theorem dX11_isFirstOfGroup_20 : decode cX11_isFirstOfGroup 20 = .ok (.iload_n 3, 1) := by decide +kernel
theorem dX11_isFirstOfGroup_21 : decode cX11_isFirstOfGroup 21 = .ok (.invokestatic 208, 3) := by decide +kernel
theorem dX11_isFirstOfGroup_24 : decode cX11_isFirstOfGroup 24 = .ok (.ifCond .eq 23, 3) := by decide +kernel
theorem dX11_isFirstOfGroup_27 : decode cX11_isFirstOfGroup 27 = .ok (.aload_n 0, 1) := by decide +kernel
theorem dX11_isFirstOfGroup_28 : decode cX11_isFirstOfGroup 28 = .ok (.getfield 46, 3) := by decide +kernel
theorem dX11_isFirstOfGroup_31 : decode cX11_isFirstOfGroup 31 = .ok (.getfield 136, 3) := by decide +kernel
theorem dX11_isFirstOfGroup_34 : decode cX11_isFirstOfGroup 34 = .ok (.iload_n 3, 1) := by decide +kernel
theorem dX11_isFirstOfGroup_35 : decode cX11_isFirstOfGroup 35 = .ok (.invokevirtual 264, 3) := by decide +kernel
theorem dX11_isFirstOfGroup_38 : decode cX11_isFirstOfGroup 38 = .ok (.iload_n 1, 1) := by decide +kernel
theorem dX11_isFirstOfGroup_39 : decode cX11_isFirstOfGroup 39 = .ok (.invokestatic 208, 3) := by decide +kernel
theorem dX11_isFirstOfGroup_42 : decode cX11_isFirstOfGroup 42 = .ok (.ifCond .eq 5, 3) := by decide +kernel
theorem dX11_isFirstOfGroup_45 : decode cX11_isFirstOfGroup 45 = .ok (.iconst 0, 1) := by decide +kernel
theorem dX11_isFirstOfGroup_46 : decode cX11_isFirstOfGroup 46 = .ok (.ireturn, 1) := by decide +kernel
theorem dX11_isFirstOfGroup_47 : decode cX11_isFirstOfGroup 47 = .ok (.iinc 3 1, 3) := by decide +kernel
theorem dX11_isFirstOfGroup_50 : decode cX11_isFirstOfGroup 50 = .ok (.goto (-36), 3) := by decide +kernel
theorem dX11_isFirstOfGroup_53 : decode cX11_isFirstOfGroup 53 = .ok (.iconst 1, 1) := by decide +kernel
theorem dX11_isFirstOfGroup_54 : decode cX11_isFirstOfGroup 54 = .ok (.ireturn, 1) := by decide +kernel
abbrev wd_X11_isFirstOfGroup (k : Nat → ClassId) (this : Nat) (this_tape : Nat) (this_history : Nat) (this_seen : Nat) (this_measured : Nat) (this_marks : Nat) (this_standing : Nat) (this_now : Nat) (this_now_state : Nat) (this_now_state_lacks : Nat) (this_now_state_lacks_f : Nat → Int32) (this_now_state_feels : Nat) (this_now_state_feels_f : Nat → Int32) (this_now_state_date : Int32) (this_now_next : Nat) (this_now_town : Nat) (this_now_weighs : Int32) (this_now_rounds : Int32) (this_now_flag : Int32) (this_ahead : Nat) (this_here : Nat) (this_here_names : Nat) (this_here_kinds : Nat) (this_here_begin : Nat) (this_here_law : Nat) (this_here_persons : Int32) (this_here_mast : Int32) (this_here_weighs : Int32) (this_here_rounds : Int32) (this_here_toldOnce : Int32) (this_townDraft : Nat) (this_told : Nat) (this_yearDraft : Nat) (this_drawn : Int64) : va_W := [(this, .inr (9, [.ref this_tape, .ref this_history, .ref this_seen, .ref this_measured, .ref this_marks, .ref this_standing, .ref this_now, .ref this_ahead, .ref this_here, .ref this_townDraft, .ref this_told, .ref this_yearDraft, .long this_drawn])), (this_now, .inr (0, [.ref this_now_state, .ref this_now_next, .ref this_now_town, .int this_now_weighs, .int this_now_rounds, .int this_now_flag])), (this_now_state, .inr (5, [.ref this_now_state_lacks, .ref this_now_state_feels, .int this_now_state_date])), (this_now_state_lacks, .inl (k 0, 6, .inl this_now_state_lacks_f)), (this_now_state_feels, .inl (k 0, 6, .inl this_now_state_feels_f)), (this_here, .inr (7, [.ref this_here_names, .ref this_here_kinds, .ref this_here_begin, .ref this_here_law, .int this_here_persons, .int this_here_mast, .int this_here_weighs, .int this_here_rounds, .int this_here_toldOnce]))]
set_option maxHeartbeats 4000000 in
set_option maxRecDepth 100000 in
theorem c_X11_isFirstOfGroup (l : Launch) (D : va_G) (k : Nat → ClassId) (this : Nat) (this_tape : Nat) (this_history : Nat) (this_seen : Nat) (this_measured : Nat) (this_marks : Nat) (this_standing : Nat) (this_now : Nat) (this_now_state : Nat) (this_now_state_lacks : Nat) (this_now_state_lacks_f : Nat → Int32) (this_now_state_feels : Nat) (this_now_state_feels_f : Nat → Int32) (this_now_state_date : Int32) (this_now_next : Nat) (this_now_town : Nat) (this_now_weighs : Int32) (this_now_rounds : Int32) (this_now_flag : Int32) (this_ahead : Nat) (this_here : Nat) (this_here_names : Nat) (this_here_kinds : Nat) (this_here_begin : Nat) (this_here_law : Nat) (this_here_persons : Int32) (this_here_mast : Int32) (this_here_weighs : Int32) (this_here_rounds : Int32) (this_here_toldOnce : Int32) (this_townDraft : Nat) (this_told : Nat) (this_yearDraft : Nat) (this_drawn : Int64) (person : Int32) (R0 : Int32) (hm : m_X11_isFirstOfGroup this_now_state_feels_f person = some R0) : CR l D (TY k) yX11_isFirstOfGroup cX11_isFirstOfGroup 4 (some .boolean) 4 87 [.ref this, .int person] (wd_X11_isFirstOfGroup k this this_tape this_history this_seen this_measured this_marks this_standing this_now this_now_state this_now_state_lacks this_now_state_lacks_f this_now_state_feels this_now_state_feels_f this_now_state_date this_now_next this_now_town this_now_weighs this_now_rounds this_now_flag this_ahead this_here this_here_names this_here_kinds this_here_begin this_here_law this_here_persons this_here_mast this_here_weighs this_here_rounds this_here_toldOnce this_townDraft this_told this_yearDraft this_drawn) (some (.int R0)) := by
  refine CR.mk (by decide) (Nat.le_of_ble_eq_true rfl) ?_
  intro p e s m args below meth c ls ⟨hx, hb, hr, hts, hown, hlocks, hml⟩ hP hG hl
  have hl : lv_has ls 4 [(0, .ref this), (1, .int person)] := hl
  have h_14 : ∀ (n : Nat), ∀ (x2 : Int32) (x3 : Int32) (ls : Array Slot), lv_has ls 4 [(0, .ref this), (1, .int person), (2, .int x2), (3, .int x3)] → m_X11_isFirstOfGroup_14 this_now_state_feels_f person n x2 x3 = some R0 → W p l e (Rm 4 87) s m args below meth c s.heap [] 0 0 (MQ below (QR (some (.int R0))) args s 0 0 (fun _ => False)) (F0 m 14 ls []) := by
    intro n
    induction n with
    | zero => intro x2 x3 ls hl hm; cases hm
    | succ n ih =>
      intro x2 x3 ls hl hm
      unfold m_X11_isFirstOfGroup_14 at hm
      refine lv_iload_n (pc := 14) hx hb dX11_isFirstOfGroup_14 rfl (lv_at hl 3 rfl) ?_
      refine lv_iload_n (pc := 15) hx hb dX11_isFirstOfGroup_15 rfl (lv_at hl 1 rfl) ?_
      refine lv_icmp_ge (tgt := 53) (pc := 16) hx hb dX11_isFirstOfGroup_16 (by decide) (fun hc => ?_) (fun hc => ?_)
      · rw [if_pos hc] at hm
        refine lv_iconst (v := 1) (pc := 53) hx hb dX11_isFirstOfGroup_53 (by decide) ?_
        rw [← Option.some.inj hm]
        exact W.zret hx hb hr (nar_bool (Or.inr rfl)) (fun t ht _ => ⟨rfl, ht⟩) (fun _ h => by cases h) dX11_isFirstOfGroup_54 hlocks
      · rw [if_neg hc] at hm
        refine lv_iload_n (pc := 19) hx hb dX11_isFirstOfGroup_19 rfl (lv_at hl 2 rfl) ?_
        refine lv_iload_n (pc := 20) hx hb dX11_isFirstOfGroup_20 rfl (lv_at hl 3 rfl) ?_
        obtain ⟨r5, hcl, hm⟩ := bd hm
        refine cr_back (run_S (pc := 21) (n := 2) (As := [.int x2, .int x3]) (rest := []) ⟨hx, hb, hml, hown, hts⟩ (c_X11_holds l D k x2 x3 r5 hcl) ⟨kw_604, kw_1, by decide +kernel⟩ kw_911 kw_603 ⟨Nat.le_of_ble_eq_true rfl, Nat.le_of_ble_eq_true rfl⟩ pr_blind (prR (hP.sub [] rfl) hG) rfl hl.1 rfl (Nat.le_of_ble_eq_true rfl) dX11_isFirstOfGroup_21 ⟨Nat.zero_le _, Nat.zero_le _⟩) ?_
        refine lv_if_eq (tgt := 47) (pc := 24) hx hb dX11_isFirstOfGroup_24 (by decide) (fun hc => ?_) (fun hc => ?_)
        · rw [if_pos hc] at hm
          refine lv_iinc (k := 3) (v := x3 + 1) (lv' := [(3, .int (x3 + 1)), (0, .ref this), (1, .int person), (2, .int x2)]) (pc := 47) hx hb dX11_isFirstOfGroup_47 hl rfl rfl (Nat.le_of_ble_eq_true rfl) rfl (fun ls hl => ?_)
          refine lv_goto (tgt := 14) (pc := 50) hx hb dX11_isFirstOfGroup_50 (by decide) ?_
          exact ih x2 (x3 + 1) ls (lv_sub hl [1, 2, 3, 0] rfl) hm
        · rw [if_neg hc] at hm
          refine lv_aload_n (pc := 27) hx hb dX11_isFirstOfGroup_27 rfl (lv_at hl 0 rfl) ?_
          refine va_get (pc := 28) (D := D) (ci := 9) (C := RX11) (T := TX11) (N := 13) hx hb hts hiX11 hown hG.1 hP 0 rfl rfl 6 (Nat.le_of_ble_eq_true rfl) (hts _ kw_350) (fun _ h9 => h9) rfl dX11_isFirstOfGroup_28 ?_
          refine va_getN (pc := 31) (D := D) (ci := 0) (C := RX1) (T := TX1) (N := 6) hx hb hts hiX1 hown hG.1 hP 1 rfl rfl 0 (Nat.le_of_ble_eq_true rfl) (va_Nw.use rfl (hG.2 _ kn_149)) (fun _ h9 => h9) rfl dX11_isFirstOfGroup_31 ?_
          refine lv_iload_n (pc := 34) hx hb dX11_isFirstOfGroup_34 rfl (lv_at hl 3 rfl) ?_
          obtain ⟨r6, hcl, hm⟩ := bd hm
          refine cr_back (run_VN (pc := 35) (n := 1) (As := [.int x3]) (rest := []) ⟨hx, hb, hml, hown, hts⟩ (c_X6_feltFrom l D k this_now_state this_now_state_lacks this_now_state_lacks_f this_now_state_feels this_now_state_feels_f this_now_state_date x3 r6 hcl) ⟨kw_1008, kw_6, by decide +kernel⟩ hG kn_1005 kw_1007 ks_79 ⟨Nat.le_of_ble_eq_true rfl, Nat.le_of_ble_eq_true rfl⟩ pr_blind (prR (hP.sub [2, 3, 4] rfl) hG) (va_recv hG.1 hP (ci := 5) (q0 := 2) rfl rfl) rfl hl.1 rfl (Nat.le_of_ble_eq_true rfl) dX11_isFirstOfGroup_35 ⟨Nat.zero_le _, Nat.zero_le _⟩) ?_
          refine lv_iload_n (pc := 38) hx hb dX11_isFirstOfGroup_38 rfl (lv_at hl 1 rfl) ?_
          obtain ⟨r7, hcl, hm⟩ := bd hm
          refine cr_back (run_S (pc := 39) (n := 2) (As := [.int r6, .int person]) (rest := []) ⟨hx, hb, hml, hown, hts⟩ (c_X11_holds l D k r6 person r7 hcl) ⟨kw_604, kw_1, by decide +kernel⟩ kw_911 kw_603 ⟨Nat.le_of_ble_eq_true rfl, Nat.le_of_ble_eq_true rfl⟩ pr_blind (prR (hP.sub [] rfl) hG) rfl hl.1 rfl (Nat.le_of_ble_eq_true rfl) dX11_isFirstOfGroup_39 ⟨Nat.zero_le _, Nat.zero_le _⟩) ?_
          refine lv_if_eq (tgt := 47) (pc := 42) hx hb dX11_isFirstOfGroup_42 (by decide) (fun hc => ?_) (fun hc => ?_)
          · rw [if_pos hc] at hm
            refine lv_iinc (k := 3) (v := x3 + 1) (lv' := [(3, .int (x3 + 1)), (0, .ref this), (1, .int person), (2, .int x2)]) (pc := 47) hx hb dX11_isFirstOfGroup_47 hl rfl rfl (Nat.le_of_ble_eq_true rfl) rfl (fun ls hl => ?_)
            refine lv_goto (tgt := 14) (pc := 50) hx hb dX11_isFirstOfGroup_50 (by decide) ?_
            exact ih x2 (x3 + 1) ls (lv_sub hl [1, 2, 3, 0] rfl) hm
          · rw [if_neg hc] at hm
            refine lv_iconst (v := 0) (pc := 45) hx hb dX11_isFirstOfGroup_45 (by decide) ?_
            rw [← Option.some.inj hm]
            exact W.zret hx hb hr (nar_bool (Or.inl rfl)) (fun t ht _ => ⟨rfl, ht⟩) (fun _ h => by cases h) dX11_isFirstOfGroup_46 hlocks
  unfold m_X11_isFirstOfGroup at hm
  refine lv_aload_n (pc := 0) hx hb dX11_isFirstOfGroup_0 rfl (lv_at hl 0 rfl) ?_
  refine va_get (pc := 1) (D := D) (ci := 9) (C := RX11) (T := TX11) (N := 13) hx hb hts hiX11 hown hG.1 hP 0 rfl rfl 6 (Nat.le_of_ble_eq_true rfl) (hts _ kw_350) (fun _ h9 => h9) rfl dX11_isFirstOfGroup_1 ?_
  refine va_getN (pc := 4) (D := D) (ci := 0) (C := RX1) (T := TX1) (N := 6) hx hb hts hiX1 hown hG.1 hP 1 rfl rfl 0 (Nat.le_of_ble_eq_true rfl) (va_Nw.use rfl (hG.2 _ kn_149)) (fun _ h9 => h9) rfl dX11_isFirstOfGroup_4 ?_
  refine lv_iload_n (pc := 7) hx hb dX11_isFirstOfGroup_7 rfl (lv_at hl 1 rfl) ?_
  obtain ⟨r8, hcl, hm⟩ := bd hm
  refine cr_back (run_VN (pc := 8) (n := 1) (As := [.int person]) (rest := []) ⟨hx, hb, hml, hown, hts⟩ (c_X6_feltFrom l D k this_now_state this_now_state_lacks this_now_state_lacks_f this_now_state_feels this_now_state_feels_f this_now_state_date person r8 hcl) ⟨kw_1008, kw_6, by decide +kernel⟩ hG kn_1005 kw_1007 ks_79 ⟨Nat.le_of_ble_eq_true rfl, Nat.le_of_ble_eq_true rfl⟩ pr_blind (prR (hP.sub [2, 3, 4] rfl) hG) (va_recv hG.1 hP (ci := 5) (q0 := 2) rfl rfl) rfl hl.1 rfl (Nat.le_of_ble_eq_true rfl) dX11_isFirstOfGroup_8 ⟨Nat.zero_le _, Nat.zero_le _⟩) ?_
  refine lv_istore_n (lv' := [(2, .int r8), (0, .ref this), (1, .int person)]) (pc := 11) hx hb dX11_isFirstOfGroup_11 rfl hl (Nat.le_of_ble_eq_true rfl) rfl (fun ls hl => ?_)
  refine lv_iconst (v := 0) (pc := 12) hx hb dX11_isFirstOfGroup_12 (by decide) ?_
  refine lv_istore_n (lv' := [(3, .int 0), (2, .int r8), (0, .ref this), (1, .int person)]) (pc := 13) hx hb dX11_isFirstOfGroup_13 rfl hl (Nat.le_of_ble_eq_true rfl) rfl (fun ls hl => ?_)
  exact h_14 FU r8 0 ls (lv_sub hl [2, 3, 1, 0] rfl) hm
theorem dX11_groups_0 : decode cX11_groups 0 = .ok (.iconst 0, 1) := by decide +kernel
theorem dX11_groups_1 : decode cX11_groups 1 = .ok (.istore_n 1, 1) := by decide +kernel
theorem dX11_groups_2 : decode cX11_groups 2 = .ok (.iconst 0, 1) := by decide +kernel
theorem dX11_groups_3 : decode cX11_groups 3 = .ok (.istore_n 2, 1) := by decide +kernel
theorem dX11_groups_4 : decode cX11_groups 4 = .ok (.iload_n 2, 1) := by decide +kernel
theorem dX11_groups_5 : decode cX11_groups 5 = .ok (.aload_n 0, 1) := by decide +kernel
theorem dX11_groups_6 : decode cX11_groups 6 = .ok (.getfield 56, 3) := by decide +kernel
theorem dX11_groups_9 : decode cX11_groups 9 = .ok (.getfield 197, 3) := by decide +kernel
theorem dX11_groups_12 : decode cX11_groups 12 = .ok (.if_icmp .ge 25, 3) := by decide +kernel
theorem dX11_groups_15 : decode cX11_groups 15 = .ok (.iload_n 1, 1) := by decide +kernel
theorem dX11_groups_16 : decode cX11_groups 16 = .ok (.aload_n 0, 1) := by decide +kernel
theorem dX11_groups_17 : decode cX11_groups 17 = .ok (.iload_n 2, 1) := by decide +kernel
theorem dX11_groups_18 : decode cX11_groups 18 = .ok (.invokevirtual 270, 3) := by decide +kernel
theorem dX11_groups_21 : decode cX11_groups 21 = .ok (.ifCond .eq 7, 3) := by decide +kernel
theorem dX11_groups_24 : decode cX11_groups 24 = .ok (.iconst 1, 1) := by decide +kernel
theorem dX11_groups_25 : decode cX11_groups 25 = .ok (.goto 4, 3) := by decide +kernel
theorem dX11_groups_28 : decode cX11_groups 28 = .ok (.iconst 0, 1) := by decide +kernel
theorem dX11_groups_29 : decode cX11_groups 29 = .ok (.iadd, 1) := by decide +kernel
theorem dX11_groups_30 : decode cX11_groups 30 = .ok (.istore_n 1, 1) := by decide +kernel
theorem dX11_groups_31 : decode cX11_groups 31 = .ok (.iinc 2 1, 3) := by decide +kernel
theorem dX11_groups_34 : decode cX11_groups 34 = .ok (.goto (-30), 3) := by decide +kernel
theorem dX11_groups_37 : decode cX11_groups 37 = .ok (.iload_n 1, 1) := by decide +kernel
theorem dX11_groups_38 : decode cX11_groups 38 = .ok (.ireturn, 1) := by decide +kernel
abbrev wd_X11_groups (k : Nat → ClassId) (this : Nat) (this_tape : Nat) (this_history : Nat) (this_seen : Nat) (this_measured : Nat) (this_marks : Nat) (this_standing : Nat) (this_now : Nat) (this_now_state : Nat) (this_now_state_lacks : Nat) (this_now_state_lacks_f : Nat → Int32) (this_now_state_feels : Nat) (this_now_state_feels_f : Nat → Int32) (this_now_state_date : Int32) (this_now_next : Nat) (this_now_town : Nat) (this_now_weighs : Int32) (this_now_rounds : Int32) (this_now_flag : Int32) (this_ahead : Nat) (this_here : Nat) (this_here_names : Nat) (this_here_kinds : Nat) (this_here_begin : Nat) (this_here_law : Nat) (this_here_persons : Int32) (this_here_mast : Int32) (this_here_weighs : Int32) (this_here_rounds : Int32) (this_here_toldOnce : Int32) (this_townDraft : Nat) (this_told : Nat) (this_yearDraft : Nat) (this_drawn : Int64) : va_W := [(this, .inr (9, [.ref this_tape, .ref this_history, .ref this_seen, .ref this_measured, .ref this_marks, .ref this_standing, .ref this_now, .ref this_ahead, .ref this_here, .ref this_townDraft, .ref this_told, .ref this_yearDraft, .long this_drawn])), (this_now, .inr (0, [.ref this_now_state, .ref this_now_next, .ref this_now_town, .int this_now_weighs, .int this_now_rounds, .int this_now_flag])), (this_now_state, .inr (5, [.ref this_now_state_lacks, .ref this_now_state_feels, .int this_now_state_date])), (this_now_state_lacks, .inl (k 0, 6, .inl this_now_state_lacks_f)), (this_now_state_feels, .inl (k 0, 6, .inl this_now_state_feels_f)), (this_here, .inr (7, [.ref this_here_names, .ref this_here_kinds, .ref this_here_begin, .ref this_here_law, .int this_here_persons, .int this_here_mast, .int this_here_weighs, .int this_here_rounds, .int this_here_toldOnce]))]
set_option maxHeartbeats 4000000 in
set_option maxRecDepth 100000 in
theorem c_X11_groups (l : Launch) (D : va_G) (k : Nat → ClassId) (this : Nat) (this_tape : Nat) (this_history : Nat) (this_seen : Nat) (this_measured : Nat) (this_marks : Nat) (this_standing : Nat) (this_now : Nat) (this_now_state : Nat) (this_now_state_lacks : Nat) (this_now_state_lacks_f : Nat → Int32) (this_now_state_feels : Nat) (this_now_state_feels_f : Nat → Int32) (this_now_state_date : Int32) (this_now_next : Nat) (this_now_town : Nat) (this_now_weighs : Int32) (this_now_rounds : Int32) (this_now_flag : Int32) (this_ahead : Nat) (this_here : Nat) (this_here_names : Nat) (this_here_kinds : Nat) (this_here_begin : Nat) (this_here_law : Nat) (this_here_persons : Int32) (this_here_mast : Int32) (this_here_weighs : Int32) (this_here_rounds : Int32) (this_here_toldOnce : Int32) (this_townDraft : Nat) (this_told : Nat) (this_yearDraft : Nat) (this_drawn : Int64) (R0 : Int32) (hm : m_X11_groups this_now_state_feels_f this_here_persons = some R0) : CR l D (TY k) yX11_groups cX11_groups 3 (some .int) 5 110 [.ref this] (wd_X11_groups k this this_tape this_history this_seen this_measured this_marks this_standing this_now this_now_state this_now_state_lacks this_now_state_lacks_f this_now_state_feels this_now_state_feels_f this_now_state_date this_now_next this_now_town this_now_weighs this_now_rounds this_now_flag this_ahead this_here this_here_names this_here_kinds this_here_begin this_here_law this_here_persons this_here_mast this_here_weighs this_here_rounds this_here_toldOnce this_townDraft this_told this_yearDraft this_drawn) (some (.int R0)) := by
  refine CR.mk (by decide) (Nat.le_of_ble_eq_true rfl) ?_
  intro p e s m args below meth c ls ⟨hx, hb, hr, hts, hown, hlocks, hml⟩ hP hG hl
  have hl : lv_has ls 3 [(0, .ref this)] := hl
  have h_4 : ∀ (n : Nat), ∀ (x1 : Int32) (x2 : Int32) (ls : Array Slot), lv_has ls 3 [(0, .ref this), (1, .int x1), (2, .int x2)] → m_X11_groups_4 this_now_state_feels_f this_here_persons n x1 x2 = some R0 → W p l e (Rm 5 110) s m args below meth c s.heap [] 0 0 (MQ below (QR (some (.int R0))) args s 0 0 (fun _ => False)) (F0 m 4 ls []) := by
    intro n
    induction n with
    | zero => intro x1 x2 ls hl hm; cases hm
    | succ n ih =>
      intro x1 x2 ls hl hm
      unfold m_X11_groups_4 at hm
      refine lv_iload_n (pc := 4) hx hb dX11_groups_4 rfl (lv_at hl 2 rfl) ?_
      refine lv_aload_n (pc := 5) hx hb dX11_groups_5 rfl (lv_at hl 0 rfl) ?_
      refine va_get (pc := 6) (D := D) (ci := 9) (C := RX11) (T := TX11) (N := 13) hx hb hts hiX11 hown hG.1 hP 0 rfl rfl 8 (Nat.le_of_ble_eq_true rfl) (hts _ kw_352) (fun _ h9 => h9) rfl dX11_groups_6 ?_
      refine va_getN (pc := 9) (D := D) (ci := 7) (C := RX8) (T := TX8) (N := 9) hx hb hts hiX8 hown hG.1 hP 5 rfl rfl 4 (Nat.le_of_ble_eq_true rfl) (va_Nw.use rfl (hG.2 _ kn_204)) (fun _ h9 => h9) rfl dX11_groups_9 ?_
      refine lv_icmp_ge (tgt := 37) (pc := 12) hx hb dX11_groups_12 (by decide) (fun hc => ?_) (fun hc => ?_)
      · rw [if_pos hc] at hm
        refine lv_iload_n (pc := 37) hx hb dX11_groups_37 rfl (lv_at hl 1 rfl) ?_
        rw [← Option.some.inj hm]
        exact W.iret hx hb hr (fun t ht _ => ⟨rfl, ht⟩) (fun _ h => by cases h) dX11_groups_38 hlocks
      · rw [if_neg hc] at hm
        refine lv_iload_n (pc := 15) hx hb dX11_groups_15 rfl (lv_at hl 1 rfl) ?_
        refine lv_aload_n (pc := 16) hx hb dX11_groups_16 rfl (lv_at hl 0 rfl) ?_
        refine lv_iload_n (pc := 17) hx hb dX11_groups_17 rfl (lv_at hl 2 rfl) ?_
        obtain ⟨r2, hcl, hm⟩ := bd hm
        refine cr_back (run_V (pc := 18) (n := 1) (As := [.int x2]) (rest := [.int x1]) ⟨hx, hb, hml, hown, hts⟩ (c_X11_isFirstOfGroup l D k this this_tape this_history this_seen this_measured this_marks this_standing this_now this_now_state this_now_state_lacks this_now_state_lacks_f this_now_state_feels this_now_state_feels_f this_now_state_date this_now_next this_now_town this_now_weighs this_now_rounds this_now_flag this_ahead this_here this_here_names this_here_kinds this_here_begin this_here_law this_here_persons this_here_mast this_here_weighs this_here_rounds this_here_toldOnce this_townDraft this_told this_yearDraft this_drawn x2 r2 hcl) ⟨kw_1025, kw_1, by decide +kernel⟩ kw_1022 kw_1024 ks_81 ⟨Nat.le_of_ble_eq_true rfl, Nat.le_of_ble_eq_true rfl⟩ pr_blind (prR (hP.sub [0, 1, 2, 3, 4, 5] rfl) hG) (va_recv hG.1 hP (ci := 9) (q0 := 0) rfl rfl) rfl hl.1 rfl (Nat.le_of_ble_eq_true rfl) dX11_groups_18 ⟨Nat.zero_le _, Nat.zero_le _⟩) ?_
        refine lv_if_eq (tgt := 28) (pc := 21) hx hb dX11_groups_21 (by decide) (fun hc => ?_) (fun hc => ?_)
        · rw [if_pos hc] at hm
          refine lv_iconst (v := 0) (pc := 28) hx hb dX11_groups_28 (by decide) ?_
          refine lv_iadd (pc := 29) hx hb dX11_groups_29 ?_
          refine lv_istore_n (lv' := [(1, .int (x1 + 0)), (0, .ref this), (2, .int x2)]) (pc := 30) hx hb dX11_groups_30 rfl hl (Nat.le_of_ble_eq_true rfl) rfl (fun ls hl => ?_)
          refine lv_iinc (k := 2) (v := x2 + 1) (lv' := [(2, .int (x2 + 1)), (1, .int (x1 + 0)), (0, .ref this)]) (pc := 31) hx hb dX11_groups_31 hl rfl rfl (Nat.le_of_ble_eq_true rfl) rfl (fun ls hl => ?_)
          refine lv_goto (tgt := 4) (pc := 34) hx hb dX11_groups_34 (by decide) ?_
          exact ih (x1 + 0) (x2 + 1) ls (lv_sub hl [2, 1, 0] rfl) hm
        · rw [if_neg hc] at hm
          refine lv_iconst (v := 1) (pc := 24) hx hb dX11_groups_24 (by decide) ?_
          refine lv_goto (tgt := 29) (pc := 25) hx hb dX11_groups_25 (by decide) ?_
          refine lv_iadd (pc := 29) hx hb dX11_groups_29 ?_
          refine lv_istore_n (lv' := [(1, .int (x1 + 1)), (0, .ref this), (2, .int x2)]) (pc := 30) hx hb dX11_groups_30 rfl hl (Nat.le_of_ble_eq_true rfl) rfl (fun ls hl => ?_)
          refine lv_iinc (k := 2) (v := x2 + 1) (lv' := [(2, .int (x2 + 1)), (1, .int (x1 + 1)), (0, .ref this)]) (pc := 31) hx hb dX11_groups_31 hl rfl rfl (Nat.le_of_ble_eq_true rfl) rfl (fun ls hl => ?_)
          refine lv_goto (tgt := 4) (pc := 34) hx hb dX11_groups_34 (by decide) ?_
          exact ih (x1 + 1) (x2 + 1) ls (lv_sub hl [2, 1, 0] rfl) hm
  unfold m_X11_groups at hm
  refine lv_iconst (v := 0) (pc := 0) hx hb dX11_groups_0 (by decide) ?_
  refine lv_istore_n (lv' := [(1, .int 0), (0, .ref this)]) (pc := 1) hx hb dX11_groups_1 rfl hl (Nat.le_of_ble_eq_true rfl) rfl (fun ls hl => ?_)
  refine lv_iconst (v := 0) (pc := 2) hx hb dX11_groups_2 (by decide) ?_
  refine lv_istore_n (lv' := [(2, .int 0), (1, .int 0), (0, .ref this)]) (pc := 3) hx hb dX11_groups_3 rfl hl (Nat.le_of_ble_eq_true rfl) rfl (fun ls hl => ?_)
  exact h_4 FU 0 0 ls (lv_sub hl [2, 1, 0] rfl) hm
theorem dX11_deaf_0 : decode cX11_deaf 0 = .ok (.iconst 0, 1) := by decide +kernel
theorem dX11_deaf_1 : decode cX11_deaf 1 = .ok (.istore_n 1, 1) := by decide +kernel
theorem dX11_deaf_2 : decode cX11_deaf 2 = .ok (.iconst 0, 1) := by decide +kernel
theorem dX11_deaf_3 : decode cX11_deaf 3 = .ok (.istore_n 2, 1) := by decide +kernel
theorem dX11_deaf_4 : decode cX11_deaf 4 = .ok (.iload_n 2, 1) := by decide +kernel
theorem dX11_deaf_5 : decode cX11_deaf 5 = .ok (.aload_n 0, 1) := by decide +kernel
theorem dX11_deaf_6 : decode cX11_deaf 6 = .ok (.getfield 56, 3) := by decide +kernel
theorem dX11_deaf_9 : decode cX11_deaf 9 = .ok (.getfield 197, 3) := by decide +kernel
theorem dX11_deaf_12 : decode cX11_deaf 12 = .ok (.if_icmp .ge 37, 3) := by decide +kernel
theorem dX11_deaf_15 : decode cX11_deaf 15 = .ok (.iload_n 1, 1) := by decide +kernel
theorem dX11_deaf_16 : decode cX11_deaf 16 = .ok (.aload_n 0, 1) := by decide +kernel
theorem dX11_deaf_17 : decode cX11_deaf 17 = .ok (.getfield 46, 3) := by decide +kernel
theorem dX11_deaf_20 : decode cX11_deaf 20 = .ok (.getfield 136, 3) := by decide +kernel
theorem dX11_deaf_23 : decode cX11_deaf 23 = .ok (.getfield 139, 3) := by decide +kernel
theorem dX11_deaf_26 : decode cX11_deaf 26 = .ok (.iload_n 2, 1) := by decide +kernel
theorem dX11_deaf_27 : decode cX11_deaf 27 = .ok (.invokestatic 124, 3) := by decide +kernel
theorem dX11_deaf_30 : decode cX11_deaf 30 = .ok (.ifCond .ne 10, 3) := by decide +kernel
theorem dX11_deaf_33 : decode cX11_deaf 33 = .ok (.iload_n 2, 1) := by decide +kernel
theorem dX11_deaf_34 : decode cX11_deaf 34 = .ok (.invokestatic 225, 3) := by decide +kernel
theorem dX11_deaf_37 : decode cX11_deaf 37 = .ok (.goto 4, 3) := by decide +kernel
theorem dX11_deaf_40 : decode cX11_deaf 40 = .ok (.iconst 0, 1) := by decide +kernel
theorem dX11_deaf_41 : decode cX11_deaf 41 = .ok (.ior, 1) := by decide +kernel
theorem dX11_deaf_42 : decode cX11_deaf 42 = .ok (.istore_n 1, 1) := by decide +kernel
theorem dX11_deaf_43 : decode cX11_deaf 43 = .ok (.iinc 2 1, 3) := by decide +kernel
theorem dX11_deaf_46 : decode cX11_deaf 46 = .ok (.goto (-42), 3) := by decide +kernel
theorem dX11_deaf_49 : decode cX11_deaf 49 = .ok (.iload_n 1, 1) := by decide +kernel
theorem dX11_deaf_50 : decode cX11_deaf 50 = .ok (.ireturn, 1) := by decide +kernel
abbrev wd_X11_deaf (k : Nat → ClassId) (this : Nat) (this_tape : Nat) (this_history : Nat) (this_seen : Nat) (this_measured : Nat) (this_marks : Nat) (this_standing : Nat) (this_now : Nat) (this_now_state : Nat) (this_now_state_lacks : Nat) (this_now_state_lacks_f : Nat → Int32) (this_now_state_feels : Nat) (this_now_state_feels_f : Nat → Int32) (this_now_state_date : Int32) (this_now_next : Nat) (this_now_town : Nat) (this_now_weighs : Int32) (this_now_rounds : Int32) (this_now_flag : Int32) (this_ahead : Nat) (this_here : Nat) (this_here_names : Nat) (this_here_kinds : Nat) (this_here_begin : Nat) (this_here_law : Nat) (this_here_persons : Int32) (this_here_mast : Int32) (this_here_weighs : Int32) (this_here_rounds : Int32) (this_here_toldOnce : Int32) (this_townDraft : Nat) (this_told : Nat) (this_yearDraft : Nat) (this_drawn : Int64) : va_W := [(this, .inr (9, [.ref this_tape, .ref this_history, .ref this_seen, .ref this_measured, .ref this_marks, .ref this_standing, .ref this_now, .ref this_ahead, .ref this_here, .ref this_townDraft, .ref this_told, .ref this_yearDraft, .long this_drawn])), (this_now, .inr (0, [.ref this_now_state, .ref this_now_next, .ref this_now_town, .int this_now_weighs, .int this_now_rounds, .int this_now_flag])), (this_now_state, .inr (5, [.ref this_now_state_lacks, .ref this_now_state_feels, .int this_now_state_date])), (this_now_state_lacks, .inl (k 0, 6, .inl this_now_state_lacks_f)), (this_now_state_feels, .inl (k 0, 6, .inl this_now_state_feels_f)), (this_here, .inr (7, [.ref this_here_names, .ref this_here_kinds, .ref this_here_begin, .ref this_here_law, .int this_here_persons, .int this_here_mast, .int this_here_weighs, .int this_here_rounds, .int this_here_toldOnce]))]
set_option maxHeartbeats 4000000 in
set_option maxRecDepth 100000 in
theorem c_X11_deaf (l : Launch) (D : va_G) (k : Nat → ClassId) (this : Nat) (this_tape : Nat) (this_history : Nat) (this_seen : Nat) (this_measured : Nat) (this_marks : Nat) (this_standing : Nat) (this_now : Nat) (this_now_state : Nat) (this_now_state_lacks : Nat) (this_now_state_lacks_f : Nat → Int32) (this_now_state_feels : Nat) (this_now_state_feels_f : Nat → Int32) (this_now_state_date : Int32) (this_now_next : Nat) (this_now_town : Nat) (this_now_weighs : Int32) (this_now_rounds : Int32) (this_now_flag : Int32) (this_ahead : Nat) (this_here : Nat) (this_here_names : Nat) (this_here_kinds : Nat) (this_here_begin : Nat) (this_here_law : Nat) (this_here_persons : Int32) (this_here_mast : Int32) (this_here_weighs : Int32) (this_here_rounds : Int32) (this_here_toldOnce : Int32) (this_townDraft : Nat) (this_told : Nat) (this_yearDraft : Nat) (this_drawn : Int64) (R0 : Int32) (hm : m_X11_deaf this_now_state_feels_f this_here_persons = some R0) : CR l D (TY k) yX11_deaf cX11_deaf 3 (some .int) 1 21 [.ref this] (wd_X11_deaf k this this_tape this_history this_seen this_measured this_marks this_standing this_now this_now_state this_now_state_lacks this_now_state_lacks_f this_now_state_feels this_now_state_feels_f this_now_state_date this_now_next this_now_town this_now_weighs this_now_rounds this_now_flag this_ahead this_here this_here_names this_here_kinds this_here_begin this_here_law this_here_persons this_here_mast this_here_weighs this_here_rounds this_here_toldOnce this_townDraft this_told this_yearDraft this_drawn) (some (.int R0)) := by
  refine CR.mk (by decide) (Nat.le_of_ble_eq_true rfl) ?_
  intro p e s m args below meth c ls ⟨hx, hb, hr, hts, hown, hlocks, hml⟩ hP hG hl
  have hl : lv_has ls 3 [(0, .ref this)] := hl
  have h_4 : ∀ (n : Nat), ∀ (x1 : Int32) (x2 : Int32) (ls : Array Slot), lv_has ls 3 [(0, .ref this), (1, .int x1), (2, .int x2)] → m_X11_deaf_4 this_now_state_feels_f this_here_persons n x1 x2 = some R0 → W p l e (Rm 1 21) s m args below meth c s.heap [] 0 0 (MQ below (QR (some (.int R0))) args s 0 0 (fun _ => False)) (F0 m 4 ls []) := by
    intro n
    induction n with
    | zero => intro x1 x2 ls hl hm; cases hm
    | succ n ih =>
      intro x1 x2 ls hl hm
      unfold m_X11_deaf_4 at hm
      refine lv_iload_n (pc := 4) hx hb dX11_deaf_4 rfl (lv_at hl 2 rfl) ?_
      refine lv_aload_n (pc := 5) hx hb dX11_deaf_5 rfl (lv_at hl 0 rfl) ?_
      refine va_get (pc := 6) (D := D) (ci := 9) (C := RX11) (T := TX11) (N := 13) hx hb hts hiX11 hown hG.1 hP 0 rfl rfl 8 (Nat.le_of_ble_eq_true rfl) (hts _ kw_352) (fun _ h9 => h9) rfl dX11_deaf_6 ?_
      refine va_getN (pc := 9) (D := D) (ci := 7) (C := RX8) (T := TX8) (N := 9) hx hb hts hiX8 hown hG.1 hP 5 rfl rfl 4 (Nat.le_of_ble_eq_true rfl) (va_Nw.use rfl (hG.2 _ kn_204)) (fun _ h9 => h9) rfl dX11_deaf_9 ?_
      refine lv_icmp_ge (tgt := 49) (pc := 12) hx hb dX11_deaf_12 (by decide) (fun hc => ?_) (fun hc => ?_)
      · rw [if_pos hc] at hm
        refine lv_iload_n (pc := 49) hx hb dX11_deaf_49 rfl (lv_at hl 1 rfl) ?_
        rw [← Option.some.inj hm]
        exact W.iret hx hb hr (fun t ht _ => ⟨rfl, ht⟩) (fun _ h => by cases h) dX11_deaf_50 hlocks
      · rw [if_neg hc] at hm
        refine lv_iload_n (pc := 15) hx hb dX11_deaf_15 rfl (lv_at hl 1 rfl) ?_
        refine lv_aload_n (pc := 16) hx hb dX11_deaf_16 rfl (lv_at hl 0 rfl) ?_
        refine va_get (pc := 17) (D := D) (ci := 9) (C := RX11) (T := TX11) (N := 13) hx hb hts hiX11 hown hG.1 hP 0 rfl rfl 6 (Nat.le_of_ble_eq_true rfl) (hts _ kw_350) (fun _ h9 => h9) rfl dX11_deaf_17 ?_
        refine va_getN (pc := 20) (D := D) (ci := 0) (C := RX1) (T := TX1) (N := 6) hx hb hts hiX1 hown hG.1 hP 1 rfl rfl 0 (Nat.le_of_ble_eq_true rfl) (va_Nw.use rfl (hG.2 _ kn_149)) (fun _ h9 => h9) rfl dX11_deaf_20 ?_
        refine va_getN (pc := 23) (D := D) (ci := 5) (C := RX6) (T := TX6) (N := 3) hx hb hts hiX6 hown hG.1 hP 2 rfl rfl 1 (Nat.le_of_ble_eq_true rfl) (va_Nw.use rfl (hG.2 _ kn_98)) (fun _ h9 => h9) rfl dX11_deaf_23 ?_
        refine lv_iload_n (pc := 26) hx hb dX11_deaf_26 rfl (lv_at hl 2 rfl) ?_
        obtain ⟨r3, hcl, hm⟩ := bd hm
        refine cr_back (run_S (pc := 27) (n := 2) (As := [.ref this_now_state_feels, .int x2]) (rest := [.int x1]) ⟨hx, hb, hml, hown, hts⟩ (c_X11_at l D k this_now_state_feels 6 this_now_state_feels_f x2 r3 hcl) ⟨kw_329, kw_1, by decide +kernel⟩ kw_744 kw_328 ⟨Nat.le_of_ble_eq_true rfl, Nat.le_of_ble_eq_true rfl⟩ pr_blind (prR (hP.sub [4] rfl) hG) rfl hl.1 rfl (Nat.le_of_ble_eq_true rfl) dX11_deaf_27 ⟨Nat.zero_le _, Nat.zero_le _⟩) ?_
        refine lv_if_ne (tgt := 40) (pc := 30) hx hb dX11_deaf_30 (by decide) (fun hc => ?_) (fun hc => ?_)
        · rw [if_neg hc] at hm
          refine lv_iconst (v := 0) (pc := 40) hx hb dX11_deaf_40 (by decide) ?_
          refine lv_ior (pc := 41) hx hb dX11_deaf_41 ?_
          refine lv_istore_n (lv' := [(1, .int (x1 ||| 0)), (0, .ref this), (2, .int x2)]) (pc := 42) hx hb dX11_deaf_42 rfl hl (Nat.le_of_ble_eq_true rfl) rfl (fun ls hl => ?_)
          refine lv_iinc (k := 2) (v := x2 + 1) (lv' := [(2, .int (x2 + 1)), (1, .int (x1 ||| 0)), (0, .ref this)]) (pc := 43) hx hb dX11_deaf_43 hl rfl rfl (Nat.le_of_ble_eq_true rfl) rfl (fun ls hl => ?_)
          refine lv_goto (tgt := 4) (pc := 46) hx hb dX11_deaf_46 (by decide) ?_
          exact ih (x1 ||| 0) (x2 + 1) ls (lv_sub hl [2, 1, 0] rfl) hm
        · rw [if_pos hc] at hm
          refine lv_iload_n (pc := 33) hx hb dX11_deaf_33 rfl (lv_at hl 2 rfl) ?_
          obtain ⟨r4, hcl, hm⟩ := bd hm
          refine cr_back (run_S (pc := 34) (n := 1) (As := [.int x2]) (rest := [.int x1]) ⟨hx, hb, hml, hown, hts⟩ (c_X11_bit l D k x2 r4 hcl) ⟨kw_607, kw_1, by decide +kernel⟩ kw_605 kw_606 ⟨Nat.le_of_ble_eq_true rfl, Nat.le_of_ble_eq_true rfl⟩ pr_blind (prR (hP.sub [] rfl) hG) rfl hl.1 rfl (Nat.le_of_ble_eq_true rfl) dX11_deaf_34 ⟨Nat.zero_le _, Nat.zero_le _⟩) ?_
          refine lv_goto (tgt := 41) (pc := 37) hx hb dX11_deaf_37 (by decide) ?_
          refine lv_ior (pc := 41) hx hb dX11_deaf_41 ?_
          refine lv_istore_n (lv' := [(1, .int (x1 ||| r4)), (0, .ref this), (2, .int x2)]) (pc := 42) hx hb dX11_deaf_42 rfl hl (Nat.le_of_ble_eq_true rfl) rfl (fun ls hl => ?_)
          refine lv_iinc (k := 2) (v := x2 + 1) (lv' := [(2, .int (x2 + 1)), (1, .int (x1 ||| r4)), (0, .ref this)]) (pc := 43) hx hb dX11_deaf_43 hl rfl rfl (Nat.le_of_ble_eq_true rfl) rfl (fun ls hl => ?_)
          refine lv_goto (tgt := 4) (pc := 46) hx hb dX11_deaf_46 (by decide) ?_
          exact ih (x1 ||| r4) (x2 + 1) ls (lv_sub hl [2, 1, 0] rfl) hm
  unfold m_X11_deaf at hm
  refine lv_iconst (v := 0) (pc := 0) hx hb dX11_deaf_0 (by decide) ?_
  refine lv_istore_n (lv' := [(1, .int 0), (0, .ref this)]) (pc := 1) hx hb dX11_deaf_1 rfl hl (Nat.le_of_ble_eq_true rfl) rfl (fun ls hl => ?_)
  refine lv_iconst (v := 0) (pc := 2) hx hb dX11_deaf_2 (by decide) ?_
  refine lv_istore_n (lv' := [(2, .int 0), (1, .int 0), (0, .ref this)]) (pc := 3) hx hb dX11_deaf_3 rfl hl (Nat.le_of_ble_eq_true rfl) rfl (fun ls hl => ?_)
  exact h_4 FU 0 0 ls (lv_sub hl [2, 1, 0] rfl) hm
theorem dX11_hearts_0 : decode cX11_hearts 0 = .ok (.aload_n 0, 1) := by decide +kernel
theorem dX11_hearts_1 : decode cX11_hearts 1 = .ok (.getfield 56, 3) := by decide +kernel
theorem dX11_hearts_4 : decode cX11_hearts 4 = .ok (.iload_n 1, 1) := by decide +kernel
theorem dX11_hearts_5 : decode cX11_hearts 5 = .ok (.invokevirtual 117, 3) := by decide +kernel
theorem dX11_hearts_8 : decode cX11_hearts 8 = .ok (.ifCond .ne 5, 3) := by decide +kernel
theorem dX11_hearts_11 : decode cX11_hearts 11 = .ok (.iconst (-1), 1) := by decide +kernel
theorem dX11_hearts_12 : decode cX11_hearts 12 = .ok (.ireturn, 1) := by decide +kernel
theorem dX11_hearts_13 : decode cX11_hearts 13 = .ok (.iconst 0, 1) := by decide +kernel
theorem dX11_hearts_14 : decode cX11_hearts 14 = .ok (.istore_n 2, 1) := by decide +kernel
theorem dX11_hearts_15 : decode cX11_hearts 15 = .ok (.iconst 0, 1) := by decide +kernel
theorem dX11_hearts_16 : decode cX11_hearts 16 = .ok (.istore_n 3, 1) := by decide +kernel
theorem dX11_hearts_17 : decode cX11_hearts 17 = .ok (.iload_n 3, 1) := by decide +kernel
theorem dX11_hearts_18 : decode cX11_hearts 18 = .ok (.aload_n 0, 1) := by decide +kernel
theorem dX11_hearts_19 : decode cX11_hearts 19 = .ok (.getfield 56, 3) := by decide +kernel
theorem dX11_hearts_22 : decode cX11_hearts 22 = .ok (.getfield 197, 3) := by decide +kernel
theorem dX11_hearts_25 : decode cX11_hearts 25 = .ok (.if_icmp .ge 35, 3) := by decide +kernel
theorem dX11_hearts_28 : decode cX11_hearts 28 = .ok (.iload_n 2, 1) := by decide +kernel
theorem dX11_hearts_29 : decode cX11_hearts 29 = .ok (.aload_n 0, 1) := by decide +kernel
theorem dX11_hearts_30 : decode cX11_hearts 30 = .ok (.getfield 46, 3) := by decide +kernel
theorem dX11_hearts_33 : decode cX11_hearts 33 = .ok (.getfield 136, 3) := by decide +kernel
theorem dX11_hearts_36 : decode cX11_hearts 36 = .ok (.iload_n 3, 1) := by decide +kernel
theorem dX11_hearts_37 : decode cX11_hearts 37 = .ok (.iload_n 1, 1) := by decide +kernel
theorem dX11_hearts_38 : decode cX11_hearts 38 = .ok (.invokevirtual 273, 3) := by decide +kernel
theorem dX11_hearts_41 : decode cX11_hearts 41 = .ok (.ifCond .eq 10, 3) := by decide +kernel
theorem dX11_hearts_44 : decode cX11_hearts 44 = .ok (.iload_n 3, 1) := by decide +kernel
theorem dX11_hearts_45 : decode cX11_hearts 45 = .ok (.invokestatic 225, 3) := by decide +kernel
theorem dX11_hearts_48 : decode cX11_hearts 48 = .ok (.goto 4, 3) := by decide +kernel
theorem dX11_hearts_51 : decode cX11_hearts 51 = .ok (.iconst 0, 1) := by decide +kernel
theorem dX11_hearts_52 : decode cX11_hearts 52 = .ok (.ior, 1) := by decide +kernel
theorem dX11_hearts_53 : decode cX11_hearts 53 = .ok (.istore_n 2, 1) := by decide +kernel
theorem dX11_hearts_54 : decode cX11_hearts 54 = .ok (.iinc 3 1, 3) := by decide +kernel
theorem dX11_hearts_57 : decode cX11_hearts 57 = .ok (.goto (-40), 3) := by decide +kernel
theorem dX11_hearts_60 : decode cX11_hearts 60 = .ok (.iload_n 2, 1) := by decide +kernel
theorem dX11_hearts_61 : decode cX11_hearts 61 = .ok (.ireturn, 1) := by decide +kernel
abbrev wd_X11_hearts (k : Nat → ClassId) (this : Nat) (this_tape : Nat) (this_history : Nat) (this_seen : Nat) (this_measured : Nat) (this_marks : Nat) (this_standing : Nat) (this_now : Nat) (this_now_state : Nat) (this_now_state_lacks : Nat) (this_now_state_lacks_f : Nat → Int32) (this_now_state_feels : Nat) (this_now_state_feels_f : Nat → Int32) (this_now_state_date : Int32) (this_now_next : Nat) (this_now_town : Nat) (this_now_weighs : Int32) (this_now_rounds : Int32) (this_now_flag : Int32) (this_ahead : Nat) (this_here : Nat) (this_here_names : Nat) (this_here_kinds : Nat) (this_here_begin : Nat) (this_here_law : Nat) (this_here_persons : Int32) (this_here_mast : Int32) (this_here_weighs : Int32) (this_here_rounds : Int32) (this_here_toldOnce : Int32) (this_townDraft : Nat) (this_told : Nat) (this_yearDraft : Nat) (this_drawn : Int64) : va_W := [(this, .inr (9, [.ref this_tape, .ref this_history, .ref this_seen, .ref this_measured, .ref this_marks, .ref this_standing, .ref this_now, .ref this_ahead, .ref this_here, .ref this_townDraft, .ref this_told, .ref this_yearDraft, .long this_drawn])), (this_now, .inr (0, [.ref this_now_state, .ref this_now_next, .ref this_now_town, .int this_now_weighs, .int this_now_rounds, .int this_now_flag])), (this_now_state, .inr (5, [.ref this_now_state_lacks, .ref this_now_state_feels, .int this_now_state_date])), (this_now_state_lacks, .inl (k 0, 6, .inl this_now_state_lacks_f)), (this_now_state_feels, .inl (k 0, 6, .inl this_now_state_feels_f)), (this_here, .inr (7, [.ref this_here_names, .ref this_here_kinds, .ref this_here_begin, .ref this_here_law, .int this_here_persons, .int this_here_mast, .int this_here_weighs, .int this_here_rounds, .int this_here_toldOnce]))]
set_option maxHeartbeats 4000000 in
set_option maxRecDepth 100000 in
theorem c_X11_hearts (l : Launch) (D : va_G) (k : Nat → ClassId) (this : Nat) (this_tape : Nat) (this_history : Nat) (this_seen : Nat) (this_measured : Nat) (this_marks : Nat) (this_standing : Nat) (this_now : Nat) (this_now_state : Nat) (this_now_state_lacks : Nat) (this_now_state_lacks_f : Nat → Int32) (this_now_state_feels : Nat) (this_now_state_feels_f : Nat → Int32) (this_now_state_date : Int32) (this_now_next : Nat) (this_now_town : Nat) (this_now_weighs : Int32) (this_now_rounds : Int32) (this_now_flag : Int32) (this_ahead : Nat) (this_here : Nat) (this_here_names : Nat) (this_here_kinds : Nat) (this_here_begin : Nat) (this_here_law : Nat) (this_here_persons : Int32) (this_here_mast : Int32) (this_here_weighs : Int32) (this_here_rounds : Int32) (this_here_toldOnce : Int32) (this_townDraft : Nat) (this_told : Nat) (this_yearDraft : Nat) (this_drawn : Int64) (person : Int32) (R0 : Int32) (hm : m_X11_hearts this_now_state_feels_f this_here_persons person = some R0) : CR l D (TY k) yX11_hearts cX11_hearts 4 (some .int) 3 63 [.ref this, .int person] (wd_X11_hearts k this this_tape this_history this_seen this_measured this_marks this_standing this_now this_now_state this_now_state_lacks this_now_state_lacks_f this_now_state_feels this_now_state_feels_f this_now_state_date this_now_next this_now_town this_now_weighs this_now_rounds this_now_flag this_ahead this_here this_here_names this_here_kinds this_here_begin this_here_law this_here_persons this_here_mast this_here_weighs this_here_rounds this_here_toldOnce this_townDraft this_told this_yearDraft this_drawn) (some (.int R0)) := by
  refine CR.mk (by decide) (Nat.le_of_ble_eq_true rfl) ?_
  intro p e s m args below meth c ls ⟨hx, hb, hr, hts, hown, hlocks, hml⟩ hP hG hl
  have hl : lv_has ls 4 [(0, .ref this), (1, .int person)] := hl
  have h_17 : ∀ (n : Nat), ∀ (x2 : Int32) (x3 : Int32) (ls : Array Slot), lv_has ls 4 [(0, .ref this), (1, .int person), (2, .int x2), (3, .int x3)] → m_X11_hearts_17 this_now_state_feels_f this_here_persons person n x2 x3 = some R0 → W p l e (Rm 3 63) s m args below meth c s.heap [] 0 0 (MQ below (QR (some (.int R0))) args s 0 0 (fun _ => False)) (F0 m 17 ls []) := by
    intro n
    induction n with
    | zero => intro x2 x3 ls hl hm; cases hm
    | succ n ih =>
      intro x2 x3 ls hl hm
      unfold m_X11_hearts_17 at hm
      refine lv_iload_n (pc := 17) hx hb dX11_hearts_17 rfl (lv_at hl 3 rfl) ?_
      refine lv_aload_n (pc := 18) hx hb dX11_hearts_18 rfl (lv_at hl 0 rfl) ?_
      refine va_get (pc := 19) (D := D) (ci := 9) (C := RX11) (T := TX11) (N := 13) hx hb hts hiX11 hown hG.1 hP 0 rfl rfl 8 (Nat.le_of_ble_eq_true rfl) (hts _ kw_352) (fun _ h9 => h9) rfl dX11_hearts_19 ?_
      refine va_getN (pc := 22) (D := D) (ci := 7) (C := RX8) (T := TX8) (N := 9) hx hb hts hiX8 hown hG.1 hP 5 rfl rfl 4 (Nat.le_of_ble_eq_true rfl) (va_Nw.use rfl (hG.2 _ kn_204)) (fun _ h9 => h9) rfl dX11_hearts_22 ?_
      refine lv_icmp_ge (tgt := 60) (pc := 25) hx hb dX11_hearts_25 (by decide) (fun hc => ?_) (fun hc => ?_)
      · rw [if_pos hc] at hm
        refine lv_iload_n (pc := 60) hx hb dX11_hearts_60 rfl (lv_at hl 2 rfl) ?_
        rw [← Option.some.inj hm]
        exact W.iret hx hb hr (fun t ht _ => ⟨rfl, ht⟩) (fun _ h => by cases h) dX11_hearts_61 hlocks
      · rw [if_neg hc] at hm
        refine lv_iload_n (pc := 28) hx hb dX11_hearts_28 rfl (lv_at hl 2 rfl) ?_
        refine lv_aload_n (pc := 29) hx hb dX11_hearts_29 rfl (lv_at hl 0 rfl) ?_
        refine va_get (pc := 30) (D := D) (ci := 9) (C := RX11) (T := TX11) (N := 13) hx hb hts hiX11 hown hG.1 hP 0 rfl rfl 6 (Nat.le_of_ble_eq_true rfl) (hts _ kw_350) (fun _ h9 => h9) rfl dX11_hearts_30 ?_
        refine va_getN (pc := 33) (D := D) (ci := 0) (C := RX1) (T := TX1) (N := 6) hx hb hts hiX1 hown hG.1 hP 1 rfl rfl 0 (Nat.le_of_ble_eq_true rfl) (va_Nw.use rfl (hG.2 _ kn_149)) (fun _ h9 => h9) rfl dX11_hearts_33 ?_
        refine lv_iload_n (pc := 36) hx hb dX11_hearts_36 rfl (lv_at hl 3 rfl) ?_
        refine lv_iload_n (pc := 37) hx hb dX11_hearts_37 rfl (lv_at hl 1 rfl) ?_
        obtain ⟨r4, hcl, hm⟩ := bd hm
        refine cr_back (run_VN (pc := 38) (n := 2) (As := [.int x3, .int person]) (rest := [.int x2]) ⟨hx, hb, hml, hown, hts⟩ (c_X6_feels l D k this_now_state this_now_state_lacks this_now_state_lacks_f this_now_state_feels this_now_state_feels_f this_now_state_date x3 person r4 hcl) ⟨kw_600, kw_6, by decide +kernel⟩ hG kn_1034 kw_599 ks_33 ⟨Nat.le_of_ble_eq_true rfl, Nat.le_of_ble_eq_true rfl⟩ pr_blind (prR (hP.sub [2, 3, 4] rfl) hG) (va_recv hG.1 hP (ci := 5) (q0 := 2) rfl rfl) rfl hl.1 rfl (Nat.le_of_ble_eq_true rfl) dX11_hearts_38 ⟨Nat.zero_le _, Nat.zero_le _⟩) ?_
        refine lv_if_eq (tgt := 51) (pc := 41) hx hb dX11_hearts_41 (by decide) (fun hc => ?_) (fun hc => ?_)
        · rw [if_pos hc] at hm
          refine lv_iconst (v := 0) (pc := 51) hx hb dX11_hearts_51 (by decide) ?_
          refine lv_ior (pc := 52) hx hb dX11_hearts_52 ?_
          refine lv_istore_n (lv' := [(2, .int (x2 ||| 0)), (0, .ref this), (1, .int person), (3, .int x3)]) (pc := 53) hx hb dX11_hearts_53 rfl hl (Nat.le_of_ble_eq_true rfl) rfl (fun ls hl => ?_)
          refine lv_iinc (k := 3) (v := x3 + 1) (lv' := [(3, .int (x3 + 1)), (2, .int (x2 ||| 0)), (0, .ref this), (1, .int person)]) (pc := 54) hx hb dX11_hearts_54 hl rfl rfl (Nat.le_of_ble_eq_true rfl) rfl (fun ls hl => ?_)
          refine lv_goto (tgt := 17) (pc := 57) hx hb dX11_hearts_57 (by decide) ?_
          exact ih (x2 ||| 0) (x3 + 1) ls (lv_sub hl [2, 3, 1, 0] rfl) hm
        · rw [if_neg hc] at hm
          refine lv_iload_n (pc := 44) hx hb dX11_hearts_44 rfl (lv_at hl 3 rfl) ?_
          obtain ⟨r5, hcl, hm⟩ := bd hm
          refine cr_back (run_S (pc := 45) (n := 1) (As := [.int x3]) (rest := [.int x2]) ⟨hx, hb, hml, hown, hts⟩ (c_X11_bit l D k x3 r5 hcl) ⟨kw_607, kw_1, by decide +kernel⟩ kw_605 kw_606 ⟨Nat.le_of_ble_eq_true rfl, Nat.le_of_ble_eq_true rfl⟩ pr_blind (prR (hP.sub [] rfl) hG) rfl hl.1 rfl (Nat.le_of_ble_eq_true rfl) dX11_hearts_45 ⟨Nat.zero_le _, Nat.zero_le _⟩) ?_
          refine lv_goto (tgt := 52) (pc := 48) hx hb dX11_hearts_48 (by decide) ?_
          refine lv_ior (pc := 52) hx hb dX11_hearts_52 ?_
          refine lv_istore_n (lv' := [(2, .int (x2 ||| r5)), (0, .ref this), (1, .int person), (3, .int x3)]) (pc := 53) hx hb dX11_hearts_53 rfl hl (Nat.le_of_ble_eq_true rfl) rfl (fun ls hl => ?_)
          refine lv_iinc (k := 3) (v := x3 + 1) (lv' := [(3, .int (x3 + 1)), (2, .int (x2 ||| r5)), (0, .ref this), (1, .int person)]) (pc := 54) hx hb dX11_hearts_54 hl rfl rfl (Nat.le_of_ble_eq_true rfl) rfl (fun ls hl => ?_)
          refine lv_goto (tgt := 17) (pc := 57) hx hb dX11_hearts_57 (by decide) ?_
          exact ih (x2 ||| r5) (x3 + 1) ls (lv_sub hl [2, 3, 1, 0] rfl) hm
  unfold m_X11_hearts at hm
  refine lv_aload_n (pc := 0) hx hb dX11_hearts_0 rfl (lv_at hl 0 rfl) ?_
  refine va_get (pc := 1) (D := D) (ci := 9) (C := RX11) (T := TX11) (N := 13) hx hb hts hiX11 hown hG.1 hP 0 rfl rfl 8 (Nat.le_of_ble_eq_true rfl) (hts _ kw_352) (fun _ h9 => h9) rfl dX11_hearts_1 ?_
  refine lv_iload_n (pc := 4) hx hb dX11_hearts_4 rfl (lv_at hl 1 rfl) ?_
  obtain ⟨r6, hcl, hm⟩ := bd hm
  refine cr_back (run_VN (pc := 5) (n := 1) (As := [.int person]) (rest := []) ⟨hx, hb, hml, hown, hts⟩ (c_X8_has l D k this_here this_here_names this_here_kinds this_here_begin this_here_law this_here_persons this_here_mast this_here_weighs this_here_rounds this_here_toldOnce person r6 hcl) ⟨kw_743, kw_9, by decide +kernel⟩ hG kn_740 kw_742 ks_53 ⟨Nat.le_of_ble_eq_true rfl, Nat.le_of_ble_eq_true rfl⟩ pr_blind (prR (hP.sub [5] rfl) hG) (va_recv hG.1 hP (ci := 7) (q0 := 5) rfl rfl) rfl hl.1 rfl (Nat.le_of_ble_eq_true rfl) dX11_hearts_5 ⟨Nat.zero_le _, Nat.zero_le _⟩) ?_
  refine lv_if_ne (tgt := 13) (pc := 8) hx hb dX11_hearts_8 (by decide) (fun hc => ?_) (fun hc => ?_)
  · rw [if_neg hc] at hm
    refine lv_iconst (v := 0) (pc := 13) hx hb dX11_hearts_13 (by decide) ?_
    refine lv_istore_n (lv' := [(2, .int 0), (0, .ref this), (1, .int person)]) (pc := 14) hx hb dX11_hearts_14 rfl hl (Nat.le_of_ble_eq_true rfl) rfl (fun ls hl => ?_)
    refine lv_iconst (v := 0) (pc := 15) hx hb dX11_hearts_15 (by decide) ?_
    refine lv_istore_n (lv' := [(3, .int 0), (2, .int 0), (0, .ref this), (1, .int person)]) (pc := 16) hx hb dX11_hearts_16 rfl hl (Nat.le_of_ble_eq_true rfl) rfl (fun ls hl => ?_)
    exact h_17 FU 0 0 ls (lv_sub hl [2, 3, 1, 0] rfl) hm
  · rw [if_pos hc] at hm
    refine lv_iconst (v := (-1)) (pc := 11) hx hb dX11_hearts_11 (by decide) ?_
    rw [← Option.some.inj hm]
    exact W.iret hx hb hr (fun t ht _ => ⟨rfl, ht⟩) (fun _ h => by cases h) dX11_hearts_12 hlocks
theorem dX11_alike_0 : decode cX11_alike 0 = .ok (.iconst 0, 1) := by decide +kernel
theorem dX11_alike_1 : decode cX11_alike 1 = .ok (.istore_n 1, 1) := by decide +kernel
theorem dX11_alike_2 : decode cX11_alike 2 = .ok (.iconst 0, 1) := by decide +kernel
theorem dX11_alike_3 : decode cX11_alike 3 = .ok (.istore_n 2, 1) := by decide +kernel
theorem dX11_alike_4 : decode cX11_alike 4 = .ok (.iload_n 2, 1) := by decide +kernel
theorem dX11_alike_5 : decode cX11_alike 5 = .ok (.aload_n 0, 1) := by decide +kernel
theorem dX11_alike_6 : decode cX11_alike 6 = .ok (.getfield 56, 3) := by decide +kernel
theorem dX11_alike_9 : decode cX11_alike 9 = .ok (.getfield 197, 3) := by decide +kernel
theorem dX11_alike_12 : decode cX11_alike 12 = .ok (.if_icmp .ge 57, 3) := by decide +kernel
theorem dX11_alike_15 : decode cX11_alike 15 = .ok (.iload_n 2, 1) := by decide +kernel
theorem dX11_alike_16 : decode cX11_alike 16 = .ok (.iconst 1, 1) := by decide +kernel
theorem dX11_alike_17 : decode cX11_alike 17 = .ok (.iadd, 1) := by decide +kernel
theorem dX11_alike_18 : decode cX11_alike 18 = .ok (.istore_n 3, 1) := by decide +kernel
theorem dX11_alike_19 : decode cX11_alike 19 = .ok (.iload_n 3, 1) := by decide +kernel
theorem dX11_alike_20 : decode cX11_alike 20 = .ok (.aload_n 0, 1) := by decide +kernel
theorem dX11_alike_21 : decode cX11_alike 21 = .ok (.getfield 56, 3) := by decide +kernel
theorem dX11_alike_24 : decode cX11_alike 24 = .ok (.getfield 197, 3) := by decide +kernel
theorem dX11_alike_27 : decode cX11_alike 27 = .ok (.if_icmp .ge 36, 3) := by decide +kernel
theorem dX11_alike_30 : decode cX11_alike 30 = .ok (.iload_n 1, 1) := by decide +kernel
theorem dX11_alike_31 : decode cX11_alike 31 = .ok (.aload_n 0, 1) := by decide +kernel
theorem dX11_alike_32 : decode cX11_alike 32 = .ok (.getfield 46, 3) := by decide +kernel
theorem dX11_alike_35 : decode cX11_alike 35 = .ok (.iload_n 2, 1) := by decide +kernel
theorem dX11_alike_36 : decode cX11_alike 36 = .ok (.invokevirtual 128, 3) := by decide +kernel
theorem dX11_alike_39 : decode cX11_alike 39 = .ok (.aload_n 0, 1) := by decide +kernel
theorem dX11_alike_40 : decode cX11_alike 40 = .ok (.getfield 46, 3) := by decide +kernel
theorem dX11_alike_43 : decode cX11_alike 43 = .ok (.iload_n 3, 1) := by decide +kernel
theorem dX11_alike_44 : decode cX11_alike 44 = .ok (.invokevirtual 128, 3) := by decide +kernel
theorem dX11_alike_47 : decode cX11_alike 47 = .ok (.if_icmp .ne 7, 3) := by decide +kernel
theorem dX11_alike_50 : decode cX11_alike 50 = .ok (.iconst 1, 1) := by decide +kernel
theorem dX11_alike_51 : decode cX11_alike 51 = .ok (.goto 4, 3) := by decide +kernel
theorem dX11_alike_54 : decode cX11_alike 54 = .ok (.iconst 0, 1) := by decide +kernel
theorem dX11_alike_55 : decode cX11_alike 55 = .ok (.iadd, 1) := by decide +kernel
theorem dX11_alike_56 : decode cX11_alike 56 = .ok (.istore_n 1, 1) := by decide +kernel
theorem dX11_alike_57 : decode cX11_alike 57 = .ok (.iinc 3 1, 3) := by decide +kernel
theorem dX11_alike_60 : decode cX11_alike 60 = .ok (.goto (-41), 3) := by decide +kernel
theorem dX11_alike_63 : decode cX11_alike 63 = .ok (.iinc 2 1, 3) := by decide +kernel
theorem dX11_alike_66 : decode cX11_alike 66 = .ok (.goto (-62), 3) := by decide +kernel
theorem dX11_alike_69 : decode cX11_alike 69 = .ok (.iload_n 1, 1) := by decide +kernel
theorem dX11_alike_70 : decode cX11_alike 70 = .ok (.ireturn, 1) := by decide +kernel
abbrev wd_X11_alike (k : Nat → ClassId) (this : Nat) (this_tape : Nat) (this_history : Nat) (this_seen : Nat) (this_measured : Nat) (this_marks : Nat) (this_standing : Nat) (this_now : Nat) (this_now_state : Nat) (this_now_state_lacks : Nat) (this_now_state_lacks_f : Nat → Int32) (this_now_state_feels : Nat) (this_now_state_feels_f : Nat → Int32) (this_now_state_date : Int32) (this_now_next : Nat) (this_now_town : Nat) (this_now_weighs : Int32) (this_now_rounds : Int32) (this_now_flag : Int32) (this_ahead : Nat) (this_here : Nat) (this_here_names : Nat) (this_here_kinds : Nat) (this_here_begin : Nat) (this_here_law : Nat) (this_here_persons : Int32) (this_here_mast : Int32) (this_here_weighs : Int32) (this_here_rounds : Int32) (this_here_toldOnce : Int32) (this_townDraft : Nat) (this_told : Nat) (this_yearDraft : Nat) (this_drawn : Int64) : va_W := [(this, .inr (9, [.ref this_tape, .ref this_history, .ref this_seen, .ref this_measured, .ref this_marks, .ref this_standing, .ref this_now, .ref this_ahead, .ref this_here, .ref this_townDraft, .ref this_told, .ref this_yearDraft, .long this_drawn])), (this_now, .inr (0, [.ref this_now_state, .ref this_now_next, .ref this_now_town, .int this_now_weighs, .int this_now_rounds, .int this_now_flag])), (this_now_state, .inr (5, [.ref this_now_state_lacks, .ref this_now_state_feels, .int this_now_state_date])), (this_now_state_lacks, .inl (k 0, 6, .inl this_now_state_lacks_f)), (this_now_state_feels, .inl (k 0, 6, .inl this_now_state_feels_f)), (this_here, .inr (7, [.ref this_here_names, .ref this_here_kinds, .ref this_here_begin, .ref this_here_law, .int this_here_persons, .int this_here_mast, .int this_here_weighs, .int this_here_rounds, .int this_here_toldOnce]))]
set_option maxHeartbeats 4000000 in
set_option maxRecDepth 100000 in
theorem c_X11_alike (l : Launch) (D : va_G) (k : Nat → ClassId) (this : Nat) (this_tape : Nat) (this_history : Nat) (this_seen : Nat) (this_measured : Nat) (this_marks : Nat) (this_standing : Nat) (this_now : Nat) (this_now_state : Nat) (this_now_state_lacks : Nat) (this_now_state_lacks_f : Nat → Int32) (this_now_state_feels : Nat) (this_now_state_feels_f : Nat → Int32) (this_now_state_date : Int32) (this_now_next : Nat) (this_now_town : Nat) (this_now_weighs : Int32) (this_now_rounds : Int32) (this_now_flag : Int32) (this_ahead : Nat) (this_here : Nat) (this_here_names : Nat) (this_here_kinds : Nat) (this_here_begin : Nat) (this_here_law : Nat) (this_here_persons : Int32) (this_here_mast : Int32) (this_here_weighs : Int32) (this_here_rounds : Int32) (this_here_toldOnce : Int32) (this_townDraft : Nat) (this_told : Nat) (this_yearDraft : Nat) (this_drawn : Int64) (R0 : Int32) (hm : m_X11_alike this_now_state_lacks_f this_here_persons = some R0) : CR l D (TY k) yX11_alike cX11_alike 4 (some .int) 2 42 [.ref this] (wd_X11_alike k this this_tape this_history this_seen this_measured this_marks this_standing this_now this_now_state this_now_state_lacks this_now_state_lacks_f this_now_state_feels this_now_state_feels_f this_now_state_date this_now_next this_now_town this_now_weighs this_now_rounds this_now_flag this_ahead this_here this_here_names this_here_kinds this_here_begin this_here_law this_here_persons this_here_mast this_here_weighs this_here_rounds this_here_toldOnce this_townDraft this_told this_yearDraft this_drawn) (some (.int R0)) := by
  refine CR.mk (by decide) (Nat.le_of_ble_eq_true rfl) ?_
  intro p e s m args below meth c ls ⟨hx, hb, hr, hts, hown, hlocks, hml⟩ hP hG hl
  have hl : lv_has ls 4 [(0, .ref this)] := hl
  have h_19 : ∀ (K4 : Int32 → Int32 → Option (Int32)) (hK4 : ∀ (x1 : Int32) (x2 : Int32) (ls : Array Slot), lv_has ls 4 [(0, .ref this), (1, .int x1), (2, .int x2)] → K4 x1 x2 = some R0 → W p l e (Rm 2 42) s m args below meth c s.heap [] 0 0 (MQ below (QR (some (.int R0))) args s 0 0 (fun _ => False)) (F0 m 4 ls [])), ∀ (n : Nat), ∀ (x1 : Int32) (x2 : Int32) (x3 : Int32) (ls : Array Slot), lv_has ls 4 [(0, .ref this), (1, .int x1), (2, .int x2), (3, .int x3)] → m_X11_alike_19 this_now_state_lacks_f this_here_persons K4 n x1 x2 x3 = some R0 → W p l e (Rm 2 42) s m args below meth c s.heap [] 0 0 (MQ below (QR (some (.int R0))) args s 0 0 (fun _ => False)) (F0 m 19 ls []) := by
    intro K4 hK4
    intro n
    induction n with
    | zero => intro x1 x2 x3 ls hl hm; cases hm
    | succ n ih =>
      intro x1 x2 x3 ls hl hm
      unfold m_X11_alike_19 at hm
      refine lv_iload_n (pc := 19) hx hb dX11_alike_19 rfl (lv_at hl 3 rfl) ?_
      refine lv_aload_n (pc := 20) hx hb dX11_alike_20 rfl (lv_at hl 0 rfl) ?_
      refine va_get (pc := 21) (D := D) (ci := 9) (C := RX11) (T := TX11) (N := 13) hx hb hts hiX11 hown hG.1 hP 0 rfl rfl 8 (Nat.le_of_ble_eq_true rfl) (hts _ kw_352) (fun _ h9 => h9) rfl dX11_alike_21 ?_
      refine va_getN (pc := 24) (D := D) (ci := 7) (C := RX8) (T := TX8) (N := 9) hx hb hts hiX8 hown hG.1 hP 5 rfl rfl 4 (Nat.le_of_ble_eq_true rfl) (va_Nw.use rfl (hG.2 _ kn_204)) (fun _ h9 => h9) rfl dX11_alike_24 ?_
      refine lv_icmp_ge (tgt := 63) (pc := 27) hx hb dX11_alike_27 (by decide) (fun hc => ?_) (fun hc => ?_)
      · rw [if_pos hc] at hm
        refine lv_iinc (k := 2) (v := x2 + 1) (lv' := [(2, .int (x2 + 1)), (0, .ref this), (1, .int x1), (3, .int x3)]) (pc := 63) hx hb dX11_alike_63 hl rfl rfl (Nat.le_of_ble_eq_true rfl) rfl (fun ls hl => ?_)
        refine lv_goto (tgt := 4) (pc := 66) hx hb dX11_alike_66 (by decide) ?_
        exact hK4 x1 (x2 + 1) ls (lv_sub hl [1, 2, 0] rfl) hm
      · rw [if_neg hc] at hm
        refine lv_iload_n (pc := 30) hx hb dX11_alike_30 rfl (lv_at hl 1 rfl) ?_
        refine lv_aload_n (pc := 31) hx hb dX11_alike_31 rfl (lv_at hl 0 rfl) ?_
        refine va_get (pc := 32) (D := D) (ci := 9) (C := RX11) (T := TX11) (N := 13) hx hb hts hiX11 hown hG.1 hP 0 rfl rfl 6 (Nat.le_of_ble_eq_true rfl) (hts _ kw_350) (fun _ h9 => h9) rfl dX11_alike_32 ?_
        refine lv_iload_n (pc := 35) hx hb dX11_alike_35 rfl (lv_at hl 2 rfl) ?_
        obtain ⟨r3, hcl, hm⟩ := bd hm
        refine cr_back (run_VN (pc := 36) (n := 1) (As := [.int x2]) (rest := [.int x1]) ⟨hx, hb, hml, hown, hts⟩ (c_X1_lacking l D k this_now this_now_state this_now_state_lacks this_now_state_lacks_f this_now_state_feels this_now_state_date this_now_next this_now_town this_now_weighs this_now_rounds this_now_flag x2 r3 hcl) ⟨kw_748, kw_8, by decide +kernel⟩ hG kn_745 kw_747 ks_54 ⟨Nat.le_of_ble_eq_true rfl, Nat.le_of_ble_eq_true rfl⟩ pr_blind (prR (hP.sub [1, 2, 3] rfl) hG) (va_recv hG.1 hP (ci := 0) (q0 := 1) rfl rfl) rfl hl.1 rfl (Nat.le_of_ble_eq_true rfl) dX11_alike_36 ⟨Nat.zero_le _, Nat.zero_le _⟩) ?_
        refine lv_aload_n (pc := 39) hx hb dX11_alike_39 rfl (lv_at hl 0 rfl) ?_
        refine va_get (pc := 40) (D := D) (ci := 9) (C := RX11) (T := TX11) (N := 13) hx hb hts hiX11 hown hG.1 hP 0 rfl rfl 6 (Nat.le_of_ble_eq_true rfl) (hts _ kw_350) (fun _ h9 => h9) rfl dX11_alike_40 ?_
        refine lv_iload_n (pc := 43) hx hb dX11_alike_43 rfl (lv_at hl 3 rfl) ?_
        obtain ⟨r4, hcl, hm⟩ := bd hm
        refine cr_back (run_VN (pc := 44) (n := 1) (As := [.int x3]) (rest := [.int r3, .int x1]) ⟨hx, hb, hml, hown, hts⟩ (c_X1_lacking l D k this_now this_now_state this_now_state_lacks this_now_state_lacks_f this_now_state_feels this_now_state_date this_now_next this_now_town this_now_weighs this_now_rounds this_now_flag x3 r4 hcl) ⟨kw_748, kw_8, by decide +kernel⟩ hG kn_745 kw_747 ks_54 ⟨Nat.le_of_ble_eq_true rfl, Nat.le_of_ble_eq_true rfl⟩ pr_blind (prR (hP.sub [1, 2, 3] rfl) hG) (va_recv hG.1 hP (ci := 0) (q0 := 1) rfl rfl) rfl hl.1 rfl (Nat.le_of_ble_eq_true rfl) dX11_alike_44 ⟨Nat.zero_le _, Nat.zero_le _⟩) ?_
        refine lv_icmp_ne (tgt := 54) (pc := 47) hx hb dX11_alike_47 (by decide) (fun hc => ?_) (fun hc => ?_)
        · rw [if_neg hc] at hm
          refine lv_iconst (v := 0) (pc := 54) hx hb dX11_alike_54 (by decide) ?_
          refine lv_iadd (pc := 55) hx hb dX11_alike_55 ?_
          refine lv_istore_n (lv' := [(1, .int (x1 + 0)), (0, .ref this), (2, .int x2), (3, .int x3)]) (pc := 56) hx hb dX11_alike_56 rfl hl (Nat.le_of_ble_eq_true rfl) rfl (fun ls hl => ?_)
          refine lv_iinc (k := 3) (v := x3 + 1) (lv' := [(3, .int (x3 + 1)), (1, .int (x1 + 0)), (0, .ref this), (2, .int x2)]) (pc := 57) hx hb dX11_alike_57 hl rfl rfl (Nat.le_of_ble_eq_true rfl) rfl (fun ls hl => ?_)
          refine lv_goto (tgt := 19) (pc := 60) hx hb dX11_alike_60 (by decide) ?_
          exact ih (x1 + 0) x2 (x3 + 1) ls (lv_sub hl [2, 1, 3, 0] rfl) hm
        · rw [if_pos hc] at hm
          refine lv_iconst (v := 1) (pc := 50) hx hb dX11_alike_50 (by decide) ?_
          refine lv_goto (tgt := 55) (pc := 51) hx hb dX11_alike_51 (by decide) ?_
          refine lv_iadd (pc := 55) hx hb dX11_alike_55 ?_
          refine lv_istore_n (lv' := [(1, .int (x1 + 1)), (0, .ref this), (2, .int x2), (3, .int x3)]) (pc := 56) hx hb dX11_alike_56 rfl hl (Nat.le_of_ble_eq_true rfl) rfl (fun ls hl => ?_)
          refine lv_iinc (k := 3) (v := x3 + 1) (lv' := [(3, .int (x3 + 1)), (1, .int (x1 + 1)), (0, .ref this), (2, .int x2)]) (pc := 57) hx hb dX11_alike_57 hl rfl rfl (Nat.le_of_ble_eq_true rfl) rfl (fun ls hl => ?_)
          refine lv_goto (tgt := 19) (pc := 60) hx hb dX11_alike_60 (by decide) ?_
          exact ih (x1 + 1) x2 (x3 + 1) ls (lv_sub hl [2, 1, 3, 0] rfl) hm
  have h_4 : ∀ (n : Nat), ∀ (x1 : Int32) (x2 : Int32) (ls : Array Slot), lv_has ls 4 [(0, .ref this), (1, .int x1), (2, .int x2)] → m_X11_alike_4 this_now_state_lacks_f this_here_persons n x1 x2 = some R0 → W p l e (Rm 2 42) s m args below meth c s.heap [] 0 0 (MQ below (QR (some (.int R0))) args s 0 0 (fun _ => False)) (F0 m 4 ls []) := by
    intro n
    induction n with
    | zero => intro x1 x2 ls hl hm; cases hm
    | succ n ih =>
      intro x1 x2 ls hl hm
      unfold m_X11_alike_4 at hm
      refine lv_iload_n (pc := 4) hx hb dX11_alike_4 rfl (lv_at hl 2 rfl) ?_
      refine lv_aload_n (pc := 5) hx hb dX11_alike_5 rfl (lv_at hl 0 rfl) ?_
      refine va_get (pc := 6) (D := D) (ci := 9) (C := RX11) (T := TX11) (N := 13) hx hb hts hiX11 hown hG.1 hP 0 rfl rfl 8 (Nat.le_of_ble_eq_true rfl) (hts _ kw_352) (fun _ h9 => h9) rfl dX11_alike_6 ?_
      refine va_getN (pc := 9) (D := D) (ci := 7) (C := RX8) (T := TX8) (N := 9) hx hb hts hiX8 hown hG.1 hP 5 rfl rfl 4 (Nat.le_of_ble_eq_true rfl) (va_Nw.use rfl (hG.2 _ kn_204)) (fun _ h9 => h9) rfl dX11_alike_9 ?_
      refine lv_icmp_ge (tgt := 69) (pc := 12) hx hb dX11_alike_12 (by decide) (fun hc => ?_) (fun hc => ?_)
      · rw [if_pos hc] at hm
        refine lv_iload_n (pc := 69) hx hb dX11_alike_69 rfl (lv_at hl 1 rfl) ?_
        rw [← Option.some.inj hm]
        exact W.iret hx hb hr (fun t ht _ => ⟨rfl, ht⟩) (fun _ h => by cases h) dX11_alike_70 hlocks
      · rw [if_neg hc] at hm
        refine lv_iload_n (pc := 15) hx hb dX11_alike_15 rfl (lv_at hl 2 rfl) ?_
        refine lv_iconst (v := 1) (pc := 16) hx hb dX11_alike_16 (by decide) ?_
        refine lv_iadd (pc := 17) hx hb dX11_alike_17 ?_
        refine lv_istore_n (lv' := [(3, .int (x2 + 1)), (0, .ref this), (1, .int x1), (2, .int x2)]) (pc := 18) hx hb dX11_alike_18 rfl hl (Nat.le_of_ble_eq_true rfl) rfl (fun ls hl => ?_)
        exact h_19 (m_X11_alike_4 this_now_state_lacks_f this_here_persons n) ih FU x1 x2 (x2 + 1) ls (lv_sub hl [1, 2, 3, 0] rfl) hm
  unfold m_X11_alike at hm
  refine lv_iconst (v := 0) (pc := 0) hx hb dX11_alike_0 (by decide) ?_
  refine lv_istore_n (lv' := [(1, .int 0), (0, .ref this)]) (pc := 1) hx hb dX11_alike_1 rfl hl (Nat.le_of_ble_eq_true rfl) rfl (fun ls hl => ?_)
  refine lv_iconst (v := 0) (pc := 2) hx hb dX11_alike_2 (by decide) ?_
  refine lv_istore_n (lv' := [(2, .int 0), (1, .int 0), (0, .ref this)]) (pc := 3) hx hb dX11_alike_3 rfl hl (Nat.le_of_ble_eq_true rfl) rfl (fun ls hl => ?_)
  exact h_4 FU 0 0 ls (lv_sub hl [2, 1, 0] rfl) hm
theorem dX11_lacksMoreThanFelt_0 : decode cX11_lacksMoreThanFelt 0 = .ok (.iconst 0, 1) := by decide +kernel
theorem dX11_lacksMoreThanFelt_1 : decode cX11_lacksMoreThanFelt 1 = .ok (.istore_n 2, 1) := by decide +kernel
theorem dX11_lacksMoreThanFelt_2 : decode cX11_lacksMoreThanFelt 2 = .ok (.iload_n 2, 1) := by decide +kernel
theorem dX11_lacksMoreThanFelt_3 : decode cX11_lacksMoreThanFelt 3 = .ok (.aload_n 0, 1) := by decide +kernel
theorem dX11_lacksMoreThanFelt_4 : decode cX11_lacksMoreThanFelt 4 = .ok (.getfield 56, 3) := by decide +kernel
theorem dX11_lacksMoreThanFelt_7 : decode cX11_lacksMoreThanFelt 7 = .ok (.getfield 197, 3) := by decide +kernel
theorem dX11_lacksMoreThanFelt_10 : decode cX11_lacksMoreThanFelt 10 = .ok (.if_icmp .ge 45, 3) := by decide +kernel
theorem dX11_lacksMoreThanFelt_13 : decode cX11_lacksMoreThanFelt 13 = .ok (.aload_n 0, 1) := by decide +kernel
theorem dX11_lacksMoreThanFelt_14 : decode cX11_lacksMoreThanFelt 14 = .ok (.getfield 46, 3) := by decide +kernel
theorem dX11_lacksMoreThanFelt_17 : decode cX11_lacksMoreThanFelt 17 = .ok (.getfield 136, 3) := by decide +kernel
theorem dX11_lacksMoreThanFelt_20 : decode cX11_lacksMoreThanFelt 20 = .ok (.iload_n 1, 1) := by decide +kernel
theorem dX11_lacksMoreThanFelt_21 : decode cX11_lacksMoreThanFelt 21 = .ok (.iload_n 2, 1) := by decide +kernel
theorem dX11_lacksMoreThanFelt_22 : decode cX11_lacksMoreThanFelt 22 = .ok (.invokevirtual 273, 3) := by decide +kernel
theorem dX11_lacksMoreThanFelt_25 : decode cX11_lacksMoreThanFelt 25 = .ok (.ifCond .eq 24, 3) := by decide +kernel
theorem dX11_lacksMoreThanFelt_28 : decode cX11_lacksMoreThanFelt 28 = .ok (.aload_n 0, 1) := by decide +kernel
theorem dX11_lacksMoreThanFelt_29 : decode cX11_lacksMoreThanFelt 29 = .ok (.getfield 46, 3) := by decide +kernel
theorem dX11_lacksMoreThanFelt_32 : decode cX11_lacksMoreThanFelt 32 = .ok (.iload_n 2, 1) := by decide +kernel
theorem dX11_lacksMoreThanFelt_33 : decode cX11_lacksMoreThanFelt 33 = .ok (.invokevirtual 128, 3) := by decide +kernel
theorem dX11_lacksMoreThanFelt_36 : decode cX11_lacksMoreThanFelt 36 = .ok (.aload_n 0, 1) := by decide +kernel
theorem dX11_lacksMoreThanFelt_37 : decode cX11_lacksMoreThanFelt 37 = .ok (.getfield 46, 3) := by decide +kernel
theorem dX11_lacksMoreThanFelt_40 : decode cX11_lacksMoreThanFelt 40 = .ok (.iload_n 1, 1) := by decide +kernel
theorem dX11_lacksMoreThanFelt_41 : decode cX11_lacksMoreThanFelt 41 = .ok (.invokevirtual 128, 3) := by decide +kernel
theorem dX11_lacksMoreThanFelt_44 : decode cX11_lacksMoreThanFelt 44 = .ok (.if_icmp .lt 5, 3) := by decide +kernel
theorem dX11_lacksMoreThanFelt_47 : decode cX11_lacksMoreThanFelt 47 = .ok (.iconst 0, 1) := by decide +kernel
theorem dX11_lacksMoreThanFelt_48 : decode cX11_lacksMoreThanFelt 48 = .ok (.ireturn, 1) := by decide +kernel
theorem dX11_lacksMoreThanFelt_49 : decode cX11_lacksMoreThanFelt 49 = .ok (.iinc 2 1, 3) := by decide +kernel
theorem dX11_lacksMoreThanFelt_52 : decode cX11_lacksMoreThanFelt 52 = .ok (.goto (-50), 3) := by decide +kernel
theorem dX11_lacksMoreThanFelt_55 : decode cX11_lacksMoreThanFelt 55 = .ok (.aload_n 0, 1) := by decide +kernel
theorem dX11_lacksMoreThanFelt_56 : decode cX11_lacksMoreThanFelt 56 = .ok (.getfield 46, 3) := by decide +kernel
theorem dX11_lacksMoreThanFelt_59 : decode cX11_lacksMoreThanFelt 59 = .ok (.getfield 136, 3) := by decide +kernel
theorem dX11_lacksMoreThanFelt_62 : decode cX11_lacksMoreThanFelt 62 = .ok (.getfield 139, 3) := by decide +kernel
theorem dX11_lacksMoreThanFelt_65 : decode cX11_lacksMoreThanFelt 65 = .ok (.iload_n 1, 1) := by decide +kernel
theorem dX11_lacksMoreThanFelt_66 : decode cX11_lacksMoreThanFelt 66 = .ok (.invokestatic 124, 3) := by decide +kernel
theorem dX11_lacksMoreThanFelt_69 : decode cX11_lacksMoreThanFelt 69 = .ok (.ifCond .eq 7, 3) := by decide +kernel
theorem dX11_lacksMoreThanFelt_72 : decode cX11_lacksMoreThanFelt 72 = .ok (.iconst 1, 1) := by decide +kernel
theorem dX11_lacksMoreThanFelt_73 : decode cX11_lacksMoreThanFelt 73 = .ok (.goto 4, 3) := by decide +kernel
theorem dX11_lacksMoreThanFelt_76 : decode cX11_lacksMoreThanFelt 76 = .ok (.iconst 0, 1) := by decide +kernel
theorem dX11_lacksMoreThanFelt_77 : decode cX11_lacksMoreThanFelt 77 = .ok (.ireturn, 1) := by decide +kernel
abbrev wd_X11_lacksMoreThanFelt (k : Nat → ClassId) (this : Nat) (this_tape : Nat) (this_history : Nat) (this_seen : Nat) (this_measured : Nat) (this_marks : Nat) (this_standing : Nat) (this_now : Nat) (this_now_state : Nat) (this_now_state_lacks : Nat) (this_now_state_lacks_f : Nat → Int32) (this_now_state_feels : Nat) (this_now_state_feels_f : Nat → Int32) (this_now_state_date : Int32) (this_now_next : Nat) (this_now_town : Nat) (this_now_weighs : Int32) (this_now_rounds : Int32) (this_now_flag : Int32) (this_ahead : Nat) (this_here : Nat) (this_here_names : Nat) (this_here_kinds : Nat) (this_here_begin : Nat) (this_here_law : Nat) (this_here_persons : Int32) (this_here_mast : Int32) (this_here_weighs : Int32) (this_here_rounds : Int32) (this_here_toldOnce : Int32) (this_townDraft : Nat) (this_told : Nat) (this_yearDraft : Nat) (this_drawn : Int64) : va_W := [(this, .inr (9, [.ref this_tape, .ref this_history, .ref this_seen, .ref this_measured, .ref this_marks, .ref this_standing, .ref this_now, .ref this_ahead, .ref this_here, .ref this_townDraft, .ref this_told, .ref this_yearDraft, .long this_drawn])), (this_now, .inr (0, [.ref this_now_state, .ref this_now_next, .ref this_now_town, .int this_now_weighs, .int this_now_rounds, .int this_now_flag])), (this_now_state, .inr (5, [.ref this_now_state_lacks, .ref this_now_state_feels, .int this_now_state_date])), (this_now_state_lacks, .inl (k 0, 6, .inl this_now_state_lacks_f)), (this_now_state_feels, .inl (k 0, 6, .inl this_now_state_feels_f)), (this_here, .inr (7, [.ref this_here_names, .ref this_here_kinds, .ref this_here_begin, .ref this_here_law, .int this_here_persons, .int this_here_mast, .int this_here_weighs, .int this_here_rounds, .int this_here_toldOnce]))]
set_option maxHeartbeats 4000000 in
set_option maxRecDepth 100000 in
theorem c_X11_lacksMoreThanFelt (l : Launch) (D : va_G) (k : Nat → ClassId) (this : Nat) (this_tape : Nat) (this_history : Nat) (this_seen : Nat) (this_measured : Nat) (this_marks : Nat) (this_standing : Nat) (this_now : Nat) (this_now_state : Nat) (this_now_state_lacks : Nat) (this_now_state_lacks_f : Nat → Int32) (this_now_state_feels : Nat) (this_now_state_feels_f : Nat → Int32) (this_now_state_date : Int32) (this_now_next : Nat) (this_now_town : Nat) (this_now_weighs : Int32) (this_now_rounds : Int32) (this_now_flag : Int32) (this_ahead : Nat) (this_here : Nat) (this_here_names : Nat) (this_here_kinds : Nat) (this_here_begin : Nat) (this_here_law : Nat) (this_here_persons : Int32) (this_here_mast : Int32) (this_here_weighs : Int32) (this_here_rounds : Int32) (this_here_toldOnce : Int32) (this_townDraft : Nat) (this_told : Nat) (this_yearDraft : Nat) (this_drawn : Int64) (person : Int32) (R0 : Int32) (hm : m_X11_lacksMoreThanFelt this_now_state_lacks_f this_now_state_feels_f this_here_persons person = some R0) : CR l D (TY k) yX11_lacksMoreThanFelt cX11_lacksMoreThanFelt 3 (some .boolean) 3 63 [.ref this, .int person] (wd_X11_lacksMoreThanFelt k this this_tape this_history this_seen this_measured this_marks this_standing this_now this_now_state this_now_state_lacks this_now_state_lacks_f this_now_state_feels this_now_state_feels_f this_now_state_date this_now_next this_now_town this_now_weighs this_now_rounds this_now_flag this_ahead this_here this_here_names this_here_kinds this_here_begin this_here_law this_here_persons this_here_mast this_here_weighs this_here_rounds this_here_toldOnce this_townDraft this_told this_yearDraft this_drawn) (some (.int R0)) := by
  refine CR.mk (by decide) (Nat.le_of_ble_eq_true rfl) ?_
  intro p e s m args below meth c ls ⟨hx, hb, hr, hts, hown, hlocks, hml⟩ hP hG hl
  have hl : lv_has ls 3 [(0, .ref this), (1, .int person)] := hl
  have h_2 : ∀ (n : Nat), ∀ (x2 : Int32) (ls : Array Slot), lv_has ls 3 [(0, .ref this), (1, .int person), (2, .int x2)] → m_X11_lacksMoreThanFelt_2 this_now_state_lacks_f this_now_state_feels_f this_here_persons person n x2 = some R0 → W p l e (Rm 3 63) s m args below meth c s.heap [] 0 0 (MQ below (QR (some (.int R0))) args s 0 0 (fun _ => False)) (F0 m 2 ls []) := by
    intro n
    induction n with
    | zero => intro x2 ls hl hm; cases hm
    | succ n ih =>
      intro x2 ls hl hm
      unfold m_X11_lacksMoreThanFelt_2 at hm
      refine lv_iload_n (pc := 2) hx hb dX11_lacksMoreThanFelt_2 rfl (lv_at hl 2 rfl) ?_
      refine lv_aload_n (pc := 3) hx hb dX11_lacksMoreThanFelt_3 rfl (lv_at hl 0 rfl) ?_
      refine va_get (pc := 4) (D := D) (ci := 9) (C := RX11) (T := TX11) (N := 13) hx hb hts hiX11 hown hG.1 hP 0 rfl rfl 8 (Nat.le_of_ble_eq_true rfl) (hts _ kw_352) (fun _ h9 => h9) rfl dX11_lacksMoreThanFelt_4 ?_
      refine va_getN (pc := 7) (D := D) (ci := 7) (C := RX8) (T := TX8) (N := 9) hx hb hts hiX8 hown hG.1 hP 5 rfl rfl 4 (Nat.le_of_ble_eq_true rfl) (va_Nw.use rfl (hG.2 _ kn_204)) (fun _ h9 => h9) rfl dX11_lacksMoreThanFelt_7 ?_
      refine lv_icmp_ge (tgt := 55) (pc := 10) hx hb dX11_lacksMoreThanFelt_10 (by decide) (fun hc => ?_) (fun hc => ?_)
      · rw [if_pos hc] at hm
        refine lv_aload_n (pc := 55) hx hb dX11_lacksMoreThanFelt_55 rfl (lv_at hl 0 rfl) ?_
        refine va_get (pc := 56) (D := D) (ci := 9) (C := RX11) (T := TX11) (N := 13) hx hb hts hiX11 hown hG.1 hP 0 rfl rfl 6 (Nat.le_of_ble_eq_true rfl) (hts _ kw_350) (fun _ h9 => h9) rfl dX11_lacksMoreThanFelt_56 ?_
        refine va_getN (pc := 59) (D := D) (ci := 0) (C := RX1) (T := TX1) (N := 6) hx hb hts hiX1 hown hG.1 hP 1 rfl rfl 0 (Nat.le_of_ble_eq_true rfl) (va_Nw.use rfl (hG.2 _ kn_149)) (fun _ h9 => h9) rfl dX11_lacksMoreThanFelt_59 ?_
        refine va_getN (pc := 62) (D := D) (ci := 5) (C := RX6) (T := TX6) (N := 3) hx hb hts hiX6 hown hG.1 hP 2 rfl rfl 1 (Nat.le_of_ble_eq_true rfl) (va_Nw.use rfl (hG.2 _ kn_98)) (fun _ h9 => h9) rfl dX11_lacksMoreThanFelt_62 ?_
        refine lv_iload_n (pc := 65) hx hb dX11_lacksMoreThanFelt_65 rfl (lv_at hl 1 rfl) ?_
        obtain ⟨r5, hcl, hm⟩ := bd hm
        refine cr_back (run_S (pc := 66) (n := 2) (As := [.ref this_now_state_feels, .int person]) (rest := []) ⟨hx, hb, hml, hown, hts⟩ (c_X11_at l D k this_now_state_feels 6 this_now_state_feels_f person r5 hcl) ⟨kw_329, kw_1, by decide +kernel⟩ kw_744 kw_328 ⟨Nat.le_of_ble_eq_true rfl, Nat.le_of_ble_eq_true rfl⟩ pr_blind (prR (hP.sub [4] rfl) hG) rfl hl.1 rfl (Nat.le_of_ble_eq_true rfl) dX11_lacksMoreThanFelt_66 ⟨Nat.zero_le _, Nat.zero_le _⟩) ?_
        refine lv_if_eq (tgt := 76) (pc := 69) hx hb dX11_lacksMoreThanFelt_69 (by decide) (fun hc => ?_) (fun hc => ?_)
        · rw [if_pos hc] at hm
          refine lv_iconst (v := 0) (pc := 76) hx hb dX11_lacksMoreThanFelt_76 (by decide) ?_
          rw [← Option.some.inj hm]
          exact W.zret hx hb hr (nar_bool (Or.inl rfl)) (fun t ht _ => ⟨rfl, ht⟩) (fun _ h => by cases h) dX11_lacksMoreThanFelt_77 hlocks
        · rw [if_neg hc] at hm
          refine lv_iconst (v := 1) (pc := 72) hx hb dX11_lacksMoreThanFelt_72 (by decide) ?_
          refine lv_goto (tgt := 77) (pc := 73) hx hb dX11_lacksMoreThanFelt_73 (by decide) ?_
          rw [← Option.some.inj hm]
          exact W.zret hx hb hr (nar_bool (Or.inr rfl)) (fun t ht _ => ⟨rfl, ht⟩) (fun _ h => by cases h) dX11_lacksMoreThanFelt_77 hlocks
      · rw [if_neg hc] at hm
        refine lv_aload_n (pc := 13) hx hb dX11_lacksMoreThanFelt_13 rfl (lv_at hl 0 rfl) ?_
        refine va_get (pc := 14) (D := D) (ci := 9) (C := RX11) (T := TX11) (N := 13) hx hb hts hiX11 hown hG.1 hP 0 rfl rfl 6 (Nat.le_of_ble_eq_true rfl) (hts _ kw_350) (fun _ h9 => h9) rfl dX11_lacksMoreThanFelt_14 ?_
        refine va_getN (pc := 17) (D := D) (ci := 0) (C := RX1) (T := TX1) (N := 6) hx hb hts hiX1 hown hG.1 hP 1 rfl rfl 0 (Nat.le_of_ble_eq_true rfl) (va_Nw.use rfl (hG.2 _ kn_149)) (fun _ h9 => h9) rfl dX11_lacksMoreThanFelt_17 ?_
        refine lv_iload_n (pc := 20) hx hb dX11_lacksMoreThanFelt_20 rfl (lv_at hl 1 rfl) ?_
        refine lv_iload_n (pc := 21) hx hb dX11_lacksMoreThanFelt_21 rfl (lv_at hl 2 rfl) ?_
        obtain ⟨r6, hcl, hm⟩ := bd hm
        refine cr_back (run_VN (pc := 22) (n := 2) (As := [.int person, .int x2]) (rest := []) ⟨hx, hb, hml, hown, hts⟩ (c_X6_feels l D k this_now_state this_now_state_lacks this_now_state_lacks_f this_now_state_feels this_now_state_feels_f this_now_state_date person x2 r6 hcl) ⟨kw_600, kw_6, by decide +kernel⟩ hG kn_1034 kw_599 ks_33 ⟨Nat.le_of_ble_eq_true rfl, Nat.le_of_ble_eq_true rfl⟩ pr_blind (prR (hP.sub [2, 3, 4] rfl) hG) (va_recv hG.1 hP (ci := 5) (q0 := 2) rfl rfl) rfl hl.1 rfl (Nat.le_of_ble_eq_true rfl) dX11_lacksMoreThanFelt_22 ⟨Nat.zero_le _, Nat.zero_le _⟩) ?_
        refine lv_if_eq (tgt := 49) (pc := 25) hx hb dX11_lacksMoreThanFelt_25 (by decide) (fun hc => ?_) (fun hc => ?_)
        · rw [if_pos hc] at hm
          refine lv_iinc (k := 2) (v := x2 + 1) (lv' := [(2, .int (x2 + 1)), (0, .ref this), (1, .int person)]) (pc := 49) hx hb dX11_lacksMoreThanFelt_49 hl rfl rfl (Nat.le_of_ble_eq_true rfl) rfl (fun ls hl => ?_)
          refine lv_goto (tgt := 2) (pc := 52) hx hb dX11_lacksMoreThanFelt_52 (by decide) ?_
          exact ih (x2 + 1) ls (lv_sub hl [1, 2, 0] rfl) hm
        · rw [if_neg hc] at hm
          refine lv_aload_n (pc := 28) hx hb dX11_lacksMoreThanFelt_28 rfl (lv_at hl 0 rfl) ?_
          refine va_get (pc := 29) (D := D) (ci := 9) (C := RX11) (T := TX11) (N := 13) hx hb hts hiX11 hown hG.1 hP 0 rfl rfl 6 (Nat.le_of_ble_eq_true rfl) (hts _ kw_350) (fun _ h9 => h9) rfl dX11_lacksMoreThanFelt_29 ?_
          refine lv_iload_n (pc := 32) hx hb dX11_lacksMoreThanFelt_32 rfl (lv_at hl 2 rfl) ?_
          obtain ⟨r7, hcl, hm⟩ := bd hm
          refine cr_back (run_VN (pc := 33) (n := 1) (As := [.int x2]) (rest := []) ⟨hx, hb, hml, hown, hts⟩ (c_X1_lacking l D k this_now this_now_state this_now_state_lacks this_now_state_lacks_f this_now_state_feels this_now_state_date this_now_next this_now_town this_now_weighs this_now_rounds this_now_flag x2 r7 hcl) ⟨kw_748, kw_8, by decide +kernel⟩ hG kn_745 kw_747 ks_54 ⟨Nat.le_of_ble_eq_true rfl, Nat.le_of_ble_eq_true rfl⟩ pr_blind (prR (hP.sub [1, 2, 3] rfl) hG) (va_recv hG.1 hP (ci := 0) (q0 := 1) rfl rfl) rfl hl.1 rfl (Nat.le_of_ble_eq_true rfl) dX11_lacksMoreThanFelt_33 ⟨Nat.zero_le _, Nat.zero_le _⟩) ?_
          refine lv_aload_n (pc := 36) hx hb dX11_lacksMoreThanFelt_36 rfl (lv_at hl 0 rfl) ?_
          refine va_get (pc := 37) (D := D) (ci := 9) (C := RX11) (T := TX11) (N := 13) hx hb hts hiX11 hown hG.1 hP 0 rfl rfl 6 (Nat.le_of_ble_eq_true rfl) (hts _ kw_350) (fun _ h9 => h9) rfl dX11_lacksMoreThanFelt_37 ?_
          refine lv_iload_n (pc := 40) hx hb dX11_lacksMoreThanFelt_40 rfl (lv_at hl 1 rfl) ?_
          obtain ⟨r8, hcl, hm⟩ := bd hm
          refine cr_back (run_VN (pc := 41) (n := 1) (As := [.int person]) (rest := [.int r7]) ⟨hx, hb, hml, hown, hts⟩ (c_X1_lacking l D k this_now this_now_state this_now_state_lacks this_now_state_lacks_f this_now_state_feels this_now_state_date this_now_next this_now_town this_now_weighs this_now_rounds this_now_flag person r8 hcl) ⟨kw_748, kw_8, by decide +kernel⟩ hG kn_745 kw_747 ks_54 ⟨Nat.le_of_ble_eq_true rfl, Nat.le_of_ble_eq_true rfl⟩ pr_blind (prR (hP.sub [1, 2, 3] rfl) hG) (va_recv hG.1 hP (ci := 0) (q0 := 1) rfl rfl) rfl hl.1 rfl (Nat.le_of_ble_eq_true rfl) dX11_lacksMoreThanFelt_41 ⟨Nat.zero_le _, Nat.zero_le _⟩) ?_
          refine lv_icmp_lt (tgt := 49) (pc := 44) hx hb dX11_lacksMoreThanFelt_44 (by decide) (fun hc => ?_) (fun hc => ?_)
          · rw [if_pos hc] at hm
            refine lv_iinc (k := 2) (v := x2 + 1) (lv' := [(2, .int (x2 + 1)), (0, .ref this), (1, .int person)]) (pc := 49) hx hb dX11_lacksMoreThanFelt_49 hl rfl rfl (Nat.le_of_ble_eq_true rfl) rfl (fun ls hl => ?_)
            refine lv_goto (tgt := 2) (pc := 52) hx hb dX11_lacksMoreThanFelt_52 (by decide) ?_
            exact ih (x2 + 1) ls (lv_sub hl [1, 2, 0] rfl) hm
          · rw [if_neg hc] at hm
            refine lv_iconst (v := 0) (pc := 47) hx hb dX11_lacksMoreThanFelt_47 (by decide) ?_
            rw [← Option.some.inj hm]
            exact W.zret hx hb hr (nar_bool (Or.inl rfl)) (fun t ht _ => ⟨rfl, ht⟩) (fun _ h => by cases h) dX11_lacksMoreThanFelt_48 hlocks
  unfold m_X11_lacksMoreThanFelt at hm
  refine lv_iconst (v := 0) (pc := 0) hx hb dX11_lacksMoreThanFelt_0 (by decide) ?_
  refine lv_istore_n (lv' := [(2, .int 0), (0, .ref this), (1, .int person)]) (pc := 1) hx hb dX11_lacksMoreThanFelt_1 rfl hl (Nat.le_of_ble_eq_true rfl) rfl (fun ls hl => ?_)
  exact h_2 FU 0 ls (lv_sub hl [1, 2, 0] rfl) hm
theorem dX11_worse_0 : decode cX11_worse 0 = .ok (.iconst 0, 1) := by decide +kernel
theorem dX11_worse_1 : decode cX11_worse 1 = .ok (.istore_n 1, 1) := by decide +kernel
theorem dX11_worse_2 : decode cX11_worse 2 = .ok (.iconst 0, 1) := by decide +kernel
theorem dX11_worse_3 : decode cX11_worse 3 = .ok (.istore_n 2, 1) := by decide +kernel
theorem dX11_worse_4 : decode cX11_worse 4 = .ok (.iload_n 2, 1) := by decide +kernel
theorem dX11_worse_5 : decode cX11_worse 5 = .ok (.aload_n 0, 1) := by decide +kernel
theorem dX11_worse_6 : decode cX11_worse 6 = .ok (.getfield 56, 3) := by decide +kernel
theorem dX11_worse_9 : decode cX11_worse 9 = .ok (.getfield 197, 3) := by decide +kernel
theorem dX11_worse_12 : decode cX11_worse 12 = .ok (.if_icmp .ge 28, 3) := by decide +kernel
theorem dX11_worse_15 : decode cX11_worse 15 = .ok (.iload_n 1, 1) := by decide +kernel
theorem dX11_worse_16 : decode cX11_worse 16 = .ok (.aload_n 0, 1) := by decide +kernel
theorem dX11_worse_17 : decode cX11_worse 17 = .ok (.iload_n 2, 1) := by decide +kernel
theorem dX11_worse_18 : decode cX11_worse 18 = .ok (.invokevirtual 275, 3) := by decide +kernel
theorem dX11_worse_21 : decode cX11_worse 21 = .ok (.ifCond .eq 10, 3) := by decide +kernel
theorem dX11_worse_24 : decode cX11_worse 24 = .ok (.iload_n 2, 1) := by decide +kernel
theorem dX11_worse_25 : decode cX11_worse 25 = .ok (.invokestatic 225, 3) := by decide +kernel
theorem dX11_worse_28 : decode cX11_worse 28 = .ok (.goto 4, 3) := by decide +kernel
theorem dX11_worse_31 : decode cX11_worse 31 = .ok (.iconst 0, 1) := by decide +kernel
theorem dX11_worse_32 : decode cX11_worse 32 = .ok (.ior, 1) := by decide +kernel
theorem dX11_worse_33 : decode cX11_worse 33 = .ok (.istore_n 1, 1) := by decide +kernel
theorem dX11_worse_34 : decode cX11_worse 34 = .ok (.iinc 2 1, 3) := by decide +kernel
theorem dX11_worse_37 : decode cX11_worse 37 = .ok (.goto (-33), 3) := by decide +kernel
theorem dX11_worse_40 : decode cX11_worse 40 = .ok (.iload_n 1, 1) := by decide +kernel
theorem dX11_worse_41 : decode cX11_worse 41 = .ok (.ireturn, 1) := by decide +kernel
abbrev wd_X11_worse (k : Nat → ClassId) (this : Nat) (this_tape : Nat) (this_history : Nat) (this_seen : Nat) (this_measured : Nat) (this_marks : Nat) (this_standing : Nat) (this_now : Nat) (this_now_state : Nat) (this_now_state_lacks : Nat) (this_now_state_lacks_f : Nat → Int32) (this_now_state_feels : Nat) (this_now_state_feels_f : Nat → Int32) (this_now_state_date : Int32) (this_now_next : Nat) (this_now_town : Nat) (this_now_weighs : Int32) (this_now_rounds : Int32) (this_now_flag : Int32) (this_ahead : Nat) (this_here : Nat) (this_here_names : Nat) (this_here_kinds : Nat) (this_here_begin : Nat) (this_here_law : Nat) (this_here_persons : Int32) (this_here_mast : Int32) (this_here_weighs : Int32) (this_here_rounds : Int32) (this_here_toldOnce : Int32) (this_townDraft : Nat) (this_told : Nat) (this_yearDraft : Nat) (this_drawn : Int64) : va_W := [(this, .inr (9, [.ref this_tape, .ref this_history, .ref this_seen, .ref this_measured, .ref this_marks, .ref this_standing, .ref this_now, .ref this_ahead, .ref this_here, .ref this_townDraft, .ref this_told, .ref this_yearDraft, .long this_drawn])), (this_now, .inr (0, [.ref this_now_state, .ref this_now_next, .ref this_now_town, .int this_now_weighs, .int this_now_rounds, .int this_now_flag])), (this_now_state, .inr (5, [.ref this_now_state_lacks, .ref this_now_state_feels, .int this_now_state_date])), (this_now_state_lacks, .inl (k 0, 6, .inl this_now_state_lacks_f)), (this_now_state_feels, .inl (k 0, 6, .inl this_now_state_feels_f)), (this_here, .inr (7, [.ref this_here_names, .ref this_here_kinds, .ref this_here_begin, .ref this_here_law, .int this_here_persons, .int this_here_mast, .int this_here_weighs, .int this_here_rounds, .int this_here_toldOnce]))]
set_option maxHeartbeats 4000000 in
set_option maxRecDepth 100000 in
theorem c_X11_worse (l : Launch) (D : va_G) (k : Nat → ClassId) (this : Nat) (this_tape : Nat) (this_history : Nat) (this_seen : Nat) (this_measured : Nat) (this_marks : Nat) (this_standing : Nat) (this_now : Nat) (this_now_state : Nat) (this_now_state_lacks : Nat) (this_now_state_lacks_f : Nat → Int32) (this_now_state_feels : Nat) (this_now_state_feels_f : Nat → Int32) (this_now_state_date : Int32) (this_now_next : Nat) (this_now_town : Nat) (this_now_weighs : Int32) (this_now_rounds : Int32) (this_now_flag : Int32) (this_ahead : Nat) (this_here : Nat) (this_here_names : Nat) (this_here_kinds : Nat) (this_here_begin : Nat) (this_here_law : Nat) (this_here_persons : Int32) (this_here_mast : Int32) (this_here_weighs : Int32) (this_here_rounds : Int32) (this_here_toldOnce : Int32) (this_townDraft : Nat) (this_told : Nat) (this_yearDraft : Nat) (this_drawn : Int64) (R0 : Int32) (hm : m_X11_worse this_now_state_lacks_f this_now_state_feels_f this_here_persons = some R0) : CR l D (TY k) yX11_worse cX11_worse 3 (some .int) 4 85 [.ref this] (wd_X11_worse k this this_tape this_history this_seen this_measured this_marks this_standing this_now this_now_state this_now_state_lacks this_now_state_lacks_f this_now_state_feels this_now_state_feels_f this_now_state_date this_now_next this_now_town this_now_weighs this_now_rounds this_now_flag this_ahead this_here this_here_names this_here_kinds this_here_begin this_here_law this_here_persons this_here_mast this_here_weighs this_here_rounds this_here_toldOnce this_townDraft this_told this_yearDraft this_drawn) (some (.int R0)) := by
  refine CR.mk (by decide) (Nat.le_of_ble_eq_true rfl) ?_
  intro p e s m args below meth c ls ⟨hx, hb, hr, hts, hown, hlocks, hml⟩ hP hG hl
  have hl : lv_has ls 3 [(0, .ref this)] := hl
  have h_4 : ∀ (n : Nat), ∀ (x1 : Int32) (x2 : Int32) (ls : Array Slot), lv_has ls 3 [(0, .ref this), (1, .int x1), (2, .int x2)] → m_X11_worse_4 this_now_state_lacks_f this_now_state_feels_f this_here_persons n x1 x2 = some R0 → W p l e (Rm 4 85) s m args below meth c s.heap [] 0 0 (MQ below (QR (some (.int R0))) args s 0 0 (fun _ => False)) (F0 m 4 ls []) := by
    intro n
    induction n with
    | zero => intro x1 x2 ls hl hm; cases hm
    | succ n ih =>
      intro x1 x2 ls hl hm
      unfold m_X11_worse_4 at hm
      refine lv_iload_n (pc := 4) hx hb dX11_worse_4 rfl (lv_at hl 2 rfl) ?_
      refine lv_aload_n (pc := 5) hx hb dX11_worse_5 rfl (lv_at hl 0 rfl) ?_
      refine va_get (pc := 6) (D := D) (ci := 9) (C := RX11) (T := TX11) (N := 13) hx hb hts hiX11 hown hG.1 hP 0 rfl rfl 8 (Nat.le_of_ble_eq_true rfl) (hts _ kw_352) (fun _ h9 => h9) rfl dX11_worse_6 ?_
      refine va_getN (pc := 9) (D := D) (ci := 7) (C := RX8) (T := TX8) (N := 9) hx hb hts hiX8 hown hG.1 hP 5 rfl rfl 4 (Nat.le_of_ble_eq_true rfl) (va_Nw.use rfl (hG.2 _ kn_204)) (fun _ h9 => h9) rfl dX11_worse_9 ?_
      refine lv_icmp_ge (tgt := 40) (pc := 12) hx hb dX11_worse_12 (by decide) (fun hc => ?_) (fun hc => ?_)
      · rw [if_pos hc] at hm
        refine lv_iload_n (pc := 40) hx hb dX11_worse_40 rfl (lv_at hl 1 rfl) ?_
        rw [← Option.some.inj hm]
        exact W.iret hx hb hr (fun t ht _ => ⟨rfl, ht⟩) (fun _ h => by cases h) dX11_worse_41 hlocks
      · rw [if_neg hc] at hm
        refine lv_iload_n (pc := 15) hx hb dX11_worse_15 rfl (lv_at hl 1 rfl) ?_
        refine lv_aload_n (pc := 16) hx hb dX11_worse_16 rfl (lv_at hl 0 rfl) ?_
        refine lv_iload_n (pc := 17) hx hb dX11_worse_17 rfl (lv_at hl 2 rfl) ?_
        obtain ⟨r3, hcl, hm⟩ := bd hm
        refine cr_back (run_V (pc := 18) (n := 1) (As := [.int x2]) (rest := [.int x1]) ⟨hx, hb, hml, hown, hts⟩ (c_X11_lacksMoreThanFelt l D k this this_tape this_history this_seen this_measured this_marks this_standing this_now this_now_state this_now_state_lacks this_now_state_lacks_f this_now_state_feels this_now_state_feels_f this_now_state_date this_now_next this_now_town this_now_weighs this_now_rounds this_now_flag this_ahead this_here this_here_names this_here_kinds this_here_begin this_here_law this_here_persons this_here_mast this_here_weighs this_here_rounds this_here_toldOnce this_townDraft this_told this_yearDraft this_drawn x2 r3 hcl) ⟨kw_1046, kw_1, by decide +kernel⟩ kw_1043 kw_1045 ks_82 ⟨Nat.le_of_ble_eq_true rfl, Nat.le_of_ble_eq_true rfl⟩ pr_blind (prR (hP.sub [0, 1, 2, 3, 4, 5] rfl) hG) (va_recv hG.1 hP (ci := 9) (q0 := 0) rfl rfl) rfl hl.1 rfl (Nat.le_of_ble_eq_true rfl) dX11_worse_18 ⟨Nat.zero_le _, Nat.zero_le _⟩) ?_
        refine lv_if_eq (tgt := 31) (pc := 21) hx hb dX11_worse_21 (by decide) (fun hc => ?_) (fun hc => ?_)
        · rw [if_pos hc] at hm
          refine lv_iconst (v := 0) (pc := 31) hx hb dX11_worse_31 (by decide) ?_
          refine lv_ior (pc := 32) hx hb dX11_worse_32 ?_
          refine lv_istore_n (lv' := [(1, .int (x1 ||| 0)), (0, .ref this), (2, .int x2)]) (pc := 33) hx hb dX11_worse_33 rfl hl (Nat.le_of_ble_eq_true rfl) rfl (fun ls hl => ?_)
          refine lv_iinc (k := 2) (v := x2 + 1) (lv' := [(2, .int (x2 + 1)), (1, .int (x1 ||| 0)), (0, .ref this)]) (pc := 34) hx hb dX11_worse_34 hl rfl rfl (Nat.le_of_ble_eq_true rfl) rfl (fun ls hl => ?_)
          refine lv_goto (tgt := 4) (pc := 37) hx hb dX11_worse_37 (by decide) ?_
          exact ih (x1 ||| 0) (x2 + 1) ls (lv_sub hl [2, 1, 0] rfl) hm
        · rw [if_neg hc] at hm
          refine lv_iload_n (pc := 24) hx hb dX11_worse_24 rfl (lv_at hl 2 rfl) ?_
          obtain ⟨r4, hcl, hm⟩ := bd hm
          refine cr_back (run_S (pc := 25) (n := 1) (As := [.int x2]) (rest := [.int x1]) ⟨hx, hb, hml, hown, hts⟩ (c_X11_bit l D k x2 r4 hcl) ⟨kw_607, kw_1, by decide +kernel⟩ kw_605 kw_606 ⟨Nat.le_of_ble_eq_true rfl, Nat.le_of_ble_eq_true rfl⟩ pr_blind (prR (hP.sub [] rfl) hG) rfl hl.1 rfl (Nat.le_of_ble_eq_true rfl) dX11_worse_25 ⟨Nat.zero_le _, Nat.zero_le _⟩) ?_
          refine lv_goto (tgt := 32) (pc := 28) hx hb dX11_worse_28 (by decide) ?_
          refine lv_ior (pc := 32) hx hb dX11_worse_32 ?_
          refine lv_istore_n (lv' := [(1, .int (x1 ||| r4)), (0, .ref this), (2, .int x2)]) (pc := 33) hx hb dX11_worse_33 rfl hl (Nat.le_of_ble_eq_true rfl) rfl (fun ls hl => ?_)
          refine lv_iinc (k := 2) (v := x2 + 1) (lv' := [(2, .int (x2 + 1)), (1, .int (x1 ||| r4)), (0, .ref this)]) (pc := 34) hx hb dX11_worse_34 hl rfl rfl (Nat.le_of_ble_eq_true rfl) rfl (fun ls hl => ?_)
          refine lv_goto (tgt := 4) (pc := 37) hx hb dX11_worse_37 (by decide) ?_
          exact ih (x1 ||| r4) (x2 + 1) ls (lv_sub hl [2, 1, 0] rfl) hm
  unfold m_X11_worse at hm
  refine lv_iconst (v := 0) (pc := 0) hx hb dX11_worse_0 (by decide) ?_
  refine lv_istore_n (lv' := [(1, .int 0), (0, .ref this)]) (pc := 1) hx hb dX11_worse_1 rfl hl (Nat.le_of_ble_eq_true rfl) rfl (fun ls hl => ?_)
  refine lv_iconst (v := 0) (pc := 2) hx hb dX11_worse_2 (by decide) ?_
  refine lv_istore_n (lv' := [(2, .int 0), (1, .int 0), (0, .ref this)]) (pc := 3) hx hb dX11_worse_3 rfl hl (Nat.le_of_ble_eq_true rfl) rfl (fun ls hl => ?_)
  exact h_4 FU 0 0 ls (lv_sub hl [2, 1, 0] rfl) hm
theorem dX11_lackedByAll_0 : decode cX11_lackedByAll 0 = .ok (.iconst 0, 1) := by decide +kernel
theorem dX11_lackedByAll_1 : decode cX11_lackedByAll 1 = .ok (.istore_n 2, 1) := by decide +kernel
theorem dX11_lackedByAll_2 : decode cX11_lackedByAll 2 = .ok (.iconst 0, 1) := by decide +kernel
theorem dX11_lackedByAll_3 : decode cX11_lackedByAll 3 = .ok (.istore_n 3, 1) := by decide +kernel
theorem dX11_lackedByAll_4 : decode cX11_lackedByAll 4 = .ok (.iload_n 3, 1) := by decide +kernel
theorem dX11_lackedByAll_5 : decode cX11_lackedByAll 5 = .ok (.aload_n 0, 1) := by decide +kernel
theorem dX11_lackedByAll_6 : decode cX11_lackedByAll 6 = .ok (.getfield 56, 3) := by decide +kernel
theorem dX11_lackedByAll_9 : decode cX11_lackedByAll 9 = .ok (.getfield 197, 3) := by decide +kernel
theorem dX11_lackedByAll_12 : decode cX11_lackedByAll 12 = .ok (.if_icmp .ge 17, 3) := by decide +kernel
theorem dX11_lackedByAll_15 : decode cX11_lackedByAll 15 = .ok (.iload_n 2, 1) := by decide +kernel
theorem dX11_lackedByAll_16 : decode cX11_lackedByAll 16 = .ok (.aload_n 1, 1) := by decide +kernel
theorem dX11_lackedByAll_17 : decode cX11_lackedByAll 17 = .ok (.iload_n 3, 1) := by decide +kernel
theorem dX11_lackedByAll_18 : decode cX11_lackedByAll 18 = .ok (.invokevirtual 128, 3) := by decide +kernel
theorem dX11_lackedByAll_21 : decode cX11_lackedByAll 21 = .ok (.iadd, 1) := by decide +kernel
theorem dX11_lackedByAll_22 : decode cX11_lackedByAll 22 = .ok (.istore_n 2, 1) := by decide +kernel
theorem dX11_lackedByAll_23 : decode cX11_lackedByAll 23 = .ok (.iinc 3 1, 3) := by decide +kernel
theorem dX11_lackedByAll_26 : decode cX11_lackedByAll 26 = .ok (.goto (-22), 3) := by decide +kernel
theorem dX11_lackedByAll_29 : decode cX11_lackedByAll 29 = .ok (.iload_n 2, 1) := by decide +kernel
theorem dX11_lackedByAll_30 : decode cX11_lackedByAll 30 = .ok (.ireturn, 1) := by decide +kernel
abbrev wd_X11_lackedByAll (k : Nat → ClassId) (this : Nat) (this_tape : Nat) (this_history : Nat) (this_seen : Nat) (this_measured : Nat) (this_marks : Nat) (this_standing : Nat) (this_now : Nat) (this_ahead : Nat) (this_here : Nat) (this_here_names : Nat) (this_here_kinds : Nat) (this_here_begin : Nat) (this_here_law : Nat) (this_here_persons : Int32) (this_here_mast : Int32) (this_here_weighs : Int32) (this_here_rounds : Int32) (this_here_toldOnce : Int32) (this_townDraft : Nat) (this_told : Nat) (this_yearDraft : Nat) (this_drawn : Int64) (course : Nat) (course_state : Nat) (course_state_lacks : Nat) (course_state_lacks_f : Nat → Int32) (course_state_feels : Nat) (course_state_date : Int32) (course_next : Nat) (course_town : Nat) (course_weighs : Int32) (course_rounds : Int32) (course_flag : Int32) : va_W := [(this, .inr (9, [.ref this_tape, .ref this_history, .ref this_seen, .ref this_measured, .ref this_marks, .ref this_standing, .ref this_now, .ref this_ahead, .ref this_here, .ref this_townDraft, .ref this_told, .ref this_yearDraft, .long this_drawn])), (this_here, .inr (7, [.ref this_here_names, .ref this_here_kinds, .ref this_here_begin, .ref this_here_law, .int this_here_persons, .int this_here_mast, .int this_here_weighs, .int this_here_rounds, .int this_here_toldOnce])), (course, .inr (0, [.ref course_state, .ref course_next, .ref course_town, .int course_weighs, .int course_rounds, .int course_flag])), (course_state, .inr (5, [.ref course_state_lacks, .ref course_state_feels, .int course_state_date])), (course_state_lacks, .inl (k 0, 6, .inl course_state_lacks_f))]
set_option maxHeartbeats 4000000 in
set_option maxRecDepth 100000 in
theorem c_X11_lackedByAll (l : Launch) (D : va_G) (k : Nat → ClassId) (this : Nat) (this_tape : Nat) (this_history : Nat) (this_seen : Nat) (this_measured : Nat) (this_marks : Nat) (this_standing : Nat) (this_now : Nat) (this_ahead : Nat) (this_here : Nat) (this_here_names : Nat) (this_here_kinds : Nat) (this_here_begin : Nat) (this_here_law : Nat) (this_here_persons : Int32) (this_here_mast : Int32) (this_here_weighs : Int32) (this_here_rounds : Int32) (this_here_toldOnce : Int32) (this_townDraft : Nat) (this_told : Nat) (this_yearDraft : Nat) (this_drawn : Int64) (course : Nat) (course_state : Nat) (course_state_lacks : Nat) (course_state_lacks_f : Nat → Int32) (course_state_feels : Nat) (course_state_date : Int32) (course_next : Nat) (course_town : Nat) (course_weighs : Int32) (course_rounds : Int32) (course_flag : Int32) (R0 : Int32) (hm : m_X11_lackedByAll this_here_persons course_state_lacks_f = some R0) : CR l D (TY k) yX11_lackedByAll cX11_lackedByAll 4 (some .int) 2 42 [.ref this, .ref course] (wd_X11_lackedByAll k this this_tape this_history this_seen this_measured this_marks this_standing this_now this_ahead this_here this_here_names this_here_kinds this_here_begin this_here_law this_here_persons this_here_mast this_here_weighs this_here_rounds this_here_toldOnce this_townDraft this_told this_yearDraft this_drawn course course_state course_state_lacks course_state_lacks_f course_state_feels course_state_date course_next course_town course_weighs course_rounds course_flag) (some (.int R0)) := by
  refine CR.mk (by decide) (Nat.le_of_ble_eq_true rfl) ?_
  intro p e s m args below meth c ls ⟨hx, hb, hr, hts, hown, hlocks, hml⟩ hP hG hl
  have hl : lv_has ls 4 [(0, .ref this), (1, .ref course)] := hl
  have h_4 : ∀ (n : Nat), ∀ (x2 : Int32) (x3 : Int32) (ls : Array Slot), lv_has ls 4 [(0, .ref this), (1, .ref course), (2, .int x2), (3, .int x3)] → m_X11_lackedByAll_4 this_here_persons course_state_lacks_f n x2 x3 = some R0 → W p l e (Rm 2 42) s m args below meth c s.heap [] 0 0 (MQ below (QR (some (.int R0))) args s 0 0 (fun _ => False)) (F0 m 4 ls []) := by
    intro n
    induction n with
    | zero => intro x2 x3 ls hl hm; cases hm
    | succ n ih =>
      intro x2 x3 ls hl hm
      unfold m_X11_lackedByAll_4 at hm
      refine lv_iload_n (pc := 4) hx hb dX11_lackedByAll_4 rfl (lv_at hl 3 rfl) ?_
      refine lv_aload_n (pc := 5) hx hb dX11_lackedByAll_5 rfl (lv_at hl 0 rfl) ?_
      refine va_get (pc := 6) (D := D) (ci := 9) (C := RX11) (T := TX11) (N := 13) hx hb hts hiX11 hown hG.1 hP 0 rfl rfl 8 (Nat.le_of_ble_eq_true rfl) (hts _ kw_352) (fun _ h9 => h9) rfl dX11_lackedByAll_6 ?_
      refine va_getN (pc := 9) (D := D) (ci := 7) (C := RX8) (T := TX8) (N := 9) hx hb hts hiX8 hown hG.1 hP 1 rfl rfl 4 (Nat.le_of_ble_eq_true rfl) (va_Nw.use rfl (hG.2 _ kn_204)) (fun _ h9 => h9) rfl dX11_lackedByAll_9 ?_
      refine lv_icmp_ge (tgt := 29) (pc := 12) hx hb dX11_lackedByAll_12 (by decide) (fun hc => ?_) (fun hc => ?_)
      · rw [if_pos hc] at hm
        refine lv_iload_n (pc := 29) hx hb dX11_lackedByAll_29 rfl (lv_at hl 2 rfl) ?_
        rw [← Option.some.inj hm]
        exact W.iret hx hb hr (fun t ht _ => ⟨rfl, ht⟩) (fun _ h => by cases h) dX11_lackedByAll_30 hlocks
      · rw [if_neg hc] at hm
        refine lv_iload_n (pc := 15) hx hb dX11_lackedByAll_15 rfl (lv_at hl 2 rfl) ?_
        refine lv_aload_n (pc := 16) hx hb dX11_lackedByAll_16 rfl (lv_at hl 1 rfl) ?_
        refine lv_iload_n (pc := 17) hx hb dX11_lackedByAll_17 rfl (lv_at hl 3 rfl) ?_
        obtain ⟨r2, hcl, hm⟩ := bd hm
        refine cr_back (run_VN (pc := 18) (n := 1) (As := [.int x3]) (rest := [.int x2]) ⟨hx, hb, hml, hown, hts⟩ (c_X1_lacking l D k course course_state course_state_lacks course_state_lacks_f course_state_feels course_state_date course_next course_town course_weighs course_rounds course_flag x3 r2 hcl) ⟨kw_748, kw_8, by decide +kernel⟩ hG kn_745 kw_747 ks_54 ⟨Nat.le_of_ble_eq_true rfl, Nat.le_of_ble_eq_true rfl⟩ pr_blind (prR (hP.sub [2, 3, 4] rfl) hG) (va_recv hG.1 hP (ci := 0) (q0 := 2) rfl rfl) rfl hl.1 rfl (Nat.le_of_ble_eq_true rfl) dX11_lackedByAll_18 ⟨Nat.zero_le _, Nat.zero_le _⟩) ?_
        refine lv_iadd (pc := 21) hx hb dX11_lackedByAll_21 ?_
        refine lv_istore_n (lv' := [(2, .int (x2 + r2)), (0, .ref this), (1, .ref course), (3, .int x3)]) (pc := 22) hx hb dX11_lackedByAll_22 rfl hl (Nat.le_of_ble_eq_true rfl) rfl (fun ls hl => ?_)
        refine lv_iinc (k := 3) (v := x3 + 1) (lv' := [(3, .int (x3 + 1)), (2, .int (x2 + r2)), (0, .ref this), (1, .ref course)]) (pc := 23) hx hb dX11_lackedByAll_23 hl rfl rfl (Nat.le_of_ble_eq_true rfl) rfl (fun ls hl => ?_)
        refine lv_goto (tgt := 4) (pc := 26) hx hb dX11_lackedByAll_26 (by decide) ?_
        exact ih (x2 + r2) (x3 + 1) ls (lv_sub hl [2, 3, 1, 0] rfl) hm
  unfold m_X11_lackedByAll at hm
  refine lv_iconst (v := 0) (pc := 0) hx hb dX11_lackedByAll_0 (by decide) ?_
  refine lv_istore_n (lv' := [(2, .int 0), (0, .ref this), (1, .ref course)]) (pc := 1) hx hb dX11_lackedByAll_1 rfl hl (Nat.le_of_ble_eq_true rfl) rfl (fun ls hl => ?_)
  refine lv_iconst (v := 0) (pc := 2) hx hb dX11_lackedByAll_2 (by decide) ?_
  refine lv_istore_n (lv' := [(3, .int 0), (2, .int 0), (0, .ref this), (1, .ref course)]) (pc := 3) hx hb dX11_lackedByAll_3 rfl hl (Nat.le_of_ble_eq_true rfl) rfl (fun ls hl => ?_)
  exact h_4 FU 0 0 ls (lv_sub hl [2, 3, 1, 0] rfl) hm
theorem dX11_mean_0 : decode cX11_mean 0 = .ok (.aload_n 0, 1) := by decide +kernel
theorem dX11_mean_1 : decode cX11_mean 1 = .ok (.getfield 56, 3) := by decide +kernel
theorem dX11_mean_4 : decode cX11_mean 4 = .ok (.getfield 197, 3) := by decide +kernel
theorem dX11_mean_7 : decode cX11_mean 7 = .ok (.ifCond .le 22, 3) := by decide +kernel
theorem dX11_mean_10 : decode cX11_mean 10 = .ok (.aload_n 0, 1) := by decide +kernel
theorem dX11_mean_11 : decode cX11_mean 11 = .ok (.aload_n 0, 1) := by decide +kernel
theorem dX11_mean_12 : decode cX11_mean 12 = .ok (.getfield 46, 3) := by decide +kernel
theorem dX11_mean_15 : decode cX11_mean 15 = .ok (.invokevirtual 278, 3) := by decide +kernel
theorem dX11_mean_18 : decode cX11_mean 18 = .ok (.aload_n 0, 1) := by decide +kernel
theorem dX11_mean_19 : decode cX11_mean 19 = .ok (.getfield 56, 3) := by decide +kernel
theorem dX11_mean_22 : decode cX11_mean 22 = .ok (.getfield 197, 3) := by decide +kernel
theorem dX11_mean_25 : decode cX11_mean 25 = .ok (.idiv, 1) := by decide +kernel
theorem dX11_mean_26 : decode cX11_mean 26 = .ok (.goto 4, 3) := by decide +kernel
theorem dX11_mean_29 : decode cX11_mean 29 = .ok (.iconst 0, 1) := by decide +kernel
theorem dX11_mean_30 : decode cX11_mean 30 = .ok (.ireturn, 1) := by decide +kernel
abbrev wd_X11_mean (k : Nat → ClassId) (this : Nat) (this_tape : Nat) (this_history : Nat) (this_seen : Nat) (this_measured : Nat) (this_marks : Nat) (this_standing : Nat) (this_now : Nat) (this_now_state : Nat) (this_now_state_lacks : Nat) (this_now_state_lacks_f : Nat → Int32) (this_now_state_feels : Nat) (this_now_state_feels_f : Nat → Int32) (this_now_state_date : Int32) (this_now_next : Nat) (this_now_town : Nat) (this_now_weighs : Int32) (this_now_rounds : Int32) (this_now_flag : Int32) (this_ahead : Nat) (this_here : Nat) (this_here_names : Nat) (this_here_kinds : Nat) (this_here_begin : Nat) (this_here_law : Nat) (this_here_persons : Int32) (this_here_mast : Int32) (this_here_weighs : Int32) (this_here_rounds : Int32) (this_here_toldOnce : Int32) (this_townDraft : Nat) (this_told : Nat) (this_yearDraft : Nat) (this_drawn : Int64) : va_W := [(this, .inr (9, [.ref this_tape, .ref this_history, .ref this_seen, .ref this_measured, .ref this_marks, .ref this_standing, .ref this_now, .ref this_ahead, .ref this_here, .ref this_townDraft, .ref this_told, .ref this_yearDraft, .long this_drawn])), (this_now, .inr (0, [.ref this_now_state, .ref this_now_next, .ref this_now_town, .int this_now_weighs, .int this_now_rounds, .int this_now_flag])), (this_now_state, .inr (5, [.ref this_now_state_lacks, .ref this_now_state_feels, .int this_now_state_date])), (this_now_state_lacks, .inl (k 0, 6, .inl this_now_state_lacks_f)), (this_now_state_feels, .inl (k 0, 6, .inl this_now_state_feels_f)), (this_here, .inr (7, [.ref this_here_names, .ref this_here_kinds, .ref this_here_begin, .ref this_here_law, .int this_here_persons, .int this_here_mast, .int this_here_weighs, .int this_here_rounds, .int this_here_toldOnce]))]
set_option maxHeartbeats 4000000 in
set_option maxRecDepth 100000 in
theorem c_X11_mean (l : Launch) (D : va_G) (k : Nat → ClassId) (this : Nat) (this_tape : Nat) (this_history : Nat) (this_seen : Nat) (this_measured : Nat) (this_marks : Nat) (this_standing : Nat) (this_now : Nat) (this_now_state : Nat) (this_now_state_lacks : Nat) (this_now_state_lacks_f : Nat → Int32) (this_now_state_feels : Nat) (this_now_state_feels_f : Nat → Int32) (this_now_state_date : Int32) (this_now_next : Nat) (this_now_town : Nat) (this_now_weighs : Int32) (this_now_rounds : Int32) (this_now_flag : Int32) (this_ahead : Nat) (this_here : Nat) (this_here_names : Nat) (this_here_kinds : Nat) (this_here_begin : Nat) (this_here_law : Nat) (this_here_persons : Int32) (this_here_mast : Int32) (this_here_weighs : Int32) (this_here_rounds : Int32) (this_here_toldOnce : Int32) (this_townDraft : Nat) (this_told : Nat) (this_yearDraft : Nat) (this_drawn : Int64) (R0 : Int32) (hm : m_X11_mean this_now_state_lacks_f this_here_persons = some R0) : CR l D (TY k) yX11_mean cX11_mean 1 (some .int) 3 65 [.ref this] (wd_X11_mean k this this_tape this_history this_seen this_measured this_marks this_standing this_now this_now_state this_now_state_lacks this_now_state_lacks_f this_now_state_feels this_now_state_feels_f this_now_state_date this_now_next this_now_town this_now_weighs this_now_rounds this_now_flag this_ahead this_here this_here_names this_here_kinds this_here_begin this_here_law this_here_persons this_here_mast this_here_weighs this_here_rounds this_here_toldOnce this_townDraft this_told this_yearDraft this_drawn) (some (.int R0)) := by
  refine CR.mk (by decide) (Nat.le_of_ble_eq_true rfl) ?_
  intro p e s m args below meth c ls ⟨hx, hb, hr, hts, hown, hlocks, hml⟩ hP hG hl
  have hl : lv_has ls 1 [(0, .ref this)] := hl
  unfold m_X11_mean at hm
  refine lv_aload_n (pc := 0) hx hb dX11_mean_0 rfl (lv_at hl 0 rfl) ?_
  refine va_get (pc := 1) (D := D) (ci := 9) (C := RX11) (T := TX11) (N := 13) hx hb hts hiX11 hown hG.1 hP 0 rfl rfl 8 (Nat.le_of_ble_eq_true rfl) (hts _ kw_352) (fun _ h9 => h9) rfl dX11_mean_1 ?_
  refine va_getN (pc := 4) (D := D) (ci := 7) (C := RX8) (T := TX8) (N := 9) hx hb hts hiX8 hown hG.1 hP 5 rfl rfl 4 (Nat.le_of_ble_eq_true rfl) (va_Nw.use rfl (hG.2 _ kn_204)) (fun _ h9 => h9) rfl dX11_mean_4 ?_
  refine lv_if_le (tgt := 29) (pc := 7) hx hb dX11_mean_7 (by decide) (fun hc => ?_) (fun hc => ?_)
  · rw [if_pos hc] at hm
    refine lv_iconst (v := 0) (pc := 29) hx hb dX11_mean_29 (by decide) ?_
    rw [← Option.some.inj hm]
    exact W.iret hx hb hr (fun t ht _ => ⟨rfl, ht⟩) (fun _ h => by cases h) dX11_mean_30 hlocks
  · rw [if_neg hc] at hm
    refine lv_aload_n (pc := 10) hx hb dX11_mean_10 rfl (lv_at hl 0 rfl) ?_
    refine lv_aload_n (pc := 11) hx hb dX11_mean_11 rfl (lv_at hl 0 rfl) ?_
    refine va_get (pc := 12) (D := D) (ci := 9) (C := RX11) (T := TX11) (N := 13) hx hb hts hiX11 hown hG.1 hP 0 rfl rfl 6 (Nat.le_of_ble_eq_true rfl) (hts _ kw_350) (fun _ h9 => h9) rfl dX11_mean_12 ?_
    obtain ⟨r2, hcl, hm⟩ := bd hm
    refine cr_back (run_V (pc := 15) (n := 1) (As := [.ref this_now]) (rest := []) ⟨hx, hb, hml, hown, hts⟩ (c_X11_lackedByAll l D k this this_tape this_history this_seen this_measured this_marks this_standing this_now this_ahead this_here this_here_names this_here_kinds this_here_begin this_here_law this_here_persons this_here_mast this_here_weighs this_here_rounds this_here_toldOnce this_townDraft this_told this_yearDraft this_drawn this_now this_now_state this_now_state_lacks this_now_state_lacks_f this_now_state_feels this_now_state_date this_now_next this_now_town this_now_weighs this_now_rounds this_now_flag r2 hcl) ⟨kw_1054, kw_1, by decide +kernel⟩ kw_1051 kw_1053 ks_83 ⟨Nat.le_of_ble_eq_true rfl, Nat.le_of_ble_eq_true rfl⟩ pr_blind (prR (hP.sub [0, 5, 1, 2, 3] rfl) hG) (va_recv hG.1 hP (ci := 9) (q0 := 0) rfl rfl) rfl hl.1 rfl (Nat.le_of_ble_eq_true rfl) dX11_mean_15 ⟨Nat.zero_le _, Nat.zero_le _⟩) ?_
    refine lv_aload_n (pc := 18) hx hb dX11_mean_18 rfl (lv_at hl 0 rfl) ?_
    refine va_get (pc := 19) (D := D) (ci := 9) (C := RX11) (T := TX11) (N := 13) hx hb hts hiX11 hown hG.1 hP 0 rfl rfl 8 (Nat.le_of_ble_eq_true rfl) (hts _ kw_352) (fun _ h9 => h9) rfl dX11_mean_19 ?_
    refine va_getN (pc := 22) (D := D) (ci := 7) (C := RX8) (T := TX8) (N := 9) hx hb hts hiX8 hown hG.1 hP 5 rfl rfl 4 (Nat.le_of_ble_eq_true rfl) (va_Nw.use rfl (hG.2 _ kn_204)) (fun _ h9 => h9) rfl dX11_mean_22 ?_
    obtain ⟨hnz, hm⟩ := gd hm
    refine lv_idiv (pc := 25) hx hb dX11_mean_25 hnz ?_
    refine lv_goto (tgt := 30) (pc := 26) hx hb dX11_mean_26 (by decide) ?_
    rw [← Option.some.inj hm]
    exact W.iret hx hb hr (fun t ht _ => ⟨rfl, ht⟩) (fun _ h => by cases h) dX11_mean_30 hlocks
theorem dX11_whoLacks_0 : decode cX11_whoLacks 0 = .ok (.iconst 0, 1) := by decide +kernel
theorem dX11_whoLacks_1 : decode cX11_whoLacks 1 = .ok (.istore_n 1, 1) := by decide +kernel
theorem dX11_whoLacks_2 : decode cX11_whoLacks 2 = .ok (.iconst 0, 1) := by decide +kernel
theorem dX11_whoLacks_3 : decode cX11_whoLacks 3 = .ok (.istore_n 2, 1) := by decide +kernel
theorem dX11_whoLacks_4 : decode cX11_whoLacks 4 = .ok (.iload_n 2, 1) := by decide +kernel
theorem dX11_whoLacks_5 : decode cX11_whoLacks 5 = .ok (.aload_n 0, 1) := by decide +kernel
theorem dX11_whoLacks_6 : decode cX11_whoLacks 6 = .ok (.getfield 56, 3) := by decide +kernel
theorem dX11_whoLacks_9 : decode cX11_whoLacks 9 = .ok (.getfield 197, 3) := by decide +kernel
theorem dX11_whoLacks_12 : decode cX11_whoLacks 12 = .ok (.if_icmp .ge 31, 3) := by decide +kernel
theorem dX11_whoLacks_15 : decode cX11_whoLacks 15 = .ok (.iload_n 1, 1) := by decide +kernel
theorem dX11_whoLacks_16 : decode cX11_whoLacks 16 = .ok (.aload_n 0, 1) := by decide +kernel
theorem dX11_whoLacks_17 : decode cX11_whoLacks 17 = .ok (.getfield 46, 3) := by decide +kernel
theorem dX11_whoLacks_20 : decode cX11_whoLacks 20 = .ok (.iload_n 2, 1) := by decide +kernel
theorem dX11_whoLacks_21 : decode cX11_whoLacks 21 = .ok (.invokevirtual 128, 3) := by decide +kernel
theorem dX11_whoLacks_24 : decode cX11_whoLacks 24 = .ok (.ifCond .le 10, 3) := by decide +kernel
theorem dX11_whoLacks_27 : decode cX11_whoLacks 27 = .ok (.iload_n 2, 1) := by decide +kernel
theorem dX11_whoLacks_28 : decode cX11_whoLacks 28 = .ok (.invokestatic 225, 3) := by decide +kernel
theorem dX11_whoLacks_31 : decode cX11_whoLacks 31 = .ok (.goto 4, 3) := by decide +kernel
theorem dX11_whoLacks_34 : decode cX11_whoLacks 34 = .ok (.iconst 0, 1) := by decide +kernel
theorem dX11_whoLacks_35 : decode cX11_whoLacks 35 = .ok (.ior, 1) := by decide +kernel
theorem dX11_whoLacks_36 : decode cX11_whoLacks 36 = .ok (.istore_n 1, 1) := by decide +kernel
theorem dX11_whoLacks_37 : decode cX11_whoLacks 37 = .ok (.iinc 2 1, 3) := by decide +kernel
theorem dX11_whoLacks_40 : decode cX11_whoLacks 40 = .ok (.goto (-36), 3) := by decide +kernel
theorem dX11_whoLacks_43 : decode cX11_whoLacks 43 = .ok (.iload_n 1, 1) := by decide +kernel
theorem dX11_whoLacks_44 : decode cX11_whoLacks 44 = .ok (.ireturn, 1) := by decide +kernel
abbrev wd_X11_whoLacks (k : Nat → ClassId) (this : Nat) (this_tape : Nat) (this_history : Nat) (this_seen : Nat) (this_measured : Nat) (this_marks : Nat) (this_standing : Nat) (this_now : Nat) (this_now_state : Nat) (this_now_state_lacks : Nat) (this_now_state_lacks_f : Nat → Int32) (this_now_state_feels : Nat) (this_now_state_feels_f : Nat → Int32) (this_now_state_date : Int32) (this_now_next : Nat) (this_now_town : Nat) (this_now_weighs : Int32) (this_now_rounds : Int32) (this_now_flag : Int32) (this_ahead : Nat) (this_here : Nat) (this_here_names : Nat) (this_here_kinds : Nat) (this_here_begin : Nat) (this_here_law : Nat) (this_here_persons : Int32) (this_here_mast : Int32) (this_here_weighs : Int32) (this_here_rounds : Int32) (this_here_toldOnce : Int32) (this_townDraft : Nat) (this_told : Nat) (this_yearDraft : Nat) (this_drawn : Int64) : va_W := [(this, .inr (9, [.ref this_tape, .ref this_history, .ref this_seen, .ref this_measured, .ref this_marks, .ref this_standing, .ref this_now, .ref this_ahead, .ref this_here, .ref this_townDraft, .ref this_told, .ref this_yearDraft, .long this_drawn])), (this_now, .inr (0, [.ref this_now_state, .ref this_now_next, .ref this_now_town, .int this_now_weighs, .int this_now_rounds, .int this_now_flag])), (this_now_state, .inr (5, [.ref this_now_state_lacks, .ref this_now_state_feels, .int this_now_state_date])), (this_now_state_lacks, .inl (k 0, 6, .inl this_now_state_lacks_f)), (this_now_state_feels, .inl (k 0, 6, .inl this_now_state_feels_f)), (this_here, .inr (7, [.ref this_here_names, .ref this_here_kinds, .ref this_here_begin, .ref this_here_law, .int this_here_persons, .int this_here_mast, .int this_here_weighs, .int this_here_rounds, .int this_here_toldOnce]))]
set_option maxHeartbeats 4000000 in
set_option maxRecDepth 100000 in
theorem c_X11_whoLacks (l : Launch) (D : va_G) (k : Nat → ClassId) (this : Nat) (this_tape : Nat) (this_history : Nat) (this_seen : Nat) (this_measured : Nat) (this_marks : Nat) (this_standing : Nat) (this_now : Nat) (this_now_state : Nat) (this_now_state_lacks : Nat) (this_now_state_lacks_f : Nat → Int32) (this_now_state_feels : Nat) (this_now_state_feels_f : Nat → Int32) (this_now_state_date : Int32) (this_now_next : Nat) (this_now_town : Nat) (this_now_weighs : Int32) (this_now_rounds : Int32) (this_now_flag : Int32) (this_ahead : Nat) (this_here : Nat) (this_here_names : Nat) (this_here_kinds : Nat) (this_here_begin : Nat) (this_here_law : Nat) (this_here_persons : Int32) (this_here_mast : Int32) (this_here_weighs : Int32) (this_here_rounds : Int32) (this_here_toldOnce : Int32) (this_townDraft : Nat) (this_told : Nat) (this_yearDraft : Nat) (this_drawn : Int64) (R0 : Int32) (hm : m_X11_whoLacks this_now_state_lacks_f this_here_persons = some R0) : CR l D (TY k) yX11_whoLacks cX11_whoLacks 3 (some .int) 2 42 [.ref this] (wd_X11_whoLacks k this this_tape this_history this_seen this_measured this_marks this_standing this_now this_now_state this_now_state_lacks this_now_state_lacks_f this_now_state_feels this_now_state_feels_f this_now_state_date this_now_next this_now_town this_now_weighs this_now_rounds this_now_flag this_ahead this_here this_here_names this_here_kinds this_here_begin this_here_law this_here_persons this_here_mast this_here_weighs this_here_rounds this_here_toldOnce this_townDraft this_told this_yearDraft this_drawn) (some (.int R0)) := by
  refine CR.mk (by decide) (Nat.le_of_ble_eq_true rfl) ?_
  intro p e s m args below meth c ls ⟨hx, hb, hr, hts, hown, hlocks, hml⟩ hP hG hl
  have hl : lv_has ls 3 [(0, .ref this)] := hl
  have h_4 : ∀ (n : Nat), ∀ (x1 : Int32) (x2 : Int32) (ls : Array Slot), lv_has ls 3 [(0, .ref this), (1, .int x1), (2, .int x2)] → m_X11_whoLacks_4 this_now_state_lacks_f this_here_persons n x1 x2 = some R0 → W p l e (Rm 2 42) s m args below meth c s.heap [] 0 0 (MQ below (QR (some (.int R0))) args s 0 0 (fun _ => False)) (F0 m 4 ls []) := by
    intro n
    induction n with
    | zero => intro x1 x2 ls hl hm; cases hm
    | succ n ih =>
      intro x1 x2 ls hl hm
      unfold m_X11_whoLacks_4 at hm
      refine lv_iload_n (pc := 4) hx hb dX11_whoLacks_4 rfl (lv_at hl 2 rfl) ?_
      refine lv_aload_n (pc := 5) hx hb dX11_whoLacks_5 rfl (lv_at hl 0 rfl) ?_
      refine va_get (pc := 6) (D := D) (ci := 9) (C := RX11) (T := TX11) (N := 13) hx hb hts hiX11 hown hG.1 hP 0 rfl rfl 8 (Nat.le_of_ble_eq_true rfl) (hts _ kw_352) (fun _ h9 => h9) rfl dX11_whoLacks_6 ?_
      refine va_getN (pc := 9) (D := D) (ci := 7) (C := RX8) (T := TX8) (N := 9) hx hb hts hiX8 hown hG.1 hP 5 rfl rfl 4 (Nat.le_of_ble_eq_true rfl) (va_Nw.use rfl (hG.2 _ kn_204)) (fun _ h9 => h9) rfl dX11_whoLacks_9 ?_
      refine lv_icmp_ge (tgt := 43) (pc := 12) hx hb dX11_whoLacks_12 (by decide) (fun hc => ?_) (fun hc => ?_)
      · rw [if_pos hc] at hm
        refine lv_iload_n (pc := 43) hx hb dX11_whoLacks_43 rfl (lv_at hl 1 rfl) ?_
        rw [← Option.some.inj hm]
        exact W.iret hx hb hr (fun t ht _ => ⟨rfl, ht⟩) (fun _ h => by cases h) dX11_whoLacks_44 hlocks
      · rw [if_neg hc] at hm
        refine lv_iload_n (pc := 15) hx hb dX11_whoLacks_15 rfl (lv_at hl 1 rfl) ?_
        refine lv_aload_n (pc := 16) hx hb dX11_whoLacks_16 rfl (lv_at hl 0 rfl) ?_
        refine va_get (pc := 17) (D := D) (ci := 9) (C := RX11) (T := TX11) (N := 13) hx hb hts hiX11 hown hG.1 hP 0 rfl rfl 6 (Nat.le_of_ble_eq_true rfl) (hts _ kw_350) (fun _ h9 => h9) rfl dX11_whoLacks_17 ?_
        refine lv_iload_n (pc := 20) hx hb dX11_whoLacks_20 rfl (lv_at hl 2 rfl) ?_
        obtain ⟨r3, hcl, hm⟩ := bd hm
        refine cr_back (run_VN (pc := 21) (n := 1) (As := [.int x2]) (rest := [.int x1]) ⟨hx, hb, hml, hown, hts⟩ (c_X1_lacking l D k this_now this_now_state this_now_state_lacks this_now_state_lacks_f this_now_state_feels this_now_state_date this_now_next this_now_town this_now_weighs this_now_rounds this_now_flag x2 r3 hcl) ⟨kw_748, kw_8, by decide +kernel⟩ hG kn_745 kw_747 ks_54 ⟨Nat.le_of_ble_eq_true rfl, Nat.le_of_ble_eq_true rfl⟩ pr_blind (prR (hP.sub [1, 2, 3] rfl) hG) (va_recv hG.1 hP (ci := 0) (q0 := 1) rfl rfl) rfl hl.1 rfl (Nat.le_of_ble_eq_true rfl) dX11_whoLacks_21 ⟨Nat.zero_le _, Nat.zero_le _⟩) ?_
        refine lv_if_le (tgt := 34) (pc := 24) hx hb dX11_whoLacks_24 (by decide) (fun hc => ?_) (fun hc => ?_)
        · rw [if_pos hc] at hm
          refine lv_iconst (v := 0) (pc := 34) hx hb dX11_whoLacks_34 (by decide) ?_
          refine lv_ior (pc := 35) hx hb dX11_whoLacks_35 ?_
          refine lv_istore_n (lv' := [(1, .int (x1 ||| 0)), (0, .ref this), (2, .int x2)]) (pc := 36) hx hb dX11_whoLacks_36 rfl hl (Nat.le_of_ble_eq_true rfl) rfl (fun ls hl => ?_)
          refine lv_iinc (k := 2) (v := x2 + 1) (lv' := [(2, .int (x2 + 1)), (1, .int (x1 ||| 0)), (0, .ref this)]) (pc := 37) hx hb dX11_whoLacks_37 hl rfl rfl (Nat.le_of_ble_eq_true rfl) rfl (fun ls hl => ?_)
          refine lv_goto (tgt := 4) (pc := 40) hx hb dX11_whoLacks_40 (by decide) ?_
          exact ih (x1 ||| 0) (x2 + 1) ls (lv_sub hl [2, 1, 0] rfl) hm
        · rw [if_neg hc] at hm
          refine lv_iload_n (pc := 27) hx hb dX11_whoLacks_27 rfl (lv_at hl 2 rfl) ?_
          obtain ⟨r4, hcl, hm⟩ := bd hm
          refine cr_back (run_S (pc := 28) (n := 1) (As := [.int x2]) (rest := [.int x1]) ⟨hx, hb, hml, hown, hts⟩ (c_X11_bit l D k x2 r4 hcl) ⟨kw_607, kw_1, by decide +kernel⟩ kw_605 kw_606 ⟨Nat.le_of_ble_eq_true rfl, Nat.le_of_ble_eq_true rfl⟩ pr_blind (prR (hP.sub [] rfl) hG) rfl hl.1 rfl (Nat.le_of_ble_eq_true rfl) dX11_whoLacks_28 ⟨Nat.zero_le _, Nat.zero_le _⟩) ?_
          refine lv_goto (tgt := 35) (pc := 31) hx hb dX11_whoLacks_31 (by decide) ?_
          refine lv_ior (pc := 35) hx hb dX11_whoLacks_35 ?_
          refine lv_istore_n (lv' := [(1, .int (x1 ||| r4)), (0, .ref this), (2, .int x2)]) (pc := 36) hx hb dX11_whoLacks_36 rfl hl (Nat.le_of_ble_eq_true rfl) rfl (fun ls hl => ?_)
          refine lv_iinc (k := 2) (v := x2 + 1) (lv' := [(2, .int (x2 + 1)), (1, .int (x1 ||| r4)), (0, .ref this)]) (pc := 37) hx hb dX11_whoLacks_37 hl rfl rfl (Nat.le_of_ble_eq_true rfl) rfl (fun ls hl => ?_)
          refine lv_goto (tgt := 4) (pc := 40) hx hb dX11_whoLacks_40 (by decide) ?_
          exact ih (x1 ||| r4) (x2 + 1) ls (lv_sub hl [2, 1, 0] rfl) hm
  unfold m_X11_whoLacks at hm
  refine lv_iconst (v := 0) (pc := 0) hx hb dX11_whoLacks_0 (by decide) ?_
  refine lv_istore_n (lv' := [(1, .int 0), (0, .ref this)]) (pc := 1) hx hb dX11_whoLacks_1 rfl hl (Nat.le_of_ble_eq_true rfl) rfl (fun ls hl => ?_)
  refine lv_iconst (v := 0) (pc := 2) hx hb dX11_whoLacks_2 (by decide) ?_
  refine lv_istore_n (lv' := [(2, .int 0), (1, .int 0), (0, .ref this)]) (pc := 3) hx hb dX11_whoLacks_3 rfl hl (Nat.le_of_ble_eq_true rfl) rfl (fun ls hl => ?_)
  exact h_4 FU 0 0 ls (lv_sub hl [2, 1, 0] rfl) hm
