theorem dX11_likelihood_0 : decode cX11_likelihood 0 = .ok (.ldc_w 288, 3) := by decide +kernel
theorem dX11_likelihood_3 : decode cX11_likelihood 3 = .ok (.istore_n 3, 1) := by decide +kernel
theorem dX11_likelihood_4 : decode cX11_likelihood 4 = .ok (.iconst 0, 1) := by decide +kernel
theorem dX11_likelihood_5 : decode cX11_likelihood 5 = .ok (.istore 4, 2) := by decide +kernel
theorem dX11_likelihood_7 : decode cX11_likelihood 7 = .ok (.iload 4, 2) := by decide +kernel
theorem dX11_likelihood_9 : decode cX11_likelihood 9 = .ok (.iload_n 1, 1) := by decide +kernel
theorem dX11_likelihood_10 : decode cX11_likelihood 10 = .ok (.if_icmp .ge 32, 3) := by decide +kernel
theorem dX11_likelihood_13 : decode cX11_likelihood 13 = .ok (.iload_n 3, 1) := by decide +kernel
theorem dX11_likelihood_14 : decode cX11_likelihood 14 = .ok (.iload_n 0, 1) := by decide +kernel
theorem dX11_likelihood_15 : decode cX11_likelihood 15 = .ok (.iload 4, 2) := by decide +kernel
theorem dX11_likelihood_17 : decode cX11_likelihood 17 = .ok (.invokestatic 208, 3) := by decide +kernel
theorem dX11_likelihood_20 : decode cX11_likelihood 20 = .ok (.ifCond .eq 7, 3) := by decide +kernel
theorem dX11_likelihood_23 : decode cX11_likelihood 23 = .ok (.iload_n 2, 1) := by decide +kernel
theorem dX11_likelihood_24 : decode cX11_likelihood 24 = .ok (.goto 7, 3) := by decide +kernel
theorem dX11_likelihood_27 : decode cX11_likelihood 27 = .ok (.bipush 10, 2) := by decide +kernel
theorem dX11_likelihood_29 : decode cX11_likelihood 29 = .ok (.iload_n 2, 1) := by decide +kernel
theorem dX11_likelihood_30 : decode cX11_likelihood 30 = .ok (.isub, 1) := by decide +kernel
theorem dX11_likelihood_31 : decode cX11_likelihood 31 = .ok (.imul, 1) := by decide +kernel
theorem dX11_likelihood_32 : decode cX11_likelihood 32 = .ok (.bipush 10, 2) := by decide +kernel
theorem dX11_likelihood_34 : decode cX11_likelihood 34 = .ok (.idiv, 1) := by decide +kernel
theorem dX11_likelihood_35 : decode cX11_likelihood 35 = .ok (.istore_n 3, 1) := by decide +kernel
theorem dX11_likelihood_36 : decode cX11_likelihood 36 = .ok (.iinc 4 1, 3) := by decide +kernel
theorem dX11_likelihood_39 : decode cX11_likelihood 39 = .ok (.goto (-32), 3) := by decide +kernel
theorem dX11_likelihood_42 : decode cX11_likelihood 42 = .ok (.iload_n 3, 1) := by decide +kernel
theorem dX11_likelihood_43 : decode cX11_likelihood 43 = .ok (.ireturn, 1) := by decide +kernel
abbrev wd_X11_likelihood (k : Nat → ClassId) : va_W := []
set_option maxHeartbeats 4000000 in
set_option maxRecDepth 100000 in
theorem c_X11_likelihood (l : Launch) (D : va_G) (k : Nat → ClassId) (set : Int32) (days : Int32) (odds : Int32) (R0 : Int32) (hm : m_X11_likelihood set days odds = some R0) : CR l D (TY k) yX11_likelihood cX11_likelihood 5 (some .int) 2 41 [.int set, .int days, .int odds] (wd_X11_likelihood k ) (some (.int R0)) := by
  refine CR.mk (by decide) (Nat.le_of_ble_eq_true rfl) ?_
  intro p e s m args below meth c ls ⟨hx, hb, hr, hts, hown, hlocks, hml⟩ hP hG hl
  have hl : lv_has ls 5 [(0, .int set), (1, .int days), (2, .int odds)] := hl
  have h_7 : ∀ (n : Nat), ∀ (x3 : Int32) (x4 : Int32) (ls : Array Slot), lv_has ls 5 [(0, .int set), (1, .int days), (2, .int odds), (3, .int x3), (4, .int x4)] → m_X11_likelihood_7 set days odds n x3 x4 = some R0 → W p l e (Rm 2 41) s m args below meth c s.heap [] 0 0 (MQ below (QR (some (.int R0))) args s 0 0 (fun _ => False)) (F0 m 7 ls []) := by
    intro n
    induction n with
    | zero => intro x3 x4 ls hl hm; cases hm
    | succ n ih =>
      intro x3 x4 ls hl hm
      unfold m_X11_likelihood_7 at hm
      refine lv_iload (pc := 7) hx hb dX11_likelihood_7 (lv_at hl 4 rfl) ?_
      refine lv_iload_n (pc := 9) hx hb dX11_likelihood_9 rfl (lv_at hl 1 rfl) ?_
      refine lv_icmp_ge (tgt := 42) (pc := 10) hx hb dX11_likelihood_10 (by decide) (fun hc => ?_) (fun hc => ?_)
      · rw [if_pos hc] at hm
        refine lv_iload_n (pc := 42) hx hb dX11_likelihood_42 rfl (lv_at hl 3 rfl) ?_
        rw [← Option.some.inj hm]
        exact W.iret hx hb hr (fun t ht _ => ⟨rfl, ht⟩) (fun _ h => by cases h) dX11_likelihood_43 hlocks
      · rw [if_neg hc] at hm
        refine lv_iload_n (pc := 13) hx hb dX11_likelihood_13 rfl (lv_at hl 3 rfl) ?_
        refine lv_iload_n (pc := 14) hx hb dX11_likelihood_14 rfl (lv_at hl 0 rfl) ?_
        refine lv_iload (pc := 15) hx hb dX11_likelihood_15 (lv_at hl 4 rfl) ?_
        obtain ⟨r2, hcl, hm⟩ := bd hm
        refine cr_back (run_S (pc := 17) (n := 2) (As := [.int set, .int x4]) (rest := [.int x3]) ⟨hx, hb, hml, hown, hts⟩ (c_X11_holds l D k set x4 r2 hcl) ⟨kw_604, kw_1, by decide +kernel⟩ kw_911 kw_603 ⟨Nat.le_of_ble_eq_true rfl, Nat.le_of_ble_eq_true rfl⟩ pr_blind (prR (hP.sub [] rfl) hG) rfl hl.1 rfl (Nat.le_of_ble_eq_true rfl) dX11_likelihood_17 ⟨Nat.zero_le _, Nat.zero_le _⟩) ?_
        refine lv_if_eq (tgt := 27) (pc := 20) hx hb dX11_likelihood_20 (by decide) (fun hc => ?_) (fun hc => ?_)
        · rw [if_pos hc] at hm
          refine lv_bipush (v := 10) (pc := 27) hx hb dX11_likelihood_27 (by decide) ?_
          refine lv_iload_n (pc := 29) hx hb dX11_likelihood_29 rfl (lv_at hl 2 rfl) ?_
          refine lv_isub (pc := 30) hx hb dX11_likelihood_30 ?_
          refine lv_imul (pc := 31) hx hb dX11_likelihood_31 ?_
          refine lv_bipush (v := 10) (pc := 32) hx hb dX11_likelihood_32 (by decide) ?_
          refine lv_idiv (pc := 34) hx hb dX11_likelihood_34 (by decide) ?_
          refine lv_istore_n (lv' := [(3, .int ((x3 * (10 - odds)) / 10)), (0, .int set), (1, .int days), (2, .int odds), (4, .int x4)]) (pc := 35) hx hb dX11_likelihood_35 rfl hl (Nat.le_of_ble_eq_true rfl) rfl (fun ls hl => ?_)
          refine lv_iinc (k := 4) (v := x4 + 1) (lv' := [(4, .int (x4 + 1)), (3, .int ((x3 * (10 - odds)) / 10)), (0, .int set), (1, .int days), (2, .int odds)]) (pc := 36) hx hb dX11_likelihood_36 hl rfl rfl (Nat.le_of_ble_eq_true rfl) rfl (fun ls hl => ?_)
          refine lv_goto (tgt := 7) (pc := 39) hx hb dX11_likelihood_39 (by decide) ?_
          exact ih ((x3 * (10 - odds)) / 10) (x4 + 1) ls (lv_sub hl [2, 3, 4, 1, 0] rfl) hm
        · rw [if_neg hc] at hm
          refine lv_iload_n (pc := 23) hx hb dX11_likelihood_23 rfl (lv_at hl 2 rfl) ?_
          refine lv_goto (tgt := 31) (pc := 24) hx hb dX11_likelihood_24 (by decide) ?_
          refine lv_imul (pc := 31) hx hb dX11_likelihood_31 ?_
          refine lv_bipush (v := 10) (pc := 32) hx hb dX11_likelihood_32 (by decide) ?_
          refine lv_idiv (pc := 34) hx hb dX11_likelihood_34 (by decide) ?_
          refine lv_istore_n (lv' := [(3, .int ((x3 * odds) / 10)), (0, .int set), (1, .int days), (2, .int odds), (4, .int x4)]) (pc := 35) hx hb dX11_likelihood_35 rfl hl (Nat.le_of_ble_eq_true rfl) rfl (fun ls hl => ?_)
          refine lv_iinc (k := 4) (v := x4 + 1) (lv' := [(4, .int (x4 + 1)), (3, .int ((x3 * odds) / 10)), (0, .int set), (1, .int days), (2, .int odds)]) (pc := 36) hx hb dX11_likelihood_36 hl rfl rfl (Nat.le_of_ble_eq_true rfl) rfl (fun ls hl => ?_)
          refine lv_goto (tgt := 7) (pc := 39) hx hb dX11_likelihood_39 (by decide) ?_
          exact ih ((x3 * odds) / 10) (x4 + 1) ls (lv_sub hl [2, 3, 4, 1, 0] rfl) hm
  unfold m_X11_likelihood at hm
  refine lv_ldcw (pc := 0) (own := RX11) hx hb hown (hts _ kw_1062) dX11_likelihood_0 ?_
  refine lv_istore_n (lv' := [(3, .int 1000000), (0, .int set), (1, .int days), (2, .int odds)]) (pc := 3) hx hb dX11_likelihood_3 rfl hl (Nat.le_of_ble_eq_true rfl) rfl (fun ls hl => ?_)
  refine lv_iconst (v := 0) (pc := 4) hx hb dX11_likelihood_4 (by decide) ?_
  refine lv_istore (lv' := [(4, .int 0), (3, .int 1000000), (0, .int set), (1, .int days), (2, .int odds)]) (pc := 5) hx hb dX11_likelihood_5 hl (Nat.le_of_ble_eq_true rfl) rfl (fun ls hl => ?_)
  exact h_7 FU 1000000 0 ls (lv_sub hl [2, 3, 4, 1, 0] rfl) hm
theorem dX11_flagByTeeth_0 : decode cX11_flagByTeeth 0 = .ok (.aload_n 0, 1) := by decide +kernel
theorem dX11_flagByTeeth_1 : decode cX11_flagByTeeth 1 = .ok (.getfield 50, 3) := by decide +kernel
theorem dX11_flagByTeeth_4 : decode cX11_flagByTeeth 4 = .ok (.aload_n 0, 1) := by decide +kernel
theorem dX11_flagByTeeth_5 : decode cX11_flagByTeeth 5 = .ok (.getfield 56, 3) := by decide +kernel
theorem dX11_flagByTeeth_8 : decode cX11_flagByTeeth 8 = .ok (.aload_n 0, 1) := by decide +kernel
theorem dX11_flagByTeeth_9 : decode cX11_flagByTeeth 9 = .ok (.getfield 46, 3) := by decide +kernel
theorem dX11_flagByTeeth_12 : decode cX11_flagByTeeth 12 = .ok (.getfield 136, 3) := by decide +kernel
theorem dX11_flagByTeeth_15 : decode cX11_flagByTeeth 15 = .ok (.invokevirtual 81, 3) := by decide +kernel
theorem dX11_flagByTeeth_18 : decode cX11_flagByTeeth 18 = .ok (.iconst 0, 1) := by decide +kernel
theorem dX11_flagByTeeth_19 : decode cX11_flagByTeeth 19 = .ok (.istore 4, 2) := by decide +kernel
theorem dX11_flagByTeeth_21 : decode cX11_flagByTeeth 21 = .ok (.iload 4, 2) := by decide +kernel
theorem dX11_flagByTeeth_23 : decode cX11_flagByTeeth 23 = .ok (.iload_n 3, 1) := by decide +kernel
theorem dX11_flagByTeeth_24 : decode cX11_flagByTeeth 24 = .ok (.if_icmp .ge 35, 3) := by decide +kernel
theorem dX11_flagByTeeth_27 : decode cX11_flagByTeeth 27 = .ok (.iload_n 2, 1) := by decide +kernel
theorem dX11_flagByTeeth_28 : decode cX11_flagByTeeth 28 = .ok (.iload 4, 2) := by decide +kernel
theorem dX11_flagByTeeth_30 : decode cX11_flagByTeeth 30 = .ok (.invokestatic 208, 3) := by decide +kernel
theorem dX11_flagByTeeth_33 : decode cX11_flagByTeeth 33 = .ok (.ifCond .eq 12, 3) := by decide +kernel
theorem dX11_flagByTeeth_36 : decode cX11_flagByTeeth 36 = .ok (.aload_n 0, 1) := by decide +kernel
theorem dX11_flagByTeeth_37 : decode cX11_flagByTeeth 37 = .ok (.getfield 50, 3) := by decide +kernel
theorem dX11_flagByTeeth_40 : decode cX11_flagByTeeth 40 = .ok (.iload_n 1, 1) := by decide +kernel
theorem dX11_flagByTeeth_41 : decode cX11_flagByTeeth 41 = .ok (.iconst 3, 1) := by decide +kernel
theorem dX11_flagByTeeth_42 : decode cX11_flagByTeeth 42 = .ok (.invokevirtual 156, 3) := by decide +kernel
theorem dX11_flagByTeeth_45 : decode cX11_flagByTeeth 45 = .ok (.aload_n 0, 1) := by decide +kernel
theorem dX11_flagByTeeth_46 : decode cX11_flagByTeeth 46 = .ok (.getfield 50, 3) := by decide +kernel
theorem dX11_flagByTeeth_49 : decode cX11_flagByTeeth 49 = .ok (.invokevirtual 167, 3) := by decide +kernel
theorem dX11_flagByTeeth_52 : decode cX11_flagByTeeth 52 = .ok (.pop, 1) := by decide +kernel
theorem dX11_flagByTeeth_53 : decode cX11_flagByTeeth 53 = .ok (.iinc 4 1, 3) := by decide +kernel
theorem dX11_flagByTeeth_56 : decode cX11_flagByTeeth 56 = .ok (.goto (-35), 3) := by decide +kernel
theorem dX11_flagByTeeth_59 : decode cX11_flagByTeeth 59 = .ok (.aload_n 0, 1) := by decide +kernel
theorem dX11_flagByTeeth_60 : decode cX11_flagByTeeth 60 = .ok (.getfield 50, 3) := by decide +kernel
theorem dX11_flagByTeeth_63 : decode cX11_flagByTeeth 63 = .ok (.getfield 114, 3) := by decide +kernel
theorem dX11_flagByTeeth_66 : decode cX11_flagByTeeth 66 = .ok (.ireturn, 1) := by decide +kernel
abbrev wd_X11_flagByTeeth (k : Nat → ClassId) (this : Nat) (this_tape : Nat) (this_history : Nat) (this_seen : Nat) (this_measured : Nat) (this_marks : Nat) (this_standing : Nat) (this_now : Nat) (this_now_state : Nat) (this_now_state_lacks : Nat) (this_now_state_lacks_f : Nat → Int32) (this_now_state_feels : Nat) (this_now_state_feels_f : Nat → Int32) (this_now_state_date : Int32) (this_now_next : Nat) (this_now_town : Nat) (this_now_weighs : Int32) (this_now_rounds : Int32) (this_now_flag : Int32) (this_ahead : Nat) (this_ahead_state : Nat) (this_ahead_state_lacks : Nat) (this_ahead_state_lacks_f : Nat → Int32) (this_ahead_state_feels : Nat) (this_ahead_state_feels_f : Nat → Int32) (this_ahead_state_date : Int32) (this_ahead_next : Nat) (this_ahead_next_f : Nat → Int32) (this_ahead_town : Value) (this_ahead_weighs : Int32) (this_ahead_rounds : Int32) (this_ahead_flag : Int32) (this_here : Nat) (this_here_names : Nat) (this_here_kinds : Nat) (this_here_kinds_f : Nat → Int32) (this_here_begin : Nat) (this_here_law : Nat) (this_here_law_steps : Nat) (this_here_law_steps_f : Nat → Int32) (this_here_law_stack : Nat) (this_here_law_stack_f : Nat → Int32) (this_here_law_size : Int32) (this_here_persons : Int32) (this_here_mast : Int32) (this_here_weighs : Int32) (this_here_rounds : Int32) (this_here_toldOnce : Int32) (this_townDraft : Nat) (this_told : Nat) (this_yearDraft : Nat) (this_drawn : Int64) : va_W := [(this, .inr (9, [.ref this_tape, .ref this_history, .ref this_seen, .ref this_measured, .ref this_marks, .ref this_standing, .ref this_now, .ref this_ahead, .ref this_here, .ref this_townDraft, .ref this_told, .ref this_yearDraft, .long this_drawn])), (this_now, .inr (0, [.ref this_now_state, .ref this_now_next, .ref this_now_town, .int this_now_weighs, .int this_now_rounds, .int this_now_flag])), (this_now_state, .inr (5, [.ref this_now_state_lacks, .ref this_now_state_feels, .int this_now_state_date])), (this_now_state_lacks, .inl (k 0, 6, .inl this_now_state_lacks_f)), (this_now_state_feels, .inl (k 0, 6, .inl this_now_state_feels_f)), (this_ahead, .inr (0, [.ref this_ahead_state, .ref this_ahead_next, this_ahead_town, .int this_ahead_weighs, .int this_ahead_rounds, .int this_ahead_flag])), (this_ahead_state, .inr (5, [.ref this_ahead_state_lacks, .ref this_ahead_state_feels, .int this_ahead_state_date])), (this_ahead_state_lacks, .inl (k 0, 6, .inl this_ahead_state_lacks_f)), (this_ahead_state_feels, .inl (k 0, 6, .inl this_ahead_state_feels_f)), (this_ahead_next, .inl (k 0, 6, .inl this_ahead_next_f)), (this_here, .inr (7, [.ref this_here_names, .ref this_here_kinds, .ref this_here_begin, .ref this_here_law, .int this_here_persons, .int this_here_mast, .int this_here_weighs, .int this_here_rounds, .int this_here_toldOnce])), (this_here_kinds, .inl (k 0, 6, .inl this_here_kinds_f)), (this_here_law, .inr (2, [.ref this_here_law_steps, .ref this_here_law_stack, .int this_here_law_size])), (this_here_law_steps, .inl (k 0, 1000, .inl this_here_law_steps_f)), (this_here_law_stack, .inl (k 0, 21, .inl this_here_law_stack_f))]
set_option maxHeartbeats 4000000 in
set_option maxRecDepth 100000 in
theorem c_X11_flagByTeeth (l : Launch) (D : va_G) (k : Nat → ClassId) (this : Nat) (this_tape : Nat) (this_history : Nat) (this_seen : Nat) (this_measured : Nat) (this_marks : Nat) (this_standing : Nat) (this_now : Nat) (this_now_state : Nat) (this_now_state_lacks : Nat) (this_now_state_lacks_f : Nat → Int32) (this_now_state_feels : Nat) (this_now_state_feels_f : Nat → Int32) (this_now_state_date : Int32) (this_now_next : Nat) (this_now_town : Nat) (this_now_weighs : Int32) (this_now_rounds : Int32) (this_now_flag : Int32) (this_ahead : Nat) (this_ahead_state : Nat) (this_ahead_state_lacks : Nat) (this_ahead_state_lacks_f : Nat → Int32) (this_ahead_state_feels : Nat) (this_ahead_state_feels_f : Nat → Int32) (this_ahead_state_date : Int32) (this_ahead_next : Nat) (this_ahead_next_f : Nat → Int32) (this_ahead_town : Value) (this_ahead_weighs : Int32) (this_ahead_rounds : Int32) (this_ahead_flag : Int32) (this_here : Nat) (this_here_names : Nat) (this_here_kinds : Nat) (this_here_kinds_f : Nat → Int32) (this_here_begin : Nat) (this_here_law : Nat) (this_here_law_steps : Nat) (this_here_law_steps_f : Nat → Int32) (this_here_law_stack : Nat) (this_here_law_stack_f : Nat → Int32) (this_here_law_size : Int32) (this_here_persons : Int32) (this_here_mast : Int32) (this_here_weighs : Int32) (this_here_rounds : Int32) (this_here_toldOnce : Int32) (this_townDraft : Nat) (this_told : Nat) (this_yearDraft : Nat) (this_drawn : Int64) (person : Int32) (set : Int32) (days : Int32) (R0 : Int32 × Int32 × Int32 × Int32 × Int32 × (Nat → Int32) × (Nat → Int32) × (Nat → Int32) × (Nat → Int32)) (hm : m_X11_flagByTeeth this_now_state_lacks_f this_now_state_feels_f this_now_state_date this_ahead_state_lacks_f this_ahead_state_feels_f this_ahead_next_f this_here_kinds_f this_here_law_steps_f this_here_law_stack_f this_here_law_size this_here_persons this_here_mast this_here_weighs this_here_rounds person set days = some R0) : CW l D (TY k) yX11_flagByTeeth cX11_flagByTeeth 5 (some .int) 6 132 [.ref this, .int person, .int set, .int days] (wd_X11_flagByTeeth k this this_tape this_history this_seen this_measured this_marks this_standing this_now this_now_state this_now_state_lacks this_now_state_lacks_f this_now_state_feels this_now_state_feels_f this_now_state_date this_now_next this_now_town this_now_weighs this_now_rounds this_now_flag this_ahead this_ahead_state this_ahead_state_lacks this_ahead_state_lacks_f this_ahead_state_feels this_ahead_state_feels_f this_ahead_state_date this_ahead_next this_ahead_next_f this_ahead_town this_ahead_weighs this_ahead_rounds this_ahead_flag this_here this_here_names this_here_kinds this_here_kinds_f this_here_begin this_here_law this_here_law_steps this_here_law_steps_f this_here_law_stack this_here_law_stack_f this_here_law_size this_here_persons this_here_mast this_here_weighs this_here_rounds this_here_toldOnce this_townDraft this_told this_yearDraft this_drawn) (some (.int R0.1)) (wd_X11_flagByTeeth k this this_tape this_history this_seen this_measured this_marks this_standing this_now this_now_state this_now_state_lacks this_now_state_lacks_f this_now_state_feels this_now_state_feels_f this_now_state_date this_now_next this_now_town this_now_weighs this_now_rounds this_now_flag this_ahead this_ahead_state this_ahead_state_lacks R0.2.2.2.2.2.1 this_ahead_state_feels R0.2.2.2.2.2.2.1 R0.2.2.2.2.1 this_ahead_next R0.2.2.2.2.2.2.2.1 (.ref this_here) R0.2.1 R0.2.2.1 R0.2.2.2.1 this_here this_here_names this_here_kinds this_here_kinds_f this_here_begin this_here_law this_here_law_steps this_here_law_steps_f this_here_law_stack R0.2.2.2.2.2.2.2.2 this_here_law_size this_here_persons this_here_mast this_here_weighs this_here_rounds this_here_toldOnce this_townDraft this_told this_yearDraft this_drawn) := by
  refine CW.mk (by decide) (Nat.le_of_ble_eq_true rfl) ?_
  intro p e s m args below meth c ls A ⟨hx, hb, hr, hts, hown, hlocks, hml⟩ hP hG hD hA hl hS hq
  have hl : lv_has ls 5 [(0, .ref this), (1, .int person), (2, .int set), (3, .int days)] := hl
  have h_45 : ∀ (K21 : Int32 → Int32 → Int32 → Int32 → Int32 → (Nat → Int32) → (Nat → Int32) → (Nat → Int32) → (Nat → Int32) → Option (Int32 × Int32 × Int32 × Int32 × Int32 × (Nat → Int32) × (Nat → Int32) × (Nat → Int32) × (Nat → Int32))) (hK21 : ∀ (x4 : Int32) (u_this_ahead_weighs : Int32) (u_this_ahead_rounds : Int32) (u_this_ahead_flag : Int32) (u_this_ahead_state_date : Int32) (u_this_ahead_state_lacks_f : Nat → Int32) (u_this_ahead_state_feels_f : Nat → Int32) (u_this_ahead_next_f : Nat → Int32) (u_this_here_law_stack_f : Nat → Int32) (H : Heap) (locs : List Loc) (ls : Array Slot), va_P D vwCl (wd_X11_flagByTeeth k this this_tape this_history this_seen this_measured this_marks this_standing this_now this_now_state this_now_state_lacks this_now_state_lacks_f this_now_state_feels this_now_state_feels_f this_now_state_date this_now_next this_now_town this_now_weighs this_now_rounds this_now_flag this_ahead this_ahead_state this_ahead_state_lacks u_this_ahead_state_lacks_f this_ahead_state_feels u_this_ahead_state_feels_f u_this_ahead_state_date this_ahead_next u_this_ahead_next_f (.ref this_here) u_this_ahead_weighs u_this_ahead_rounds u_this_ahead_flag this_here this_here_names this_here_kinds this_here_kinds_f this_here_begin this_here_law this_here_law_steps this_here_law_steps_f this_here_law_stack u_this_here_law_stack_f this_here_law_size this_here_persons this_here_mast this_here_weighs this_here_rounds this_here_toldOnce this_townDraft this_told this_yearDraft this_drawn) H → va_D A (wd_X11_flagByTeeth k this this_tape this_history this_seen this_measured this_marks this_standing this_now this_now_state this_now_state_lacks this_now_state_lacks_f this_now_state_feels this_now_state_feels_f this_now_state_date this_now_next this_now_town this_now_weighs this_now_rounds this_now_flag this_ahead this_ahead_state this_ahead_state_lacks u_this_ahead_state_lacks_f this_ahead_state_feels u_this_ahead_state_feels_f u_this_ahead_state_date this_ahead_next u_this_ahead_next_f (.ref this_here) u_this_ahead_weighs u_this_ahead_rounds u_this_ahead_flag this_here this_here_names this_here_kinds this_here_kinds_f this_here_begin this_here_law this_here_law_steps this_here_law_steps_f this_here_law_stack u_this_here_law_stack_f this_here_law_size this_here_persons this_here_mast this_here_weighs this_here_rounds this_here_toldOnce this_townDraft this_told this_yearDraft this_drawn) → va_S A s.heap H locs → lv_has ls 5 [(0, .ref this), (1, .int person), (2, .int set), (3, .int days), (4, .int x4)] → K21 x4 u_this_ahead_weighs u_this_ahead_rounds u_this_ahead_flag u_this_ahead_state_date u_this_ahead_state_lacks_f u_this_ahead_state_feels_f u_this_ahead_next_f u_this_here_law_stack_f = some R0 → W p l e (Rm 6 132) s m args below meth c H locs 0 0 (MQ below (QW D (some (.int R0.1)) (wd_X11_flagByTeeth k this this_tape this_history this_seen this_measured this_marks this_standing this_now this_now_state this_now_state_lacks this_now_state_lacks_f this_now_state_feels this_now_state_feels_f this_now_state_date this_now_next this_now_town this_now_weighs this_now_rounds this_now_flag this_ahead this_ahead_state this_ahead_state_lacks this_ahead_state_lacks_f this_ahead_state_feels this_ahead_state_feels_f this_ahead_state_date this_ahead_next this_ahead_next_f this_ahead_town this_ahead_weighs this_ahead_rounds this_ahead_flag this_here this_here_names this_here_kinds this_here_kinds_f this_here_begin this_here_law this_here_law_steps this_here_law_steps_f this_here_law_stack this_here_law_stack_f this_here_law_size this_here_persons this_here_mast this_here_weighs this_here_rounds this_here_toldOnce this_townDraft this_told this_yearDraft this_drawn) (wd_X11_flagByTeeth k this this_tape this_history this_seen this_measured this_marks this_standing this_now this_now_state this_now_state_lacks this_now_state_lacks_f this_now_state_feels this_now_state_feels_f this_now_state_date this_now_next this_now_town this_now_weighs this_now_rounds this_now_flag this_ahead this_ahead_state this_ahead_state_lacks R0.2.2.2.2.2.1 this_ahead_state_feels R0.2.2.2.2.2.2.1 R0.2.2.2.2.1 this_ahead_next R0.2.2.2.2.2.2.2.1 (.ref this_here) R0.2.1 R0.2.2.1 R0.2.2.2.1 this_here this_here_names this_here_kinds this_here_kinds_f this_here_begin this_here_law this_here_law_steps this_here_law_steps_f this_here_law_stack R0.2.2.2.2.2.2.2.2 this_here_law_size this_here_persons this_here_mast this_here_weighs this_here_rounds this_here_toldOnce this_townDraft this_told this_yearDraft this_drawn) s.heap.size) args s 0 0 A) (F0 m 21 ls [])), ∀ (x4 : Int32) (u_this_ahead_weighs : Int32) (u_this_ahead_rounds : Int32) (u_this_ahead_flag : Int32) (u_this_ahead_state_date : Int32) (u_this_ahead_state_lacks_f : Nat → Int32) (u_this_ahead_state_feels_f : Nat → Int32) (u_this_ahead_next_f : Nat → Int32) (u_this_here_law_stack_f : Nat → Int32) (H : Heap) (locs : List Loc) (ls : Array Slot), va_P D vwCl (wd_X11_flagByTeeth k this this_tape this_history this_seen this_measured this_marks this_standing this_now this_now_state this_now_state_lacks this_now_state_lacks_f this_now_state_feels this_now_state_feels_f this_now_state_date this_now_next this_now_town this_now_weighs this_now_rounds this_now_flag this_ahead this_ahead_state this_ahead_state_lacks u_this_ahead_state_lacks_f this_ahead_state_feels u_this_ahead_state_feels_f u_this_ahead_state_date this_ahead_next u_this_ahead_next_f (.ref this_here) u_this_ahead_weighs u_this_ahead_rounds u_this_ahead_flag this_here this_here_names this_here_kinds this_here_kinds_f this_here_begin this_here_law this_here_law_steps this_here_law_steps_f this_here_law_stack u_this_here_law_stack_f this_here_law_size this_here_persons this_here_mast this_here_weighs this_here_rounds this_here_toldOnce this_townDraft this_told this_yearDraft this_drawn) H → va_D A (wd_X11_flagByTeeth k this this_tape this_history this_seen this_measured this_marks this_standing this_now this_now_state this_now_state_lacks this_now_state_lacks_f this_now_state_feels this_now_state_feels_f this_now_state_date this_now_next this_now_town this_now_weighs this_now_rounds this_now_flag this_ahead this_ahead_state this_ahead_state_lacks u_this_ahead_state_lacks_f this_ahead_state_feels u_this_ahead_state_feels_f u_this_ahead_state_date this_ahead_next u_this_ahead_next_f (.ref this_here) u_this_ahead_weighs u_this_ahead_rounds u_this_ahead_flag this_here this_here_names this_here_kinds this_here_kinds_f this_here_begin this_here_law this_here_law_steps this_here_law_steps_f this_here_law_stack u_this_here_law_stack_f this_here_law_size this_here_persons this_here_mast this_here_weighs this_here_rounds this_here_toldOnce this_townDraft this_told this_yearDraft this_drawn) → va_S A s.heap H locs → lv_has ls 5 [(0, .ref this), (1, .int person), (2, .int set), (3, .int days), (4, .int x4)] → m_X11_flagByTeeth_45 this_now_state_lacks_f this_now_state_feels_f this_now_state_date this_here_kinds_f this_here_law_steps_f this_here_law_size this_here_persons this_here_mast this_here_weighs this_here_rounds person set days K21 x4 u_this_ahead_weighs u_this_ahead_rounds u_this_ahead_flag u_this_ahead_state_date u_this_ahead_state_lacks_f u_this_ahead_state_feels_f u_this_ahead_next_f u_this_here_law_stack_f = some R0 → W p l e (Rm 6 132) s m args below meth c H locs 0 0 (MQ below (QW D (some (.int R0.1)) (wd_X11_flagByTeeth k this this_tape this_history this_seen this_measured this_marks this_standing this_now this_now_state this_now_state_lacks this_now_state_lacks_f this_now_state_feels this_now_state_feels_f this_now_state_date this_now_next this_now_town this_now_weighs this_now_rounds this_now_flag this_ahead this_ahead_state this_ahead_state_lacks this_ahead_state_lacks_f this_ahead_state_feels this_ahead_state_feels_f this_ahead_state_date this_ahead_next this_ahead_next_f this_ahead_town this_ahead_weighs this_ahead_rounds this_ahead_flag this_here this_here_names this_here_kinds this_here_kinds_f this_here_begin this_here_law this_here_law_steps this_here_law_steps_f this_here_law_stack this_here_law_stack_f this_here_law_size this_here_persons this_here_mast this_here_weighs this_here_rounds this_here_toldOnce this_townDraft this_told this_yearDraft this_drawn) (wd_X11_flagByTeeth k this this_tape this_history this_seen this_measured this_marks this_standing this_now this_now_state this_now_state_lacks this_now_state_lacks_f this_now_state_feels this_now_state_feels_f this_now_state_date this_now_next this_now_town this_now_weighs this_now_rounds this_now_flag this_ahead this_ahead_state this_ahead_state_lacks R0.2.2.2.2.2.1 this_ahead_state_feels R0.2.2.2.2.2.2.1 R0.2.2.2.2.1 this_ahead_next R0.2.2.2.2.2.2.2.1 (.ref this_here) R0.2.1 R0.2.2.1 R0.2.2.2.1 this_here this_here_names this_here_kinds this_here_kinds_f this_here_begin this_here_law this_here_law_steps this_here_law_steps_f this_here_law_stack R0.2.2.2.2.2.2.2.2 this_here_law_size this_here_persons this_here_mast this_here_weighs this_here_rounds this_here_toldOnce this_townDraft this_told this_yearDraft this_drawn) s.heap.size) args s 0 0 A) (F0 m 45 ls []) := by
    intro K21 hK21 x4 u_this_ahead_weighs u_this_ahead_rounds u_this_ahead_flag u_this_ahead_state_date u_this_ahead_state_lacks_f u_this_ahead_state_feels_f u_this_ahead_next_f u_this_here_law_stack_f H locs ls hP hD hS hl hm
    unfold m_X11_flagByTeeth_45 at hm
    refine lv_aload_n (pc := 45) hx hb dX11_flagByTeeth_45 rfl (lv_at hl 0 rfl) ?_
    refine va_get (pc := 46) (D := D) (ci := 9) (C := RX11) (T := TX11) (N := 13) hx hb hts hiX11 hown hG.1 hP 0 rfl rfl 7 (Nat.le_of_ble_eq_true rfl) (hts _ kw_351) (fun _ h9 => h9) rfl dX11_flagByTeeth_46 ?_
    obtain ⟨r5, hcl, hm⟩ := bd hm
    refine cw_mask (ws' := (wd_X11_flagByTeeth k this this_tape this_history this_seen this_measured this_marks this_standing this_now this_now_state this_now_state_lacks this_now_state_lacks_f this_now_state_feels this_now_state_feels_f this_now_state_date this_now_next this_now_town this_now_weighs this_now_rounds this_now_flag this_ahead this_ahead_state this_ahead_state_lacks r5.2.2.2.1 this_ahead_state_feels u_this_ahead_state_feels_f r5.2.2.1 this_ahead_next r5.2.2.2.2.1 (.ref this_here) u_this_ahead_weighs u_this_ahead_rounds r5.2.1 this_here this_here_names this_here_kinds this_here_kinds_f this_here_begin this_here_law this_here_law_steps this_here_law_steps_f this_here_law_stack r5.2.2.2.2.2 this_here_law_size this_here_persons this_here_mast this_here_weighs this_here_rounds this_here_toldOnce this_townDraft this_told this_yearDraft this_drawn)) (run_VN (pc := 49) (n := 0) (As := []) (rest := []) ⟨hx, hb, hml, hown, hts⟩ ((c_X1_passDay l D k this_ahead this_ahead_state this_ahead_state_lacks u_this_ahead_state_lacks_f this_ahead_state_feels u_this_ahead_state_feels_f u_this_ahead_state_date this_ahead_next u_this_ahead_next_f this_here this_here_names this_here_kinds this_here_kinds_f this_here_begin this_here_law this_here_law_steps this_here_law_steps_f this_here_law_stack u_this_here_law_stack_f this_here_law_size this_here_persons this_here_mast this_here_weighs this_here_rounds this_here_toldOnce u_this_ahead_weighs u_this_ahead_rounds u_this_ahead_flag r5 hcl) H.size) ⟨kw_806, kw_8, by decide +kernel⟩ hG kn_803 kw_805 ks_60 ⟨Nat.le_of_ble_eq_true rfl, Nat.le_of_ble_eq_true rfl⟩ pw_blind (prW (P_pick [false, false, false, false, false, true, true, true, true, true, true, true, true, true, true] rfl hP) hG (D_pick [false, false, false, false, false, true, true, true, true, true, true, true, true, true, true] rfl hD)) (va_recv hG.1 hP (ci := 0) (q0 := 5) rfl rfl) rfl hl.1 rfl (Nat.le_of_ble_eq_true rfl) dX11_flagByTeeth_49 ⟨Nat.zero_le _, Nat.zero_le _⟩) hP hD hS hA [false, false, false, false, false, true, true, true, true, true, true, true, true, true, true] rfl rfl rfl (fun H locs hP hD hS => ?_)
    refine lv_pop (pc := 52) hx hb dX11_flagByTeeth_52 rfl ?_
    refine lv_iinc (k := 4) (v := x4 + 1) (lv' := [(4, .int (x4 + 1)), (0, .ref this), (1, .int person), (2, .int set), (3, .int days)]) (pc := 53) hx hb dX11_flagByTeeth_53 hl rfl rfl (Nat.le_of_ble_eq_true rfl) rfl (fun ls hl => ?_)
    refine lv_goto (tgt := 21) (pc := 56) hx hb dX11_flagByTeeth_56 (by decide) ?_
    exact hK21 (x4 + 1) u_this_ahead_weighs u_this_ahead_rounds r5.2.1 r5.2.2.1 r5.2.2.2.1 u_this_ahead_state_feels_f r5.2.2.2.2.1 r5.2.2.2.2.2 H locs ls hP hD hS (lv_sub hl [1, 2, 3, 4, 0] rfl) hm
  have h_21 : ∀ (n : Nat), ∀ (x4 : Int32) (u_this_ahead_weighs : Int32) (u_this_ahead_rounds : Int32) (u_this_ahead_flag : Int32) (u_this_ahead_state_date : Int32) (u_this_ahead_state_lacks_f : Nat → Int32) (u_this_ahead_state_feels_f : Nat → Int32) (u_this_ahead_next_f : Nat → Int32) (u_this_here_law_stack_f : Nat → Int32) (H : Heap) (locs : List Loc) (ls : Array Slot), va_P D vwCl (wd_X11_flagByTeeth k this this_tape this_history this_seen this_measured this_marks this_standing this_now this_now_state this_now_state_lacks this_now_state_lacks_f this_now_state_feels this_now_state_feels_f this_now_state_date this_now_next this_now_town this_now_weighs this_now_rounds this_now_flag this_ahead this_ahead_state this_ahead_state_lacks u_this_ahead_state_lacks_f this_ahead_state_feels u_this_ahead_state_feels_f u_this_ahead_state_date this_ahead_next u_this_ahead_next_f (.ref this_here) u_this_ahead_weighs u_this_ahead_rounds u_this_ahead_flag this_here this_here_names this_here_kinds this_here_kinds_f this_here_begin this_here_law this_here_law_steps this_here_law_steps_f this_here_law_stack u_this_here_law_stack_f this_here_law_size this_here_persons this_here_mast this_here_weighs this_here_rounds this_here_toldOnce this_townDraft this_told this_yearDraft this_drawn) H → va_D A (wd_X11_flagByTeeth k this this_tape this_history this_seen this_measured this_marks this_standing this_now this_now_state this_now_state_lacks this_now_state_lacks_f this_now_state_feels this_now_state_feels_f this_now_state_date this_now_next this_now_town this_now_weighs this_now_rounds this_now_flag this_ahead this_ahead_state this_ahead_state_lacks u_this_ahead_state_lacks_f this_ahead_state_feels u_this_ahead_state_feels_f u_this_ahead_state_date this_ahead_next u_this_ahead_next_f (.ref this_here) u_this_ahead_weighs u_this_ahead_rounds u_this_ahead_flag this_here this_here_names this_here_kinds this_here_kinds_f this_here_begin this_here_law this_here_law_steps this_here_law_steps_f this_here_law_stack u_this_here_law_stack_f this_here_law_size this_here_persons this_here_mast this_here_weighs this_here_rounds this_here_toldOnce this_townDraft this_told this_yearDraft this_drawn) → va_S A s.heap H locs → lv_has ls 5 [(0, .ref this), (1, .int person), (2, .int set), (3, .int days), (4, .int x4)] → m_X11_flagByTeeth_21 this_now_state_lacks_f this_now_state_feels_f this_now_state_date this_here_kinds_f this_here_law_steps_f this_here_law_size this_here_persons this_here_mast this_here_weighs this_here_rounds person set days n x4 u_this_ahead_weighs u_this_ahead_rounds u_this_ahead_flag u_this_ahead_state_date u_this_ahead_state_lacks_f u_this_ahead_state_feels_f u_this_ahead_next_f u_this_here_law_stack_f = some R0 → W p l e (Rm 6 132) s m args below meth c H locs 0 0 (MQ below (QW D (some (.int R0.1)) (wd_X11_flagByTeeth k this this_tape this_history this_seen this_measured this_marks this_standing this_now this_now_state this_now_state_lacks this_now_state_lacks_f this_now_state_feels this_now_state_feels_f this_now_state_date this_now_next this_now_town this_now_weighs this_now_rounds this_now_flag this_ahead this_ahead_state this_ahead_state_lacks this_ahead_state_lacks_f this_ahead_state_feels this_ahead_state_feels_f this_ahead_state_date this_ahead_next this_ahead_next_f this_ahead_town this_ahead_weighs this_ahead_rounds this_ahead_flag this_here this_here_names this_here_kinds this_here_kinds_f this_here_begin this_here_law this_here_law_steps this_here_law_steps_f this_here_law_stack this_here_law_stack_f this_here_law_size this_here_persons this_here_mast this_here_weighs this_here_rounds this_here_toldOnce this_townDraft this_told this_yearDraft this_drawn) (wd_X11_flagByTeeth k this this_tape this_history this_seen this_measured this_marks this_standing this_now this_now_state this_now_state_lacks this_now_state_lacks_f this_now_state_feels this_now_state_feels_f this_now_state_date this_now_next this_now_town this_now_weighs this_now_rounds this_now_flag this_ahead this_ahead_state this_ahead_state_lacks R0.2.2.2.2.2.1 this_ahead_state_feels R0.2.2.2.2.2.2.1 R0.2.2.2.2.1 this_ahead_next R0.2.2.2.2.2.2.2.1 (.ref this_here) R0.2.1 R0.2.2.1 R0.2.2.2.1 this_here this_here_names this_here_kinds this_here_kinds_f this_here_begin this_here_law this_here_law_steps this_here_law_steps_f this_here_law_stack R0.2.2.2.2.2.2.2.2 this_here_law_size this_here_persons this_here_mast this_here_weighs this_here_rounds this_here_toldOnce this_townDraft this_told this_yearDraft this_drawn) s.heap.size) args s 0 0 A) (F0 m 21 ls []) := by
    intro n
    induction n with
    | zero => intro x4 u_this_ahead_weighs u_this_ahead_rounds u_this_ahead_flag u_this_ahead_state_date u_this_ahead_state_lacks_f u_this_ahead_state_feels_f u_this_ahead_next_f u_this_here_law_stack_f H locs ls hP hD hS hl hm; cases hm
    | succ n ih =>
      intro x4 u_this_ahead_weighs u_this_ahead_rounds u_this_ahead_flag u_this_ahead_state_date u_this_ahead_state_lacks_f u_this_ahead_state_feels_f u_this_ahead_next_f u_this_here_law_stack_f H locs ls hP hD hS hl hm
      unfold m_X11_flagByTeeth_21 at hm
      refine lv_iload (pc := 21) hx hb dX11_flagByTeeth_21 (lv_at hl 4 rfl) ?_
      refine lv_iload_n (pc := 23) hx hb dX11_flagByTeeth_23 rfl (lv_at hl 3 rfl) ?_
      refine lv_icmp_ge (tgt := 59) (pc := 24) hx hb dX11_flagByTeeth_24 (by decide) (fun hc => ?_) (fun hc => ?_)
      · rw [if_pos hc] at hm
        refine lv_aload_n (pc := 59) hx hb dX11_flagByTeeth_59 rfl (lv_at hl 0 rfl) ?_
        refine va_get (pc := 60) (D := D) (ci := 9) (C := RX11) (T := TX11) (N := 13) hx hb hts hiX11 hown hG.1 hP 0 rfl rfl 7 (Nat.le_of_ble_eq_true rfl) (hts _ kw_351) (fun _ h9 => h9) rfl dX11_flagByTeeth_60 ?_
        refine va_getN (pc := 63) (D := D) (ci := 0) (C := RX1) (T := TX1) (N := 6) hx hb hts hiX1 hown hG.1 hP 5 rfl rfl 5 (Nat.le_of_ble_eq_true rfl) (va_Nw.use rfl (hG.2 _ kn_156)) (fun _ h9 => h9) rfl dX11_flagByTeeth_63 ?_
        rw [← Option.some.inj hm]
        exact W.iret hx hb hr (fun t ht _ => hq _ _ H t ht hP hD locs hS) hS.2.2 dX11_flagByTeeth_66 hlocks
      · rw [if_neg hc] at hm
        refine lv_iload_n (pc := 27) hx hb dX11_flagByTeeth_27 rfl (lv_at hl 2 rfl) ?_
        refine lv_iload (pc := 28) hx hb dX11_flagByTeeth_28 (lv_at hl 4 rfl) ?_
        obtain ⟨r6, hcl, hm⟩ := bd hm
        refine cr_back (run_S (pc := 30) (n := 2) (As := [.int set, .int x4]) (rest := []) ⟨hx, hb, hml, hown, hts⟩ (c_X11_holds l D k set x4 r6 hcl) ⟨kw_604, kw_1, by decide +kernel⟩ kw_911 kw_603 ⟨Nat.le_of_ble_eq_true rfl, Nat.le_of_ble_eq_true rfl⟩ pr_blind (prR (hP.sub [] rfl) hG) rfl hl.1 rfl (Nat.le_of_ble_eq_true rfl) dX11_flagByTeeth_30 ⟨Nat.zero_le _, Nat.zero_le _⟩) ?_
        refine lv_if_eq (tgt := 45) (pc := 33) hx hb dX11_flagByTeeth_33 (by decide) (fun hc => ?_) (fun hc => ?_)
        · rw [if_pos hc] at hm
          exact h_45 (m_X11_flagByTeeth_21 this_now_state_lacks_f this_now_state_feels_f this_now_state_date this_here_kinds_f this_here_law_steps_f this_here_law_size this_here_persons this_here_mast this_here_weighs this_here_rounds person set days n) ih x4 u_this_ahead_weighs u_this_ahead_rounds u_this_ahead_flag u_this_ahead_state_date u_this_ahead_state_lacks_f u_this_ahead_state_feels_f u_this_ahead_next_f u_this_here_law_stack_f H locs ls hP hD hS (lv_sub hl [0, 1, 2, 3, 4] rfl) hm
        · rw [if_neg hc] at hm
          refine lv_aload_n (pc := 36) hx hb dX11_flagByTeeth_36 rfl (lv_at hl 0 rfl) ?_
          refine va_get (pc := 37) (D := D) (ci := 9) (C := RX11) (T := TX11) (N := 13) hx hb hts hiX11 hown hG.1 hP 0 rfl rfl 7 (Nat.le_of_ble_eq_true rfl) (hts _ kw_351) (fun _ h9 => h9) rfl dX11_flagByTeeth_37 ?_
          refine lv_iload_n (pc := 40) hx hb dX11_flagByTeeth_40 rfl (lv_at hl 1 rfl) ?_
          refine lv_iconst (v := 3) (pc := 41) hx hb dX11_flagByTeeth_41 (by decide) ?_
          obtain ⟨r7, hcl, hm⟩ := bd hm
          refine cw_mask (ws' := (wd_X11_flagByTeeth k this this_tape this_history this_seen this_measured this_marks this_standing this_now this_now_state this_now_state_lacks this_now_state_lacks_f this_now_state_feels this_now_state_feels_f this_now_state_date this_now_next this_now_town this_now_weighs this_now_rounds this_now_flag this_ahead this_ahead_state this_ahead_state_lacks r7.2 this_ahead_state_feels u_this_ahead_state_feels_f u_this_ahead_state_date this_ahead_next u_this_ahead_next_f (.ref this_here) u_this_ahead_weighs u_this_ahead_rounds r7.1 this_here this_here_names this_here_kinds this_here_kinds_f this_here_begin this_here_law this_here_law_steps this_here_law_steps_f this_here_law_stack u_this_here_law_stack_f this_here_law_size this_here_persons this_here_mast this_here_weighs this_here_rounds this_here_toldOnce this_townDraft this_told this_yearDraft this_drawn)) (run_VN (pc := 42) (n := 2) (As := [.int person, .int 3]) (rest := []) ⟨hx, hb, hml, hown, hts⟩ ((c_X1_shift l D k this_ahead this_ahead_state this_ahead_state_lacks u_this_ahead_state_lacks_f this_ahead_state_feels u_this_ahead_state_feels_f u_this_ahead_state_date this_ahead_next this_here this_here_names this_here_kinds this_here_kinds_f this_here_begin this_here_law this_here_persons this_here_mast this_here_weighs this_here_rounds this_here_toldOnce u_this_ahead_weighs u_this_ahead_rounds u_this_ahead_flag person 3 r7 hcl) H.size) ⟨kw_773, kw_8, by decide +kernel⟩ hG kn_770 kw_772 ks_58 ⟨Nat.le_of_ble_eq_true rfl, Nat.le_of_ble_eq_true rfl⟩ pw_blind (prW (P_pick [false, false, false, false, false, true, true, true, true, false, true, true] rfl hP) hG (D_pick [false, false, false, false, false, true, true, true, true, false, true, true] rfl hD)) (va_recv hG.1 hP (ci := 0) (q0 := 5) rfl rfl) rfl hl.1 rfl (Nat.le_of_ble_eq_true rfl) dX11_flagByTeeth_42 ⟨Nat.zero_le _, Nat.zero_le _⟩) hP hD hS hA [false, false, false, false, false, true, true, true, true, false, true, true] rfl rfl rfl (fun H locs hP hD hS => ?_)
          exact h_45 (m_X11_flagByTeeth_21 this_now_state_lacks_f this_now_state_feels_f this_now_state_date this_here_kinds_f this_here_law_steps_f this_here_law_size this_here_persons this_here_mast this_here_weighs this_here_rounds person set days n) ih x4 u_this_ahead_weighs u_this_ahead_rounds r7.1 u_this_ahead_state_date r7.2 u_this_ahead_state_feels_f u_this_ahead_next_f u_this_here_law_stack_f H locs ls hP hD hS (lv_sub hl [0, 1, 2, 3, 4] rfl) hm
  unfold m_X11_flagByTeeth at hm
  suffices hgo : ∀ (H : Heap) (locs : List Loc), va_P D vwCl (wd_X11_flagByTeeth k this this_tape this_history this_seen this_measured this_marks this_standing this_now this_now_state this_now_state_lacks this_now_state_lacks_f this_now_state_feels this_now_state_feels_f this_now_state_date this_now_next this_now_town this_now_weighs this_now_rounds this_now_flag this_ahead this_ahead_state this_ahead_state_lacks this_ahead_state_lacks_f this_ahead_state_feels this_ahead_state_feels_f this_ahead_state_date this_ahead_next this_ahead_next_f this_ahead_town this_ahead_weighs this_ahead_rounds this_ahead_flag this_here this_here_names this_here_kinds this_here_kinds_f this_here_begin this_here_law this_here_law_steps this_here_law_steps_f this_here_law_stack this_here_law_stack_f this_here_law_size this_here_persons this_here_mast this_here_weighs this_here_rounds this_here_toldOnce this_townDraft this_told this_yearDraft this_drawn) H → va_D A (wd_X11_flagByTeeth k this this_tape this_history this_seen this_measured this_marks this_standing this_now this_now_state this_now_state_lacks this_now_state_lacks_f this_now_state_feels this_now_state_feels_f this_now_state_date this_now_next this_now_town this_now_weighs this_now_rounds this_now_flag this_ahead this_ahead_state this_ahead_state_lacks this_ahead_state_lacks_f this_ahead_state_feels this_ahead_state_feels_f this_ahead_state_date this_ahead_next this_ahead_next_f this_ahead_town this_ahead_weighs this_ahead_rounds this_ahead_flag this_here this_here_names this_here_kinds this_here_kinds_f this_here_begin this_here_law this_here_law_steps this_here_law_steps_f this_here_law_stack this_here_law_stack_f this_here_law_size this_here_persons this_here_mast this_here_weighs this_here_rounds this_here_toldOnce this_townDraft this_told this_yearDraft this_drawn) → va_S A s.heap H locs → W p l e (Rm 6 132) s m args below meth c H locs 0 0 (MQ below (QW D (some (.int R0.1)) (wd_X11_flagByTeeth k this this_tape this_history this_seen this_measured this_marks this_standing this_now this_now_state this_now_state_lacks this_now_state_lacks_f this_now_state_feels this_now_state_feels_f this_now_state_date this_now_next this_now_town this_now_weighs this_now_rounds this_now_flag this_ahead this_ahead_state this_ahead_state_lacks this_ahead_state_lacks_f this_ahead_state_feels this_ahead_state_feels_f this_ahead_state_date this_ahead_next this_ahead_next_f this_ahead_town this_ahead_weighs this_ahead_rounds this_ahead_flag this_here this_here_names this_here_kinds this_here_kinds_f this_here_begin this_here_law this_here_law_steps this_here_law_steps_f this_here_law_stack this_here_law_stack_f this_here_law_size this_here_persons this_here_mast this_here_weighs this_here_rounds this_here_toldOnce this_townDraft this_told this_yearDraft this_drawn) (wd_X11_flagByTeeth k this this_tape this_history this_seen this_measured this_marks this_standing this_now this_now_state this_now_state_lacks this_now_state_lacks_f this_now_state_feels this_now_state_feels_f this_now_state_date this_now_next this_now_town this_now_weighs this_now_rounds this_now_flag this_ahead this_ahead_state this_ahead_state_lacks R0.2.2.2.2.2.1 this_ahead_state_feels R0.2.2.2.2.2.2.1 R0.2.2.2.2.1 this_ahead_next R0.2.2.2.2.2.2.2.1 (.ref this_here) R0.2.1 R0.2.2.1 R0.2.2.2.1 this_here this_here_names this_here_kinds this_here_kinds_f this_here_begin this_here_law this_here_law_steps this_here_law_steps_f this_here_law_stack R0.2.2.2.2.2.2.2.2 this_here_law_size this_here_persons this_here_mast this_here_weighs this_here_rounds this_here_toldOnce this_townDraft this_told this_yearDraft this_drawn) s.heap.size) args s 0 0 A) (F0 m 0 ls []) from hgo _ _ hP hD hS
  clear hP hD hS
  intro H locs hP hD hS
  refine lv_aload_n (pc := 0) hx hb dX11_flagByTeeth_0 rfl (lv_at hl 0 rfl) ?_
  refine va_get (pc := 1) (D := D) (ci := 9) (C := RX11) (T := TX11) (N := 13) hx hb hts hiX11 hown hG.1 hP 0 rfl rfl 7 (Nat.le_of_ble_eq_true rfl) (hts _ kw_351) (fun _ h9 => h9) rfl dX11_flagByTeeth_1 ?_
  refine lv_aload_n (pc := 4) hx hb dX11_flagByTeeth_4 rfl (lv_at hl 0 rfl) ?_
  refine va_get (pc := 5) (D := D) (ci := 9) (C := RX11) (T := TX11) (N := 13) hx hb hts hiX11 hown hG.1 hP 0 rfl rfl 8 (Nat.le_of_ble_eq_true rfl) (hts _ kw_352) (fun _ h9 => h9) rfl dX11_flagByTeeth_5 ?_
  refine lv_aload_n (pc := 8) hx hb dX11_flagByTeeth_8 rfl (lv_at hl 0 rfl) ?_
  refine va_get (pc := 9) (D := D) (ci := 9) (C := RX11) (T := TX11) (N := 13) hx hb hts hiX11 hown hG.1 hP 0 rfl rfl 6 (Nat.le_of_ble_eq_true rfl) (hts _ kw_350) (fun _ h9 => h9) rfl dX11_flagByTeeth_9 ?_
  refine va_getN (pc := 12) (D := D) (ci := 0) (C := RX1) (T := TX1) (N := 6) hx hb hts hiX1 hown hG.1 hP 1 rfl rfl 0 (Nat.le_of_ble_eq_true rfl) (va_Nw.use rfl (hG.2 _ kn_149)) (fun _ h9 => h9) rfl dX11_flagByTeeth_12 ?_
  obtain ⟨r8, hcl, hm⟩ := bd hm
  refine cw_maskP (ws' := (wd_X11_flagByTeeth k this this_tape this_history this_seen this_measured this_marks this_standing this_now this_now_state this_now_state_lacks this_now_state_lacks_f this_now_state_feels this_now_state_feels_f this_now_state_date this_now_next this_now_town this_now_weighs this_now_rounds this_now_flag this_ahead this_ahead_state this_ahead_state_lacks r8.2.2.2.2.1 this_ahead_state_feels r8.2.2.2.2.2 r8.2.2.2.1 this_ahead_next this_ahead_next_f (.ref this_here) r8.1 r8.2.1 r8.2.2.1 this_here this_here_names this_here_kinds this_here_kinds_f this_here_begin this_here_law this_here_law_steps this_here_law_steps_f this_here_law_stack this_here_law_stack_f this_here_law_size this_here_persons this_here_mast this_here_weighs this_here_rounds this_here_toldOnce this_townDraft this_told this_yearDraft this_drawn)) (run_VN (pc := 15) (n := 2) (As := [.ref this_here, .ref this_now_state]) (rest := []) ⟨hx, hb, hml, hown, hts⟩ ((c_X1_start l D k this_ahead this_ahead_state this_ahead_state_lacks this_ahead_state_lacks_f this_ahead_state_feels this_ahead_state_feels_f this_ahead_state_date this_ahead_next this_ahead_town this_ahead_weighs this_ahead_rounds this_ahead_flag this_here this_here_names this_here_kinds this_here_kinds_f this_here_begin this_here_law this_here_persons this_here_mast this_here_weighs this_here_rounds this_here_toldOnce this_now_state this_now_state_lacks this_now_state_lacks_f this_now_state_feels this_now_state_feels_f this_now_state_date r8 hcl) H.size) ⟨kw_307, kw_8, by decide +kernel⟩ hG kn_304 kw_306 ks_5 ⟨Nat.le_of_ble_eq_true rfl, Nat.le_of_ble_eq_true rfl⟩ pw_blind (prW ((P_pick [false, false, true, true, true, true, true, true, true, false, true, true] rfl hP).sub [3, 4, 5, 6, 7, 8, 0, 1, 2] rfl) hG ((D_pick [false, false, true, true, true, true, true, true, true, false, true, true] rfl hD).sub [3, 4, 5, 6, 7, 8, 0, 1, 2] (by decide) rfl)) (va_recv hG.1 hP (ci := 0) (q0 := 5) rfl rfl) rfl hl.1 rfl (Nat.le_of_ble_eq_true rfl) dX11_flagByTeeth_15 ⟨Nat.zero_le _, Nat.zero_le _⟩) hP hD hS hA [false, false, true, true, true, true, true, true, true, false, true, true] [3, 4, 5, 6, 7, 8, 0, 1, 2] [6, 7, 8, 0, 1, 2, 3, 4, 5] rfl rfl rfl rfl (fun H locs hP hD hS => ?_)
  refine lv_iconst (v := 0) (pc := 18) hx hb dX11_flagByTeeth_18 (by decide) ?_
  refine lv_istore (lv' := [(4, .int 0), (0, .ref this), (1, .int person), (2, .int set), (3, .int days)]) (pc := 19) hx hb dX11_flagByTeeth_19 hl (Nat.le_of_ble_eq_true rfl) rfl (fun ls hl => ?_)
  exact h_21 FU 0 r8.1 r8.2.1 r8.2.2.1 r8.2.2.2.1 r8.2.2.2.2.1 r8.2.2.2.2.2 this_ahead_next_f this_here_law_stack_f H locs ls hP hD hS (lv_sub hl [1, 2, 3, 4, 0] rfl) hm
theorem dX11_chance_0 : decode cX11_chance 0 = .ok (.aload_n 0, 1) := by decide +kernel
theorem dX11_chance_1 : decode cX11_chance 1 = .ok (.getfield 56, 3) := by decide +kernel
theorem dX11_chance_4 : decode cX11_chance 4 = .ok (.iload_n 1, 1) := by decide +kernel
theorem dX11_chance_5 : decode cX11_chance 5 = .ok (.invokevirtual 117, 3) := by decide +kernel
theorem dX11_chance_8 : decode cX11_chance 8 = .ok (.ifCond .eq 34, 3) := by decide +kernel
theorem dX11_chance_11 : decode cX11_chance 11 = .ok (.iload_n 2, 1) := by decide +kernel
theorem dX11_chance_12 : decode cX11_chance 12 = .ok (.iconst 1, 1) := by decide +kernel
theorem dX11_chance_13 : decode cX11_chance 13 = .ok (.bipush 99, 2) := by decide +kernel
theorem dX11_chance_15 : decode cX11_chance 15 = .ok (.invokestatic 148, 3) := by decide +kernel
theorem dX11_chance_18 : decode cX11_chance 18 = .ok (.ifCond .eq 24, 3) := by decide +kernel
theorem dX11_chance_21 : decode cX11_chance 21 = .ok (.iload_n 3, 1) := by decide +kernel
theorem dX11_chance_22 : decode cX11_chance 22 = .ok (.iconst 1, 1) := by decide +kernel
theorem dX11_chance_23 : decode cX11_chance 23 = .ok (.bipush 6, 2) := by decide +kernel
theorem dX11_chance_25 : decode cX11_chance 25 = .ok (.invokestatic 148, 3) := by decide +kernel
theorem dX11_chance_28 : decode cX11_chance 28 = .ok (.ifCond .eq 14, 3) := by decide +kernel
theorem dX11_chance_31 : decode cX11_chance 31 = .ok (.iload 4, 2) := by decide +kernel
theorem dX11_chance_33 : decode cX11_chance 33 = .ok (.iconst 0, 1) := by decide +kernel
theorem dX11_chance_34 : decode cX11_chance 34 = .ok (.bipush 10, 2) := by decide +kernel
theorem dX11_chance_36 : decode cX11_chance 36 = .ok (.invokestatic 148, 3) := by decide +kernel
theorem dX11_chance_39 : decode cX11_chance 39 = .ok (.ifCond .ne 5, 3) := by decide +kernel
theorem dX11_chance_42 : decode cX11_chance 42 = .ok (.iconst (-1), 1) := by decide +kernel
theorem dX11_chance_43 : decode cX11_chance 43 = .ok (.ireturn, 1) := by decide +kernel
theorem dX11_chance_44 : decode cX11_chance 44 = .ok (.iconst 0, 1) := by decide +kernel
theorem dX11_chance_45 : decode cX11_chance 45 = .ok (.istore 5, 2) := by decide +kernel
theorem dX11_chance_47 : decode cX11_chance 47 = .ok (.iconst 0, 1) := by decide +kernel
theorem dX11_chance_48 : decode cX11_chance 48 = .ok (.istore 6, 2) := by decide +kernel
theorem dX11_chance_50 : decode cX11_chance 50 = .ok (.iload 6, 2) := by decide +kernel
theorem dX11_chance_52 : decode cX11_chance 52 = .ok (.iconst 1, 1) := by decide +kernel
theorem dX11_chance_53 : decode cX11_chance 53 = .ok (.iload_n 3, 1) := by decide +kernel
theorem dX11_chance_54 : decode cX11_chance 54 = .ok (.ishl, 1) := by decide +kernel
theorem dX11_chance_55 : decode cX11_chance 55 = .ok (.if_icmp .ge 43, 3) := by decide +kernel
theorem dX11_chance_58 : decode cX11_chance 58 = .ok (.iload 6, 2) := by decide +kernel
theorem dX11_chance_60 : decode cX11_chance 60 = .ok (.iload_n 3, 1) := by decide +kernel
theorem dX11_chance_61 : decode cX11_chance 61 = .ok (.iload 4, 2) := by decide +kernel
theorem dX11_chance_63 : decode cX11_chance 63 = .ok (.invokestatic 282, 3) := by decide +kernel
theorem dX11_chance_66 : decode cX11_chance 66 = .ok (.istore 7, 2) := by decide +kernel
theorem dX11_chance_68 : decode cX11_chance 68 = .ok (.iload 7, 2) := by decide +kernel
theorem dX11_chance_70 : decode cX11_chance 70 = .ok (.ifCond .le 22, 3) := by decide +kernel
theorem dX11_chance_73 : decode cX11_chance 73 = .ok (.aload_n 0, 1) := by decide +kernel
theorem dX11_chance_74 : decode cX11_chance 74 = .ok (.iload_n 1, 1) := by decide +kernel
theorem dX11_chance_75 : decode cX11_chance 75 = .ok (.iload 6, 2) := by decide +kernel
theorem dX11_chance_77 : decode cX11_chance 77 = .ok (.iload_n 3, 1) := by decide +kernel
theorem dX11_chance_78 : decode cX11_chance 78 = .ok (.invokevirtual 285, 3) := by decide +kernel
theorem dX11_chance_81 : decode cX11_chance 81 = .ok (.iload_n 2, 1) := by decide +kernel
theorem dX11_chance_82 : decode cX11_chance 82 = .ok (.if_icmp .ge 10, 3) := by decide +kernel
theorem dX11_chance_85 : decode cX11_chance 85 = .ok (.iload 5, 2) := by decide +kernel
theorem dX11_chance_87 : decode cX11_chance 87 = .ok (.iload 7, 2) := by decide +kernel
theorem dX11_chance_89 : decode cX11_chance 89 = .ok (.iadd, 1) := by decide +kernel
theorem dX11_chance_90 : decode cX11_chance 90 = .ok (.istore 5, 2) := by decide +kernel
theorem dX11_chance_92 : decode cX11_chance 92 = .ok (.iinc 6 1, 3) := by decide +kernel
theorem dX11_chance_95 : decode cX11_chance 95 = .ok (.goto (-45), 3) := by decide +kernel
theorem dX11_chance_98 : decode cX11_chance 98 = .ok (.iload 5, 2) := by decide +kernel
theorem dX11_chance_100 : decode cX11_chance 100 = .ok (.ireturn, 1) := by decide +kernel
abbrev wd_X11_chance (k : Nat → ClassId) (this : Nat) (this_tape : Nat) (this_history : Nat) (this_seen : Nat) (this_measured : Nat) (this_marks : Nat) (this_standing : Nat) (this_now : Nat) (this_now_state : Nat) (this_now_state_lacks : Nat) (this_now_state_lacks_f : Nat → Int32) (this_now_state_feels : Nat) (this_now_state_feels_f : Nat → Int32) (this_now_state_date : Int32) (this_now_next : Nat) (this_now_town : Nat) (this_now_weighs : Int32) (this_now_rounds : Int32) (this_now_flag : Int32) (this_ahead : Nat) (this_ahead_state : Nat) (this_ahead_state_lacks : Nat) (this_ahead_state_lacks_f : Nat → Int32) (this_ahead_state_feels : Nat) (this_ahead_state_feels_f : Nat → Int32) (this_ahead_state_date : Int32) (this_ahead_next : Nat) (this_ahead_next_f : Nat → Int32) (this_ahead_town : Value) (this_ahead_weighs : Int32) (this_ahead_rounds : Int32) (this_ahead_flag : Int32) (this_here : Nat) (this_here_names : Nat) (this_here_kinds : Nat) (this_here_kinds_f : Nat → Int32) (this_here_begin : Nat) (this_here_law : Nat) (this_here_law_steps : Nat) (this_here_law_steps_f : Nat → Int32) (this_here_law_stack : Nat) (this_here_law_stack_f : Nat → Int32) (this_here_law_size : Int32) (this_here_persons : Int32) (this_here_mast : Int32) (this_here_weighs : Int32) (this_here_rounds : Int32) (this_here_toldOnce : Int32) (this_townDraft : Nat) (this_told : Nat) (this_yearDraft : Nat) (this_drawn : Int64) : va_W := [(this, .inr (9, [.ref this_tape, .ref this_history, .ref this_seen, .ref this_measured, .ref this_marks, .ref this_standing, .ref this_now, .ref this_ahead, .ref this_here, .ref this_townDraft, .ref this_told, .ref this_yearDraft, .long this_drawn])), (this_now, .inr (0, [.ref this_now_state, .ref this_now_next, .ref this_now_town, .int this_now_weighs, .int this_now_rounds, .int this_now_flag])), (this_now_state, .inr (5, [.ref this_now_state_lacks, .ref this_now_state_feels, .int this_now_state_date])), (this_now_state_lacks, .inl (k 0, 6, .inl this_now_state_lacks_f)), (this_now_state_feels, .inl (k 0, 6, .inl this_now_state_feels_f)), (this_ahead, .inr (0, [.ref this_ahead_state, .ref this_ahead_next, this_ahead_town, .int this_ahead_weighs, .int this_ahead_rounds, .int this_ahead_flag])), (this_ahead_state, .inr (5, [.ref this_ahead_state_lacks, .ref this_ahead_state_feels, .int this_ahead_state_date])), (this_ahead_state_lacks, .inl (k 0, 6, .inl this_ahead_state_lacks_f)), (this_ahead_state_feels, .inl (k 0, 6, .inl this_ahead_state_feels_f)), (this_ahead_next, .inl (k 0, 6, .inl this_ahead_next_f)), (this_here, .inr (7, [.ref this_here_names, .ref this_here_kinds, .ref this_here_begin, .ref this_here_law, .int this_here_persons, .int this_here_mast, .int this_here_weighs, .int this_here_rounds, .int this_here_toldOnce])), (this_here_kinds, .inl (k 0, 6, .inl this_here_kinds_f)), (this_here_law, .inr (2, [.ref this_here_law_steps, .ref this_here_law_stack, .int this_here_law_size])), (this_here_law_steps, .inl (k 0, 1000, .inl this_here_law_steps_f)), (this_here_law_stack, .inl (k 0, 21, .inl this_here_law_stack_f))]
set_option maxHeartbeats 4000000 in
set_option maxRecDepth 100000 in
theorem c_X11_chance (l : Launch) (D : va_G) (k : Nat → ClassId) (this : Nat) (this_tape : Nat) (this_history : Nat) (this_seen : Nat) (this_measured : Nat) (this_marks : Nat) (this_standing : Nat) (this_now : Nat) (this_now_state : Nat) (this_now_state_lacks : Nat) (this_now_state_lacks_f : Nat → Int32) (this_now_state_feels : Nat) (this_now_state_feels_f : Nat → Int32) (this_now_state_date : Int32) (this_now_next : Nat) (this_now_town : Nat) (this_now_weighs : Int32) (this_now_rounds : Int32) (this_now_flag : Int32) (this_ahead : Nat) (this_ahead_state : Nat) (this_ahead_state_lacks : Nat) (this_ahead_state_lacks_f : Nat → Int32) (this_ahead_state_feels : Nat) (this_ahead_state_feels_f : Nat → Int32) (this_ahead_state_date : Int32) (this_ahead_next : Nat) (this_ahead_next_f : Nat → Int32) (this_ahead_town : Value) (this_ahead_weighs : Int32) (this_ahead_rounds : Int32) (this_ahead_flag : Int32) (this_here : Nat) (this_here_names : Nat) (this_here_kinds : Nat) (this_here_kinds_f : Nat → Int32) (this_here_begin : Nat) (this_here_law : Nat) (this_here_law_steps : Nat) (this_here_law_steps_f : Nat → Int32) (this_here_law_stack : Nat) (this_here_law_stack_f : Nat → Int32) (this_here_law_size : Int32) (this_here_persons : Int32) (this_here_mast : Int32) (this_here_weighs : Int32) (this_here_rounds : Int32) (this_here_toldOnce : Int32) (this_townDraft : Nat) (this_told : Nat) (this_yearDraft : Nat) (this_drawn : Int64) (person : Int32) (height : Int32) (days : Int32) (odds : Int32) (R0 : Int32 × Value × Int32 × Int32 × Int32 × Int32 × (Nat → Int32) × (Nat → Int32) × (Nat → Int32) × (Nat → Int32)) (hm : m_X11_chance this_now_state_lacks_f this_now_state_feels_f this_now_state_date this_ahead_state_lacks_f this_ahead_state_feels_f this_ahead_state_date this_ahead_next_f this_ahead_town this_ahead_weighs this_ahead_rounds this_ahead_flag this_here this_here_kinds_f this_here_law_steps_f this_here_law_stack_f this_here_law_size this_here_persons this_here_mast this_here_weighs this_here_rounds person height days odds = some R0) : CW l D (TY k) yX11_chance cX11_chance 8 (some .int) 7 156 [.ref this, .int person, .int height, .int days, .int odds] (wd_X11_chance k this this_tape this_history this_seen this_measured this_marks this_standing this_now this_now_state this_now_state_lacks this_now_state_lacks_f this_now_state_feels this_now_state_feels_f this_now_state_date this_now_next this_now_town this_now_weighs this_now_rounds this_now_flag this_ahead this_ahead_state this_ahead_state_lacks this_ahead_state_lacks_f this_ahead_state_feels this_ahead_state_feels_f this_ahead_state_date this_ahead_next this_ahead_next_f this_ahead_town this_ahead_weighs this_ahead_rounds this_ahead_flag this_here this_here_names this_here_kinds this_here_kinds_f this_here_begin this_here_law this_here_law_steps this_here_law_steps_f this_here_law_stack this_here_law_stack_f this_here_law_size this_here_persons this_here_mast this_here_weighs this_here_rounds this_here_toldOnce this_townDraft this_told this_yearDraft this_drawn) (some (.int R0.1)) (wd_X11_chance k this this_tape this_history this_seen this_measured this_marks this_standing this_now this_now_state this_now_state_lacks this_now_state_lacks_f this_now_state_feels this_now_state_feels_f this_now_state_date this_now_next this_now_town this_now_weighs this_now_rounds this_now_flag this_ahead this_ahead_state this_ahead_state_lacks R0.2.2.2.2.2.2.1 this_ahead_state_feels R0.2.2.2.2.2.2.2.1 R0.2.2.2.2.2.1 this_ahead_next R0.2.2.2.2.2.2.2.2.1 R0.2.1 R0.2.2.1 R0.2.2.2.1 R0.2.2.2.2.1 this_here this_here_names this_here_kinds this_here_kinds_f this_here_begin this_here_law this_here_law_steps this_here_law_steps_f this_here_law_stack R0.2.2.2.2.2.2.2.2.2 this_here_law_size this_here_persons this_here_mast this_here_weighs this_here_rounds this_here_toldOnce this_townDraft this_told this_yearDraft this_drawn) := by
  refine CW.mk (by decide) (Nat.le_of_ble_eq_true rfl) ?_
  intro p e s m args below meth c ls A ⟨hx, hb, hr, hts, hown, hlocks, hml⟩ hP hG hD hA hl hS hq
  have hl : lv_has ls 8 [(0, .ref this), (1, .int person), (2, .int height), (3, .int days), (4, .int odds)] := hl
  have h_50 : ∀ (n : Nat), ∀ (x5 : Int32) (x6 : Int32) (u_this_ahead_town : Value) (u_this_ahead_weighs : Int32) (u_this_ahead_rounds : Int32) (u_this_ahead_flag : Int32) (u_this_ahead_state_date : Int32) (u_this_ahead_state_lacks_f : Nat → Int32) (u_this_ahead_state_feels_f : Nat → Int32) (u_this_ahead_next_f : Nat → Int32) (u_this_here_law_stack_f : Nat → Int32) (H : Heap) (locs : List Loc) (ls : Array Slot), va_P D vwCl (wd_X11_chance k this this_tape this_history this_seen this_measured this_marks this_standing this_now this_now_state this_now_state_lacks this_now_state_lacks_f this_now_state_feels this_now_state_feels_f this_now_state_date this_now_next this_now_town this_now_weighs this_now_rounds this_now_flag this_ahead this_ahead_state this_ahead_state_lacks u_this_ahead_state_lacks_f this_ahead_state_feels u_this_ahead_state_feels_f u_this_ahead_state_date this_ahead_next u_this_ahead_next_f u_this_ahead_town u_this_ahead_weighs u_this_ahead_rounds u_this_ahead_flag this_here this_here_names this_here_kinds this_here_kinds_f this_here_begin this_here_law this_here_law_steps this_here_law_steps_f this_here_law_stack u_this_here_law_stack_f this_here_law_size this_here_persons this_here_mast this_here_weighs this_here_rounds this_here_toldOnce this_townDraft this_told this_yearDraft this_drawn) H → va_D A (wd_X11_chance k this this_tape this_history this_seen this_measured this_marks this_standing this_now this_now_state this_now_state_lacks this_now_state_lacks_f this_now_state_feels this_now_state_feels_f this_now_state_date this_now_next this_now_town this_now_weighs this_now_rounds this_now_flag this_ahead this_ahead_state this_ahead_state_lacks u_this_ahead_state_lacks_f this_ahead_state_feels u_this_ahead_state_feels_f u_this_ahead_state_date this_ahead_next u_this_ahead_next_f u_this_ahead_town u_this_ahead_weighs u_this_ahead_rounds u_this_ahead_flag this_here this_here_names this_here_kinds this_here_kinds_f this_here_begin this_here_law this_here_law_steps this_here_law_steps_f this_here_law_stack u_this_here_law_stack_f this_here_law_size this_here_persons this_here_mast this_here_weighs this_here_rounds this_here_toldOnce this_townDraft this_told this_yearDraft this_drawn) → va_S A s.heap H locs → lv_has ls 8 [(0, .ref this), (1, .int person), (2, .int height), (3, .int days), (4, .int odds), (5, .int x5), (6, .int x6)] → m_X11_chance_50 this_now_state_lacks_f this_now_state_feels_f this_now_state_date this_here this_here_kinds_f this_here_law_steps_f this_here_law_size this_here_persons this_here_mast this_here_weighs this_here_rounds person height days odds n x5 x6 u_this_ahead_town u_this_ahead_weighs u_this_ahead_rounds u_this_ahead_flag u_this_ahead_state_date u_this_ahead_state_lacks_f u_this_ahead_state_feels_f u_this_ahead_next_f u_this_here_law_stack_f = some R0 → W p l e (Rm 7 156) s m args below meth c H locs 0 0 (MQ below (QW D (some (.int R0.1)) (wd_X11_chance k this this_tape this_history this_seen this_measured this_marks this_standing this_now this_now_state this_now_state_lacks this_now_state_lacks_f this_now_state_feels this_now_state_feels_f this_now_state_date this_now_next this_now_town this_now_weighs this_now_rounds this_now_flag this_ahead this_ahead_state this_ahead_state_lacks this_ahead_state_lacks_f this_ahead_state_feels this_ahead_state_feels_f this_ahead_state_date this_ahead_next this_ahead_next_f this_ahead_town this_ahead_weighs this_ahead_rounds this_ahead_flag this_here this_here_names this_here_kinds this_here_kinds_f this_here_begin this_here_law this_here_law_steps this_here_law_steps_f this_here_law_stack this_here_law_stack_f this_here_law_size this_here_persons this_here_mast this_here_weighs this_here_rounds this_here_toldOnce this_townDraft this_told this_yearDraft this_drawn) (wd_X11_chance k this this_tape this_history this_seen this_measured this_marks this_standing this_now this_now_state this_now_state_lacks this_now_state_lacks_f this_now_state_feels this_now_state_feels_f this_now_state_date this_now_next this_now_town this_now_weighs this_now_rounds this_now_flag this_ahead this_ahead_state this_ahead_state_lacks R0.2.2.2.2.2.2.1 this_ahead_state_feels R0.2.2.2.2.2.2.2.1 R0.2.2.2.2.2.1 this_ahead_next R0.2.2.2.2.2.2.2.2.1 R0.2.1 R0.2.2.1 R0.2.2.2.1 R0.2.2.2.2.1 this_here this_here_names this_here_kinds this_here_kinds_f this_here_begin this_here_law this_here_law_steps this_here_law_steps_f this_here_law_stack R0.2.2.2.2.2.2.2.2.2 this_here_law_size this_here_persons this_here_mast this_here_weighs this_here_rounds this_here_toldOnce this_townDraft this_told this_yearDraft this_drawn) s.heap.size) args s 0 0 A) (F0 m 50 ls []) := by
    intro n
    induction n with
    | zero => intro x5 x6 u_this_ahead_town u_this_ahead_weighs u_this_ahead_rounds u_this_ahead_flag u_this_ahead_state_date u_this_ahead_state_lacks_f u_this_ahead_state_feels_f u_this_ahead_next_f u_this_here_law_stack_f H locs ls hP hD hS hl hm; cases hm
    | succ n ih =>
      intro x5 x6 u_this_ahead_town u_this_ahead_weighs u_this_ahead_rounds u_this_ahead_flag u_this_ahead_state_date u_this_ahead_state_lacks_f u_this_ahead_state_feels_f u_this_ahead_next_f u_this_here_law_stack_f H locs ls hP hD hS hl hm
      unfold m_X11_chance_50 at hm
      refine lv_iload (pc := 50) hx hb dX11_chance_50 (lv_at hl 6 rfl) ?_
      refine lv_iconst (v := 1) (pc := 52) hx hb dX11_chance_52 (by decide) ?_
      refine lv_iload_n (pc := 53) hx hb dX11_chance_53 rfl (lv_at hl 3 rfl) ?_
      refine lv_ishl (pc := 54) hx hb dX11_chance_54 ?_
      refine lv_icmp_ge (tgt := 98) (pc := 55) hx hb dX11_chance_55 (by decide) (fun hc => ?_) (fun hc => ?_)
      · rw [if_pos hc] at hm
        refine lv_iload (pc := 98) hx hb dX11_chance_98 (lv_at hl 5 rfl) ?_
        rw [← Option.some.inj hm]
        exact W.iret hx hb hr (fun t ht _ => hq _ _ H t ht hP hD locs hS) hS.2.2 dX11_chance_100 hlocks
      · rw [if_neg hc] at hm
        refine lv_iload (pc := 58) hx hb dX11_chance_58 (lv_at hl 6 rfl) ?_
        refine lv_iload_n (pc := 60) hx hb dX11_chance_60 rfl (lv_at hl 3 rfl) ?_
        refine lv_iload (pc := 61) hx hb dX11_chance_61 (lv_at hl 4 rfl) ?_
        obtain ⟨r7, hcl, hm⟩ := bd hm
        refine cr_back (run_S (pc := 63) (n := 3) (As := [.int x6, .int days, .int odds]) (rest := []) ⟨hx, hb, hml, hown, hts⟩ (c_X11_likelihood l D k x6 days odds r7 hcl) ⟨kw_1061, kw_1, by decide +kernel⟩ kw_1059 kw_1060 ⟨Nat.le_of_ble_eq_true rfl, Nat.le_of_ble_eq_true rfl⟩ pr_blind (prR (hP.sub [] rfl) hG) rfl hl.1 rfl (Nat.le_of_ble_eq_true rfl) dX11_chance_63 ⟨Nat.zero_le _, Nat.zero_le _⟩) ?_
        refine lv_istore (lv' := [(7, .int r7), (0, .ref this), (1, .int person), (2, .int height), (3, .int days), (4, .int odds), (5, .int x5), (6, .int x6)]) (pc := 66) hx hb dX11_chance_66 hl (Nat.le_of_ble_eq_true rfl) rfl (fun ls hl => ?_)
        refine lv_iload (pc := 68) hx hb dX11_chance_68 (lv_at hl 0 rfl) ?_
        refine lv_if_le (tgt := 92) (pc := 70) hx hb dX11_chance_70 (by decide) (fun hc => ?_) (fun hc => ?_)
        · rw [if_pos hc] at hm
          refine lv_iinc (k := 7) (v := x6 + 1) (lv' := [(6, .int (x6 + 1)), (7, .int r7), (0, .ref this), (1, .int person), (2, .int height), (3, .int days), (4, .int odds), (5, .int x5)]) (pc := 92) hx hb dX11_chance_92 hl rfl rfl (Nat.le_of_ble_eq_true rfl) rfl (fun ls hl => ?_)
          refine lv_goto (tgt := 50) (pc := 95) hx hb dX11_chance_95 (by decide) ?_
          exact ih x5 (x6 + 1) u_this_ahead_town u_this_ahead_weighs u_this_ahead_rounds u_this_ahead_flag u_this_ahead_state_date u_this_ahead_state_lacks_f u_this_ahead_state_feels_f u_this_ahead_next_f u_this_here_law_stack_f H locs ls hP hD hS (lv_sub hl [2, 3, 4, 5, 6, 7, 0] rfl) hm
        · rw [if_neg hc] at hm
          refine lv_aload_n (pc := 73) hx hb dX11_chance_73 rfl (lv_at hl 1 rfl) ?_
          refine lv_iload_n (pc := 74) hx hb dX11_chance_74 rfl (lv_at hl 2 rfl) ?_
          refine lv_iload (pc := 75) hx hb dX11_chance_75 (lv_at hl 7 rfl) ?_
          refine lv_iload_n (pc := 77) hx hb dX11_chance_77 rfl (lv_at hl 4 rfl) ?_
          obtain ⟨r8, hcl, hm⟩ := bd hm
          refine cw_mask (ws' := (wd_X11_chance k this this_tape this_history this_seen this_measured this_marks this_standing this_now this_now_state this_now_state_lacks this_now_state_lacks_f this_now_state_feels this_now_state_feels_f this_now_state_date this_now_next this_now_town this_now_weighs this_now_rounds this_now_flag this_ahead this_ahead_state this_ahead_state_lacks r8.2.2.2.2.2.1 this_ahead_state_feels r8.2.2.2.2.2.2.1 r8.2.2.2.2.1 this_ahead_next r8.2.2.2.2.2.2.2.1 (.ref this_here) r8.2.1 r8.2.2.1 r8.2.2.2.1 this_here this_here_names this_here_kinds this_here_kinds_f this_here_begin this_here_law this_here_law_steps this_here_law_steps_f this_here_law_stack r8.2.2.2.2.2.2.2.2 this_here_law_size this_here_persons this_here_mast this_here_weighs this_here_rounds this_here_toldOnce this_townDraft this_told this_yearDraft this_drawn)) (run_V (pc := 78) (n := 3) (As := [.int person, .int x6, .int days]) (rest := []) ⟨hx, hb, hml, hown, hts⟩ ((c_X11_flagByTeeth l D k this this_tape this_history this_seen this_measured this_marks this_standing this_now this_now_state this_now_state_lacks this_now_state_lacks_f this_now_state_feels this_now_state_feels_f this_now_state_date this_now_next this_now_town this_now_weighs this_now_rounds this_now_flag this_ahead this_ahead_state this_ahead_state_lacks u_this_ahead_state_lacks_f this_ahead_state_feels u_this_ahead_state_feels_f u_this_ahead_state_date this_ahead_next u_this_ahead_next_f u_this_ahead_town u_this_ahead_weighs u_this_ahead_rounds u_this_ahead_flag this_here this_here_names this_here_kinds this_here_kinds_f this_here_begin this_here_law this_here_law_steps this_here_law_steps_f this_here_law_stack u_this_here_law_stack_f this_here_law_size this_here_persons this_here_mast this_here_weighs this_here_rounds this_here_toldOnce this_townDraft this_told this_yearDraft this_drawn person x6 days r8 hcl) H.size) ⟨kw_1066, kw_1, by decide +kernel⟩ kw_1063 kw_1065 ks_84 ⟨Nat.le_of_ble_eq_true rfl, Nat.le_of_ble_eq_true rfl⟩ pw_blind (prW (P_pick [true, true, true, true, true, true, true, true, true, true, true, true, true, true, true] rfl hP) hG (D_pick [true, true, true, true, true, true, true, true, true, true, true, true, true, true, true] rfl hD)) (va_recv hG.1 hP (ci := 9) (q0 := 0) rfl rfl) rfl hl.1 rfl (Nat.le_of_ble_eq_true rfl) dX11_chance_78 ⟨Nat.zero_le _, Nat.zero_le _⟩) hP hD hS hA [true, true, true, true, true, true, true, true, true, true, true, true, true, true, true] rfl rfl rfl (fun H locs hP hD hS => ?_)
          refine lv_iload_n (pc := 81) hx hb dX11_chance_81 rfl (lv_at hl 3 rfl) ?_
          refine lv_icmp_ge (tgt := 92) (pc := 82) hx hb dX11_chance_82 (by decide) (fun hc => ?_) (fun hc => ?_)
          · rw [if_pos hc] at hm
            refine lv_iinc (k := 7) (v := x6 + 1) (lv' := [(6, .int (x6 + 1)), (7, .int r7), (0, .ref this), (1, .int person), (2, .int height), (3, .int days), (4, .int odds), (5, .int x5)]) (pc := 92) hx hb dX11_chance_92 hl rfl rfl (Nat.le_of_ble_eq_true rfl) rfl (fun ls hl => ?_)
            refine lv_goto (tgt := 50) (pc := 95) hx hb dX11_chance_95 (by decide) ?_
            exact ih x5 (x6 + 1) (.ref this_here) r8.2.1 r8.2.2.1 r8.2.2.2.1 r8.2.2.2.2.1 r8.2.2.2.2.2.1 r8.2.2.2.2.2.2.1 r8.2.2.2.2.2.2.2.1 r8.2.2.2.2.2.2.2.2 H locs ls hP hD hS (lv_sub hl [2, 3, 4, 5, 6, 7, 0] rfl) hm
          · rw [if_neg hc] at hm
            refine lv_iload (pc := 85) hx hb dX11_chance_85 (lv_at hl 6 rfl) ?_
            refine lv_iload (pc := 87) hx hb dX11_chance_87 (lv_at hl 0 rfl) ?_
            refine lv_iadd (pc := 89) hx hb dX11_chance_89 ?_
            refine lv_istore (lv' := [(5, .int (x5 + r7)), (7, .int r7), (0, .ref this), (1, .int person), (2, .int height), (3, .int days), (4, .int odds), (6, .int x6)]) (pc := 90) hx hb dX11_chance_90 hl (Nat.le_of_ble_eq_true rfl) rfl (fun ls hl => ?_)
            refine lv_iinc (k := 7) (v := x6 + 1) (lv' := [(6, .int (x6 + 1)), (5, .int (x5 + r7)), (7, .int r7), (0, .ref this), (1, .int person), (2, .int height), (3, .int days), (4, .int odds)]) (pc := 92) hx hb dX11_chance_92 hl rfl rfl (Nat.le_of_ble_eq_true rfl) rfl (fun ls hl => ?_)
            refine lv_goto (tgt := 50) (pc := 95) hx hb dX11_chance_95 (by decide) ?_
            exact ih (x5 + r7) (x6 + 1) (.ref this_here) r8.2.1 r8.2.2.1 r8.2.2.2.1 r8.2.2.2.2.1 r8.2.2.2.2.2.1 r8.2.2.2.2.2.2.1 r8.2.2.2.2.2.2.2.1 r8.2.2.2.2.2.2.2.2 H locs ls hP hD hS (lv_sub hl [3, 4, 5, 6, 7, 1, 0] rfl) hm
  unfold m_X11_chance at hm
  suffices hgo : ∀ (H : Heap) (locs : List Loc), va_P D vwCl (wd_X11_chance k this this_tape this_history this_seen this_measured this_marks this_standing this_now this_now_state this_now_state_lacks this_now_state_lacks_f this_now_state_feels this_now_state_feels_f this_now_state_date this_now_next this_now_town this_now_weighs this_now_rounds this_now_flag this_ahead this_ahead_state this_ahead_state_lacks this_ahead_state_lacks_f this_ahead_state_feels this_ahead_state_feels_f this_ahead_state_date this_ahead_next this_ahead_next_f this_ahead_town this_ahead_weighs this_ahead_rounds this_ahead_flag this_here this_here_names this_here_kinds this_here_kinds_f this_here_begin this_here_law this_here_law_steps this_here_law_steps_f this_here_law_stack this_here_law_stack_f this_here_law_size this_here_persons this_here_mast this_here_weighs this_here_rounds this_here_toldOnce this_townDraft this_told this_yearDraft this_drawn) H → va_D A (wd_X11_chance k this this_tape this_history this_seen this_measured this_marks this_standing this_now this_now_state this_now_state_lacks this_now_state_lacks_f this_now_state_feels this_now_state_feels_f this_now_state_date this_now_next this_now_town this_now_weighs this_now_rounds this_now_flag this_ahead this_ahead_state this_ahead_state_lacks this_ahead_state_lacks_f this_ahead_state_feels this_ahead_state_feels_f this_ahead_state_date this_ahead_next this_ahead_next_f this_ahead_town this_ahead_weighs this_ahead_rounds this_ahead_flag this_here this_here_names this_here_kinds this_here_kinds_f this_here_begin this_here_law this_here_law_steps this_here_law_steps_f this_here_law_stack this_here_law_stack_f this_here_law_size this_here_persons this_here_mast this_here_weighs this_here_rounds this_here_toldOnce this_townDraft this_told this_yearDraft this_drawn) → va_S A s.heap H locs → W p l e (Rm 7 156) s m args below meth c H locs 0 0 (MQ below (QW D (some (.int R0.1)) (wd_X11_chance k this this_tape this_history this_seen this_measured this_marks this_standing this_now this_now_state this_now_state_lacks this_now_state_lacks_f this_now_state_feels this_now_state_feels_f this_now_state_date this_now_next this_now_town this_now_weighs this_now_rounds this_now_flag this_ahead this_ahead_state this_ahead_state_lacks this_ahead_state_lacks_f this_ahead_state_feels this_ahead_state_feels_f this_ahead_state_date this_ahead_next this_ahead_next_f this_ahead_town this_ahead_weighs this_ahead_rounds this_ahead_flag this_here this_here_names this_here_kinds this_here_kinds_f this_here_begin this_here_law this_here_law_steps this_here_law_steps_f this_here_law_stack this_here_law_stack_f this_here_law_size this_here_persons this_here_mast this_here_weighs this_here_rounds this_here_toldOnce this_townDraft this_told this_yearDraft this_drawn) (wd_X11_chance k this this_tape this_history this_seen this_measured this_marks this_standing this_now this_now_state this_now_state_lacks this_now_state_lacks_f this_now_state_feels this_now_state_feels_f this_now_state_date this_now_next this_now_town this_now_weighs this_now_rounds this_now_flag this_ahead this_ahead_state this_ahead_state_lacks R0.2.2.2.2.2.2.1 this_ahead_state_feels R0.2.2.2.2.2.2.2.1 R0.2.2.2.2.2.1 this_ahead_next R0.2.2.2.2.2.2.2.2.1 R0.2.1 R0.2.2.1 R0.2.2.2.1 R0.2.2.2.2.1 this_here this_here_names this_here_kinds this_here_kinds_f this_here_begin this_here_law this_here_law_steps this_here_law_steps_f this_here_law_stack R0.2.2.2.2.2.2.2.2.2 this_here_law_size this_here_persons this_here_mast this_here_weighs this_here_rounds this_here_toldOnce this_townDraft this_told this_yearDraft this_drawn) s.heap.size) args s 0 0 A) (F0 m 0 ls []) from hgo _ _ hP hD hS
  clear hP hD hS
  intro H locs hP hD hS
  refine lv_aload_n (pc := 0) hx hb dX11_chance_0 rfl (lv_at hl 0 rfl) ?_
  refine va_get (pc := 1) (D := D) (ci := 9) (C := RX11) (T := TX11) (N := 13) hx hb hts hiX11 hown hG.1 hP 0 rfl rfl 8 (Nat.le_of_ble_eq_true rfl) (hts _ kw_352) (fun _ h9 => h9) rfl dX11_chance_1 ?_
  refine lv_iload_n (pc := 4) hx hb dX11_chance_4 rfl (lv_at hl 1 rfl) ?_
  obtain ⟨r9, hcl, hm⟩ := bd hm
  refine cr_back (run_VN (pc := 5) (n := 1) (As := [.int person]) (rest := []) ⟨hx, hb, hml, hown, hts⟩ (c_X8_has l D k this_here this_here_names this_here_kinds this_here_begin this_here_law this_here_persons this_here_mast this_here_weighs this_here_rounds this_here_toldOnce person r9 hcl) ⟨kw_743, kw_9, by decide +kernel⟩ hG kn_740 kw_742 ks_53 ⟨Nat.le_of_ble_eq_true rfl, Nat.le_of_ble_eq_true rfl⟩ pr_blind (prR (hP.sub [10] rfl) hG) (va_recv hG.1 hP (ci := 7) (q0 := 10) rfl rfl) rfl hl.1 rfl (Nat.le_of_ble_eq_true rfl) dX11_chance_5 ⟨Nat.zero_le _, Nat.zero_le _⟩) ?_
  refine lv_if_eq (tgt := 42) (pc := 8) hx hb dX11_chance_8 (by decide) (fun hc => ?_) (fun hc => ?_)
  · rw [if_pos hc] at hm
    refine lv_iconst (v := (-1)) (pc := 42) hx hb dX11_chance_42 (by decide) ?_
    rw [← Option.some.inj hm]
    exact W.iret hx hb hr (fun t ht _ => hq _ _ H t ht hP hD locs hS) hS.2.2 dX11_chance_43 hlocks
  · rw [if_neg hc] at hm
    refine lv_iload_n (pc := 11) hx hb dX11_chance_11 rfl (lv_at hl 2 rfl) ?_
    refine lv_iconst (v := 1) (pc := 12) hx hb dX11_chance_12 (by decide) ?_
    refine lv_bipush (v := 99) (pc := 13) hx hb dX11_chance_13 (by decide) ?_
    obtain ⟨r10, hcl, hm⟩ := bd hm
    refine cr_back (run_S (pc := 15) (n := 3) (As := [.int height, .int 1, .int 99]) (rest := []) ⟨hx, hb, hml, hown, hts⟩ (c_X11_within l D k height 1 99 r10 hcl) ⟨kw_394, kw_1, by decide +kernel⟩ kw_759 kw_393 ⟨Nat.le_of_ble_eq_true rfl, Nat.le_of_ble_eq_true rfl⟩ pr_blind (prR (hP.sub [] rfl) hG) rfl hl.1 rfl (Nat.le_of_ble_eq_true rfl) dX11_chance_15 ⟨Nat.zero_le _, Nat.zero_le _⟩) ?_
    refine lv_if_eq (tgt := 42) (pc := 18) hx hb dX11_chance_18 (by decide) (fun hc => ?_) (fun hc => ?_)
    · rw [if_pos hc] at hm
      refine lv_iconst (v := (-1)) (pc := 42) hx hb dX11_chance_42 (by decide) ?_
      rw [← Option.some.inj hm]
      exact W.iret hx hb hr (fun t ht _ => hq _ _ H t ht hP hD locs hS) hS.2.2 dX11_chance_43 hlocks
    · rw [if_neg hc] at hm
      refine lv_iload_n (pc := 21) hx hb dX11_chance_21 rfl (lv_at hl 3 rfl) ?_
      refine lv_iconst (v := 1) (pc := 22) hx hb dX11_chance_22 (by decide) ?_
      refine lv_bipush (v := 6) (pc := 23) hx hb dX11_chance_23 (by decide) ?_
      obtain ⟨r11, hcl, hm⟩ := bd hm
      refine cr_back (run_S (pc := 25) (n := 3) (As := [.int days, .int 1, .int 6]) (rest := []) ⟨hx, hb, hml, hown, hts⟩ (c_X11_within l D k days 1 6 r11 hcl) ⟨kw_394, kw_1, by decide +kernel⟩ kw_759 kw_393 ⟨Nat.le_of_ble_eq_true rfl, Nat.le_of_ble_eq_true rfl⟩ pr_blind (prR (hP.sub [] rfl) hG) rfl hl.1 rfl (Nat.le_of_ble_eq_true rfl) dX11_chance_25 ⟨Nat.zero_le _, Nat.zero_le _⟩) ?_
      refine lv_if_eq (tgt := 42) (pc := 28) hx hb dX11_chance_28 (by decide) (fun hc => ?_) (fun hc => ?_)
      · rw [if_pos hc] at hm
        refine lv_iconst (v := (-1)) (pc := 42) hx hb dX11_chance_42 (by decide) ?_
        rw [← Option.some.inj hm]
        exact W.iret hx hb hr (fun t ht _ => hq _ _ H t ht hP hD locs hS) hS.2.2 dX11_chance_43 hlocks
      · rw [if_neg hc] at hm
        refine lv_iload (pc := 31) hx hb dX11_chance_31 (lv_at hl 4 rfl) ?_
        refine lv_iconst (v := 0) (pc := 33) hx hb dX11_chance_33 (by decide) ?_
        refine lv_bipush (v := 10) (pc := 34) hx hb dX11_chance_34 (by decide) ?_
        obtain ⟨r12, hcl, hm⟩ := bd hm
        refine cr_back (run_S (pc := 36) (n := 3) (As := [.int odds, .int 0, .int 10]) (rest := []) ⟨hx, hb, hml, hown, hts⟩ (c_X11_within l D k odds 0 10 r12 hcl) ⟨kw_394, kw_1, by decide +kernel⟩ kw_759 kw_393 ⟨Nat.le_of_ble_eq_true rfl, Nat.le_of_ble_eq_true rfl⟩ pr_blind (prR (hP.sub [] rfl) hG) rfl hl.1 rfl (Nat.le_of_ble_eq_true rfl) dX11_chance_36 ⟨Nat.zero_le _, Nat.zero_le _⟩) ?_
        refine lv_if_ne (tgt := 44) (pc := 39) hx hb dX11_chance_39 (by decide) (fun hc => ?_) (fun hc => ?_)
        · rw [if_neg hc] at hm
          refine lv_iconst (v := 0) (pc := 44) hx hb dX11_chance_44 (by decide) ?_
          refine lv_istore (lv' := [(5, .int 0), (0, .ref this), (1, .int person), (2, .int height), (3, .int days), (4, .int odds)]) (pc := 45) hx hb dX11_chance_45 hl (Nat.le_of_ble_eq_true rfl) rfl (fun ls hl => ?_)
          refine lv_iconst (v := 0) (pc := 47) hx hb dX11_chance_47 (by decide) ?_
          refine lv_istore (lv' := [(6, .int 0), (5, .int 0), (0, .ref this), (1, .int person), (2, .int height), (3, .int days), (4, .int odds)]) (pc := 48) hx hb dX11_chance_48 hl (Nat.le_of_ble_eq_true rfl) rfl (fun ls hl => ?_)
          exact h_50 FU 0 0 this_ahead_town this_ahead_weighs this_ahead_rounds this_ahead_flag this_ahead_state_date this_ahead_state_lacks_f this_ahead_state_feels_f this_ahead_next_f this_here_law_stack_f H locs ls hP hD hS (lv_sub hl [2, 3, 4, 5, 6, 1, 0] rfl) hm
        · rw [if_pos hc] at hm
          refine lv_iconst (v := (-1)) (pc := 42) hx hb dX11_chance_42 (by decide) ?_
          rw [← Option.some.inj hm]
          exact W.iret hx hb hr (fun t ht _ => hq _ _ H t ht hP hD locs hS) hS.2.2 dX11_chance_43 hlocks
theorem dX11_gain_0 : decode cX11_gain 0 = .ok (.iload_n 0, 1) := by decide +kernel
theorem dX11_gain_1 : decode cX11_gain 1 = .ok (.ifCond .eq 14, 3) := by decide +kernel
theorem dX11_gain_4 : decode cX11_gain 4 = .ok (.iload_n 1, 1) := by decide +kernel
theorem dX11_gain_5 : decode cX11_gain 5 = .ok (.ifCond .eq 7, 3) := by decide +kernel
theorem dX11_gain_8 : decode cX11_gain 8 = .ok (.iload_n 2, 1) := by decide +kernel
theorem dX11_gain_9 : decode cX11_gain 9 = .ok (.goto 5, 3) := by decide +kernel
theorem dX11_gain_12 : decode cX11_gain 12 = .ok (.iload_n 3, 1) := by decide +kernel
theorem dX11_gain_13 : decode cX11_gain 13 = .ok (.ineg, 1) := by decide +kernel
theorem dX11_gain_14 : decode cX11_gain 14 = .ok (.ireturn, 1) := by decide +kernel
theorem dX11_gain_15 : decode cX11_gain 15 = .ok (.iload_n 1, 1) := by decide +kernel
theorem dX11_gain_16 : decode cX11_gain 16 = .ok (.ifCond .eq 8, 3) := by decide +kernel
theorem dX11_gain_19 : decode cX11_gain 19 = .ok (.iload 4, 2) := by decide +kernel
theorem dX11_gain_21 : decode cX11_gain 21 = .ok (.goto 4, 3) := by decide +kernel
theorem dX11_gain_24 : decode cX11_gain 24 = .ok (.iconst 0, 1) := by decide +kernel
theorem dX11_gain_25 : decode cX11_gain 25 = .ok (.ireturn, 1) := by decide +kernel
abbrev wd_X11_gain (k : Nat → ClassId) : va_W := []
set_option maxHeartbeats 4000000 in
set_option maxRecDepth 100000 in
theorem c_X11_gain (l : Launch) (D : va_G) (k : Nat → ClassId) (hauls : Int32) (otherHauls : Int32) (both : Int32) (loses : Int32) (gets : Int32) (R0 : Int32) (hm : m_X11_gain hauls otherHauls both loses gets = some R0) : CR l D (TY k) yX11_gain cX11_gain 5 (some .int) 0 0 [.int hauls, .int otherHauls, .int both, .int loses, .int gets] (wd_X11_gain k ) (some (.int R0)) := by
  refine CR.mk (by decide) (Nat.le_of_ble_eq_true rfl) ?_
  intro p e s m args below meth c ls ⟨hx, hb, hr, hts, hown, hlocks, hml⟩ hP hG hl
  have hl : lv_has ls 5 [(0, .int hauls), (1, .int otherHauls), (2, .int both), (3, .int loses), (4, .int gets)] := hl
  unfold m_X11_gain at hm
  refine lv_iload_n (pc := 0) hx hb dX11_gain_0 rfl (lv_at hl 0 rfl) ?_
  refine lv_if_eq (tgt := 15) (pc := 1) hx hb dX11_gain_1 (by decide) (fun hc => ?_) (fun hc => ?_)
  · rw [if_pos hc] at hm
    refine lv_iload_n (pc := 15) hx hb dX11_gain_15 rfl (lv_at hl 1 rfl) ?_
    refine lv_if_eq (tgt := 24) (pc := 16) hx hb dX11_gain_16 (by decide) (fun hc => ?_) (fun hc => ?_)
    · rw [if_pos hc] at hm
      refine lv_iconst (v := 0) (pc := 24) hx hb dX11_gain_24 (by decide) ?_
      rw [← Option.some.inj hm]
      exact W.iret hx hb hr (fun t ht _ => ⟨rfl, ht⟩) (fun _ h => by cases h) dX11_gain_25 hlocks
    · rw [if_neg hc] at hm
      refine lv_iload (pc := 19) hx hb dX11_gain_19 (lv_at hl 4 rfl) ?_
      refine lv_goto (tgt := 25) (pc := 21) hx hb dX11_gain_21 (by decide) ?_
      rw [← Option.some.inj hm]
      exact W.iret hx hb hr (fun t ht _ => ⟨rfl, ht⟩) (fun _ h => by cases h) dX11_gain_25 hlocks
  · rw [if_neg hc] at hm
    refine lv_iload_n (pc := 4) hx hb dX11_gain_4 rfl (lv_at hl 1 rfl) ?_
    refine lv_if_eq (tgt := 12) (pc := 5) hx hb dX11_gain_5 (by decide) (fun hc => ?_) (fun hc => ?_)
    · rw [if_pos hc] at hm
      refine lv_iload_n (pc := 12) hx hb dX11_gain_12 rfl (lv_at hl 3 rfl) ?_
      refine lv_ineg (pc := 13) hx hb dX11_gain_13 ?_
      rw [← Option.some.inj hm]
      exact W.iret hx hb hr (fun t ht _ => ⟨rfl, ht⟩) (fun _ h => by cases h) dX11_gain_14 hlocks
    · rw [if_neg hc] at hm
      refine lv_iload_n (pc := 8) hx hb dX11_gain_8 rfl (lv_at hl 2 rfl) ?_
      refine lv_goto (tgt := 14) (pc := 9) hx hb dX11_gain_9 (by decide) ?_
      rw [← Option.some.inj hm]
      exact W.iret hx hb hr (fun t ht _ => ⟨rfl, ht⟩) (fun _ h => by cases h) dX11_gain_14 hlocks
theorem dX11_isRest_0 : decode cX11_isRest 0 = .ok (.iload_n 0, 1) := by decide +kernel
theorem dX11_isRest_1 : decode cX11_isRest 1 = .ok (.iconst 2, 1) := by decide +kernel
theorem dX11_isRest_2 : decode cX11_isRest 2 = .ok (.if_icmp .lt 7, 3) := by decide +kernel
theorem dX11_isRest_5 : decode cX11_isRest 5 = .ok (.iconst 1, 1) := by decide +kernel
theorem dX11_isRest_6 : decode cX11_isRest 6 = .ok (.goto 4, 3) := by decide +kernel
theorem dX11_isRest_9 : decode cX11_isRest 9 = .ok (.iconst 0, 1) := by decide +kernel
theorem dX11_isRest_10 : decode cX11_isRest 10 = .ok (.istore 4, 2) := by decide +kernel
theorem dX11_isRest_12 : decode cX11_isRest 12 = .ok (.iload_n 0, 1) := by decide +kernel
theorem dX11_isRest_13 : decode cX11_isRest 13 = .ok (.iconst 2, 1) := by decide +kernel
theorem dX11_isRest_14 : decode cX11_isRest 14 = .ok (.irem, 1) := by decide +kernel
theorem dX11_isRest_15 : decode cX11_isRest 15 = .ok (.iconst 1, 1) := by decide +kernel
theorem dX11_isRest_16 : decode cX11_isRest 16 = .ok (.if_icmp .ne 7, 3) := by decide +kernel
theorem dX11_isRest_19 : decode cX11_isRest 19 = .ok (.iconst 1, 1) := by decide +kernel
theorem dX11_isRest_20 : decode cX11_isRest 20 = .ok (.goto 4, 3) := by decide +kernel
theorem dX11_isRest_23 : decode cX11_isRest 23 = .ok (.iconst 0, 1) := by decide +kernel
theorem dX11_isRest_24 : decode cX11_isRest 24 = .ok (.istore 5, 2) := by decide +kernel
theorem dX11_isRest_26 : decode cX11_isRest 26 = .ok (.iload 4, 2) := by decide +kernel
theorem dX11_isRest_28 : decode cX11_isRest 28 = .ok (.iload 5, 2) := by decide +kernel
theorem dX11_isRest_30 : decode cX11_isRest 30 = .ok (.iload_n 1, 1) := by decide +kernel
theorem dX11_isRest_31 : decode cX11_isRest 31 = .ok (.iload_n 2, 1) := by decide +kernel
theorem dX11_isRest_32 : decode cX11_isRest 32 = .ok (.iload_n 3, 1) := by decide +kernel
theorem dX11_isRest_33 : decode cX11_isRest 33 = .ok (.invokestatic 302, 3) := by decide +kernel
theorem dX11_isRest_36 : decode cX11_isRest 36 = .ok (.iload 4, 2) := by decide +kernel
theorem dX11_isRest_38 : decode cX11_isRest 38 = .ok (.ifCond .ne 7, 3) := by decide +kernel
theorem dX11_isRest_41 : decode cX11_isRest 41 = .ok (.iconst 1, 1) := by decide +kernel
theorem dX11_isRest_42 : decode cX11_isRest 42 = .ok (.goto 4, 3) := by decide +kernel
theorem dX11_isRest_45 : decode cX11_isRest 45 = .ok (.iconst 0, 1) := by decide +kernel
theorem dX11_isRest_46 : decode cX11_isRest 46 = .ok (.iload 5, 2) := by decide +kernel
theorem dX11_isRest_48 : decode cX11_isRest 48 = .ok (.iload_n 1, 1) := by decide +kernel
theorem dX11_isRest_49 : decode cX11_isRest 49 = .ok (.iload_n 2, 1) := by decide +kernel
theorem dX11_isRest_50 : decode cX11_isRest 50 = .ok (.iload_n 3, 1) := by decide +kernel
theorem dX11_isRest_51 : decode cX11_isRest 51 = .ok (.invokestatic 302, 3) := by decide +kernel
theorem dX11_isRest_54 : decode cX11_isRest 54 = .ok (.if_icmp .lt 38, 3) := by decide +kernel
theorem dX11_isRest_57 : decode cX11_isRest 57 = .ok (.iload 5, 2) := by decide +kernel
theorem dX11_isRest_59 : decode cX11_isRest 59 = .ok (.iload 4, 2) := by decide +kernel
theorem dX11_isRest_61 : decode cX11_isRest 61 = .ok (.iload_n 1, 1) := by decide +kernel
theorem dX11_isRest_62 : decode cX11_isRest 62 = .ok (.iload_n 2, 1) := by decide +kernel
theorem dX11_isRest_63 : decode cX11_isRest 63 = .ok (.iload_n 3, 1) := by decide +kernel
theorem dX11_isRest_64 : decode cX11_isRest 64 = .ok (.invokestatic 302, 3) := by decide +kernel
theorem dX11_isRest_67 : decode cX11_isRest 67 = .ok (.iload 5, 2) := by decide +kernel
theorem dX11_isRest_69 : decode cX11_isRest 69 = .ok (.ifCond .ne 7, 3) := by decide +kernel
theorem dX11_isRest_72 : decode cX11_isRest 72 = .ok (.iconst 1, 1) := by decide +kernel
theorem dX11_isRest_73 : decode cX11_isRest 73 = .ok (.goto 4, 3) := by decide +kernel
theorem dX11_isRest_76 : decode cX11_isRest 76 = .ok (.iconst 0, 1) := by decide +kernel
theorem dX11_isRest_77 : decode cX11_isRest 77 = .ok (.iload 4, 2) := by decide +kernel
theorem dX11_isRest_79 : decode cX11_isRest 79 = .ok (.iload_n 1, 1) := by decide +kernel
theorem dX11_isRest_80 : decode cX11_isRest 80 = .ok (.iload_n 2, 1) := by decide +kernel
theorem dX11_isRest_81 : decode cX11_isRest 81 = .ok (.iload_n 3, 1) := by decide +kernel
theorem dX11_isRest_82 : decode cX11_isRest 82 = .ok (.invokestatic 302, 3) := by decide +kernel
theorem dX11_isRest_85 : decode cX11_isRest 85 = .ok (.if_icmp .lt 7, 3) := by decide +kernel
theorem dX11_isRest_88 : decode cX11_isRest 88 = .ok (.iconst 1, 1) := by decide +kernel
theorem dX11_isRest_89 : decode cX11_isRest 89 = .ok (.goto 4, 3) := by decide +kernel
theorem dX11_isRest_92 : decode cX11_isRest 92 = .ok (.iconst 0, 1) := by decide +kernel
theorem dX11_isRest_93 : decode cX11_isRest 93 = .ok (.ireturn, 1) := by decide +kernel
abbrev wd_X11_isRest (k : Nat → ClassId) : va_W := []
set_option maxHeartbeats 4000000 in
set_option maxRecDepth 100000 in
theorem c_X11_isRest (l : Launch) (D : va_G) (k : Nat → ClassId) (choices : Int32) (both : Int32) (loses : Int32) (gets : Int32) (R0 : Int32) (hm : m_X11_isRest choices both loses gets = some R0) : CR l D (TY k) yX11_isRest cX11_isRest 6 (some .boolean) 1 24 [.int choices, .int both, .int loses, .int gets] (wd_X11_isRest k ) (some (.int R0)) := by
  refine CR.mk (by decide) (Nat.le_of_ble_eq_true rfl) ?_
  intro p e s m args below meth c ls ⟨hx, hb, hr, hts, hown, hlocks, hml⟩ hP hG hl
  have hl : lv_has ls 6 [(0, .int choices), (1, .int both), (2, .int loses), (3, .int gets)] := hl
  have h_77 : ∀ (x4 : Int32) (t0 : Int32) (t1 : Int32) (ls : Array Slot), lv_has ls 6 [(1, .int both), (2, .int loses), (3, .int gets), (4, .int x4)] → m_X11_isRest_77 choices both loses gets x4 t0 t1 = some R0 → W p l e (Rm 1 24) s m args below meth c s.heap [] 0 0 (MQ below (QR (some (.int R0))) args s 0 0 (fun _ => False)) (F0 m 77 ls [.int t0, .int t1]) := by
    intro  x4 t0 t1 ls hl hm
    unfold m_X11_isRest_77 at hm
    refine lv_iload (pc := 77) hx hb dX11_isRest_77 (lv_at hl 3 rfl) ?_
    refine lv_iload_n (pc := 79) hx hb dX11_isRest_79 rfl (lv_at hl 0 rfl) ?_
    refine lv_iload_n (pc := 80) hx hb dX11_isRest_80 rfl (lv_at hl 1 rfl) ?_
    refine lv_iload_n (pc := 81) hx hb dX11_isRest_81 rfl (lv_at hl 2 rfl) ?_
    obtain ⟨r5, hcl, hm⟩ := bd hm
    refine cr_back (run_S (pc := 82) (n := 5) (As := [.int t0, .int x4, .int both, .int loses, .int gets]) (rest := [.int t1]) ⟨hx, hb, hml, hown, hts⟩ (c_X11_gain l D k t0 x4 both loses gets r5 hcl) ⟨kw_1187, kw_1, by decide +kernel⟩ kw_1185 kw_1186 ⟨Nat.le_of_ble_eq_true rfl, Nat.le_of_ble_eq_true rfl⟩ pr_blind (prR (hP.sub [] rfl) hG) rfl hl.1 rfl (Nat.le_of_ble_eq_true rfl) dX11_isRest_82 ⟨Nat.zero_le _, Nat.zero_le _⟩) ?_
    refine lv_icmp_lt (tgt := 92) (pc := 85) hx hb dX11_isRest_85 (by decide) (fun hc => ?_) (fun hc => ?_)
    · rw [if_pos hc] at hm
      refine lv_iconst (v := 0) (pc := 92) hx hb dX11_isRest_92 (by decide) ?_
      rw [← Option.some.inj hm]
      exact W.zret hx hb hr (nar_bool (Or.inl rfl)) (fun t ht _ => ⟨rfl, ht⟩) (fun _ h => by cases h) dX11_isRest_93 hlocks
    · rw [if_neg hc] at hm
      refine lv_iconst (v := 1) (pc := 88) hx hb dX11_isRest_88 (by decide) ?_
      refine lv_goto (tgt := 93) (pc := 89) hx hb dX11_isRest_89 (by decide) ?_
      rw [← Option.some.inj hm]
      exact W.zret hx hb hr (nar_bool (Or.inr rfl)) (fun t ht _ => ⟨rfl, ht⟩) (fun _ h => by cases h) dX11_isRest_93 hlocks
  have h_46 : ∀ (x4 : Int32) (x5 : Int32) (t0 : Int32) (t1 : Int32) (ls : Array Slot), lv_has ls 6 [(1, .int both), (2, .int loses), (3, .int gets), (4, .int x4), (5, .int x5)] → m_X11_isRest_46 choices both loses gets x4 x5 t0 t1 = some R0 → W p l e (Rm 1 24) s m args below meth c s.heap [] 0 0 (MQ below (QR (some (.int R0))) args s 0 0 (fun _ => False)) (F0 m 46 ls [.int t0, .int t1]) := by
    intro  x4 x5 t0 t1 ls hl hm
    unfold m_X11_isRest_46 at hm
    refine lv_iload (pc := 46) hx hb dX11_isRest_46 (lv_at hl 4 rfl) ?_
    refine lv_iload_n (pc := 48) hx hb dX11_isRest_48 rfl (lv_at hl 0 rfl) ?_
    refine lv_iload_n (pc := 49) hx hb dX11_isRest_49 rfl (lv_at hl 1 rfl) ?_
    refine lv_iload_n (pc := 50) hx hb dX11_isRest_50 rfl (lv_at hl 2 rfl) ?_
    obtain ⟨r6, hcl, hm⟩ := bd hm
    refine cr_back (run_S (pc := 51) (n := 5) (As := [.int t0, .int x5, .int both, .int loses, .int gets]) (rest := [.int t1]) ⟨hx, hb, hml, hown, hts⟩ (c_X11_gain l D k t0 x5 both loses gets r6 hcl) ⟨kw_1187, kw_1, by decide +kernel⟩ kw_1185 kw_1186 ⟨Nat.le_of_ble_eq_true rfl, Nat.le_of_ble_eq_true rfl⟩ pr_blind (prR (hP.sub [] rfl) hG) rfl hl.1 rfl (Nat.le_of_ble_eq_true rfl) dX11_isRest_51 ⟨Nat.zero_le _, Nat.zero_le _⟩) ?_
    refine lv_icmp_lt (tgt := 92) (pc := 54) hx hb dX11_isRest_54 (by decide) (fun hc => ?_) (fun hc => ?_)
    · rw [if_pos hc] at hm
      refine lv_iconst (v := 0) (pc := 92) hx hb dX11_isRest_92 (by decide) ?_
      rw [← Option.some.inj hm]
      exact W.zret hx hb hr (nar_bool (Or.inl rfl)) (fun t ht _ => ⟨rfl, ht⟩) (fun _ h => by cases h) dX11_isRest_93 hlocks
    · rw [if_neg hc] at hm
      refine lv_iload (pc := 57) hx hb dX11_isRest_57 (lv_at hl 4 rfl) ?_
      refine lv_iload (pc := 59) hx hb dX11_isRest_59 (lv_at hl 3 rfl) ?_
      refine lv_iload_n (pc := 61) hx hb dX11_isRest_61 rfl (lv_at hl 0 rfl) ?_
      refine lv_iload_n (pc := 62) hx hb dX11_isRest_62 rfl (lv_at hl 1 rfl) ?_
      refine lv_iload_n (pc := 63) hx hb dX11_isRest_63 rfl (lv_at hl 2 rfl) ?_
      obtain ⟨r7, hcl, hm⟩ := bd hm
      refine cr_back (run_S (pc := 64) (n := 5) (As := [.int x5, .int x4, .int both, .int loses, .int gets]) (rest := []) ⟨hx, hb, hml, hown, hts⟩ (c_X11_gain l D k x5 x4 both loses gets r7 hcl) ⟨kw_1187, kw_1, by decide +kernel⟩ kw_1185 kw_1186 ⟨Nat.le_of_ble_eq_true rfl, Nat.le_of_ble_eq_true rfl⟩ pr_blind (prR (hP.sub [] rfl) hG) rfl hl.1 rfl (Nat.le_of_ble_eq_true rfl) dX11_isRest_64 ⟨Nat.zero_le _, Nat.zero_le _⟩) ?_
      refine lv_iload (pc := 67) hx hb dX11_isRest_67 (lv_at hl 4 rfl) ?_
      refine lv_if_ne (tgt := 76) (pc := 69) hx hb dX11_isRest_69 (by decide) (fun hc => ?_) (fun hc => ?_)
      · rw [if_neg hc] at hm
        refine lv_iconst (v := 0) (pc := 76) hx hb dX11_isRest_76 (by decide) ?_
        exact h_77 x4 0 r7 ls (lv_sub hl [0, 1, 2, 3] rfl) hm
      · rw [if_pos hc] at hm
        refine lv_iconst (v := 1) (pc := 72) hx hb dX11_isRest_72 (by decide) ?_
        refine lv_goto (tgt := 77) (pc := 73) hx hb dX11_isRest_73 (by decide) ?_
        exact h_77 x4 1 r7 ls (lv_sub hl [0, 1, 2, 3] rfl) hm
  have h_24 : ∀ (x4 : Int32) (t0 : Int32) (ls : Array Slot), lv_has ls 6 [(1, .int both), (2, .int loses), (3, .int gets), (4, .int x4)] → m_X11_isRest_24 choices both loses gets x4 t0 = some R0 → W p l e (Rm 1 24) s m args below meth c s.heap [] 0 0 (MQ below (QR (some (.int R0))) args s 0 0 (fun _ => False)) (F0 m 24 ls [.int t0]) := by
    intro  x4 t0 ls hl hm
    unfold m_X11_isRest_24 at hm
    refine lv_istore (lv' := [(5, .int t0), (1, .int both), (2, .int loses), (3, .int gets), (4, .int x4)]) (pc := 24) hx hb dX11_isRest_24 hl (Nat.le_of_ble_eq_true rfl) rfl (fun ls hl => ?_)
    refine lv_iload (pc := 26) hx hb dX11_isRest_26 (lv_at hl 4 rfl) ?_
    refine lv_iload (pc := 28) hx hb dX11_isRest_28 (lv_at hl 0 rfl) ?_
    refine lv_iload_n (pc := 30) hx hb dX11_isRest_30 rfl (lv_at hl 1 rfl) ?_
    refine lv_iload_n (pc := 31) hx hb dX11_isRest_31 rfl (lv_at hl 2 rfl) ?_
    refine lv_iload_n (pc := 32) hx hb dX11_isRest_32 rfl (lv_at hl 3 rfl) ?_
    obtain ⟨r8, hcl, hm⟩ := bd hm
    refine cr_back (run_S (pc := 33) (n := 5) (As := [.int x4, .int t0, .int both, .int loses, .int gets]) (rest := []) ⟨hx, hb, hml, hown, hts⟩ (c_X11_gain l D k x4 t0 both loses gets r8 hcl) ⟨kw_1187, kw_1, by decide +kernel⟩ kw_1185 kw_1186 ⟨Nat.le_of_ble_eq_true rfl, Nat.le_of_ble_eq_true rfl⟩ pr_blind (prR (hP.sub [] rfl) hG) rfl hl.1 rfl (Nat.le_of_ble_eq_true rfl) dX11_isRest_33 ⟨Nat.zero_le _, Nat.zero_le _⟩) ?_
    refine lv_iload (pc := 36) hx hb dX11_isRest_36 (lv_at hl 4 rfl) ?_
    refine lv_if_ne (tgt := 45) (pc := 38) hx hb dX11_isRest_38 (by decide) (fun hc => ?_) (fun hc => ?_)
    · rw [if_neg hc] at hm
      refine lv_iconst (v := 0) (pc := 45) hx hb dX11_isRest_45 (by decide) ?_
      exact h_46 x4 t0 0 r8 ls (lv_sub hl [1, 2, 3, 4, 0] rfl) hm
    · rw [if_pos hc] at hm
      refine lv_iconst (v := 1) (pc := 41) hx hb dX11_isRest_41 (by decide) ?_
      refine lv_goto (tgt := 46) (pc := 42) hx hb dX11_isRest_42 (by decide) ?_
      exact h_46 x4 t0 1 r8 ls (lv_sub hl [1, 2, 3, 4, 0] rfl) hm
  have h_10 : ∀ (t0 : Int32) (ls : Array Slot), lv_has ls 6 [(0, .int choices), (1, .int both), (2, .int loses), (3, .int gets)] → m_X11_isRest_10 choices both loses gets t0 = some R0 → W p l e (Rm 1 24) s m args below meth c s.heap [] 0 0 (MQ below (QR (some (.int R0))) args s 0 0 (fun _ => False)) (F0 m 10 ls [.int t0]) := by
    intro  t0 ls hl hm
    unfold m_X11_isRest_10 at hm
    refine lv_istore (lv' := [(4, .int t0), (0, .int choices), (1, .int both), (2, .int loses), (3, .int gets)]) (pc := 10) hx hb dX11_isRest_10 hl (Nat.le_of_ble_eq_true rfl) rfl (fun ls hl => ?_)
    refine lv_iload_n (pc := 12) hx hb dX11_isRest_12 rfl (lv_at hl 1 rfl) ?_
    refine lv_iconst (v := 2) (pc := 13) hx hb dX11_isRest_13 (by decide) ?_
    refine lv_irem (pc := 14) hx hb dX11_isRest_14 (by decide) ?_
    refine lv_iconst (v := 1) (pc := 15) hx hb dX11_isRest_15 (by decide) ?_
    refine lv_icmp_ne (tgt := 23) (pc := 16) hx hb dX11_isRest_16 (by decide) (fun hc => ?_) (fun hc => ?_)
    · rw [if_neg hc] at hm
      refine lv_iconst (v := 0) (pc := 23) hx hb dX11_isRest_23 (by decide) ?_
      exact h_24 t0 0 ls (lv_sub hl [2, 3, 4, 0] rfl) hm
    · rw [if_pos hc] at hm
      refine lv_iconst (v := 1) (pc := 19) hx hb dX11_isRest_19 (by decide) ?_
      refine lv_goto (tgt := 24) (pc := 20) hx hb dX11_isRest_20 (by decide) ?_
      exact h_24 t0 1 ls (lv_sub hl [2, 3, 4, 0] rfl) hm
  unfold m_X11_isRest at hm
  refine lv_iload_n (pc := 0) hx hb dX11_isRest_0 rfl (lv_at hl 0 rfl) ?_
  refine lv_iconst (v := 2) (pc := 1) hx hb dX11_isRest_1 (by decide) ?_
  refine lv_icmp_lt (tgt := 9) (pc := 2) hx hb dX11_isRest_2 (by decide) (fun hc => ?_) (fun hc => ?_)
  · rw [if_pos hc] at hm
    refine lv_iconst (v := 0) (pc := 9) hx hb dX11_isRest_9 (by decide) ?_
    exact h_10 0 ls (lv_sub hl [0, 1, 2, 3] rfl) hm
  · rw [if_neg hc] at hm
    refine lv_iconst (v := 1) (pc := 5) hx hb dX11_isRest_5 (by decide) ?_
    refine lv_goto (tgt := 10) (pc := 6) hx hb dX11_isRest_6 (by decide) ?_
    exact h_10 1 ls (lv_sub hl [0, 1, 2, 3] rfl) hm
theorem dX11_draw_0 : decode cX11_draw 0 = .ok (.aload_n 0, 1) := by decide +kernel
theorem dX11_draw_1 : decode cX11_draw 1 = .ok (.aload_n 0, 1) := by decide +kernel
theorem dX11_draw_2 : decode cX11_draw 2 = .ok (.getfield 306, 3) := by decide +kernel
theorem dX11_draw_5 : decode cX11_draw 5 = .ok (.ldc2_w 316, 3) := by decide +kernel
theorem dX11_draw_8 : decode cX11_draw 8 = .ok (.lmul, 1) := by decide +kernel
theorem dX11_draw_9 : decode cX11_draw 9 = .ok (.ldc2_w 318, 3) := by decide +kernel
theorem dX11_draw_12 : decode cX11_draw 12 = .ok (.ladd, 1) := by decide +kernel
theorem dX11_draw_13 : decode cX11_draw 13 = .ok (.ldc2_w 320, 3) := by decide +kernel
theorem dX11_draw_16 : decode cX11_draw 16 = .ok (.lrem, 1) := by decide +kernel
theorem dX11_draw_17 : decode cX11_draw 17 = .ok (.putfield 306, 3) := by decide +kernel
theorem dX11_draw_20 : decode cX11_draw 20 = .ok (.iload_n 1, 1) := by decide +kernel
theorem dX11_draw_21 : decode cX11_draw 21 = .ok (.ifCond .le 18, 3) := by decide +kernel
theorem dX11_draw_24 : decode cX11_draw 24 = .ok (.aload_n 0, 1) := by decide +kernel
theorem dX11_draw_25 : decode cX11_draw 25 = .ok (.getfield 306, 3) := by decide +kernel
theorem dX11_draw_28 : decode cX11_draw 28 = .ok (.ldc2_w 322, 3) := by decide +kernel
theorem dX11_draw_31 : decode cX11_draw 31 = .ok (.ldiv, 1) := by decide +kernel
theorem dX11_draw_32 : decode cX11_draw 32 = .ok (.iload_n 1, 1) := by decide +kernel
theorem dX11_draw_33 : decode cX11_draw 33 = .ok (.i2l, 1) := by decide +kernel
theorem dX11_draw_34 : decode cX11_draw 34 = .ok (.lrem, 1) := by decide +kernel
theorem dX11_draw_35 : decode cX11_draw 35 = .ok (.l2i, 1) := by decide +kernel
theorem dX11_draw_36 : decode cX11_draw 36 = .ok (.goto 4, 3) := by decide +kernel
theorem dX11_draw_39 : decode cX11_draw 39 = .ok (.iconst 0, 1) := by decide +kernel
theorem dX11_draw_40 : decode cX11_draw 40 = .ok (.ireturn, 1) := by decide +kernel
abbrev wd_X11_draw (k : Nat → ClassId) (this : Nat) (this_tape : Nat) (this_history : Nat) (this_seen : Nat) (this_measured : Nat) (this_marks : Nat) (this_standing : Nat) (this_now : Nat) (this_ahead : Nat) (this_here : Nat) (this_townDraft : Nat) (this_told : Nat) (this_yearDraft : Nat) (this_drawn : Int64) : va_W := [(this, .inr (9, [.ref this_tape, .ref this_history, .ref this_seen, .ref this_measured, .ref this_marks, .ref this_standing, .ref this_now, .ref this_ahead, .ref this_here, .ref this_townDraft, .ref this_told, .ref this_yearDraft, .long this_drawn]))]
set_option maxHeartbeats 4000000 in
set_option maxRecDepth 100000 in
theorem c_X11_draw (l : Launch) (D : va_G) (k : Nat → ClassId) (this : Nat) (this_tape : Nat) (this_history : Nat) (this_seen : Nat) (this_measured : Nat) (this_marks : Nat) (this_standing : Nat) (this_now : Nat) (this_ahead : Nat) (this_here : Nat) (this_townDraft : Nat) (this_told : Nat) (this_yearDraft : Nat) (this_drawn : Int64) (lim : Int32) (R0 : Int32 × Int64) (hm : m_X11_draw this_drawn lim = some R0) : CW l D (TY k) yX11_draw cX11_draw 2 (some .int) 0 0 [.ref this, .int lim] (wd_X11_draw k this this_tape this_history this_seen this_measured this_marks this_standing this_now this_ahead this_here this_townDraft this_told this_yearDraft this_drawn) (some (.int R0.1)) (wd_X11_draw k this this_tape this_history this_seen this_measured this_marks this_standing this_now this_ahead this_here this_townDraft this_told this_yearDraft R0.2) := by
  refine CW.mk (by decide) (Nat.le_of_ble_eq_true rfl) ?_
  intro p e s m args below meth c ls A ⟨hx, hb, hr, hts, hown, hlocks, hml⟩ hP hG hD hA hl hS hq
  have hl : lv_has ls 2 [(0, .ref this), (1, .int lim)] := hl
  unfold m_X11_draw at hm
  suffices hgo : ∀ (H : Heap) (locs : List Loc), va_P D vwCl (wd_X11_draw k this this_tape this_history this_seen this_measured this_marks this_standing this_now this_ahead this_here this_townDraft this_told this_yearDraft this_drawn) H → va_D A (wd_X11_draw k this this_tape this_history this_seen this_measured this_marks this_standing this_now this_ahead this_here this_townDraft this_told this_yearDraft this_drawn) → va_S A s.heap H locs → W p l e (Rm 0 0) s m args below meth c H locs 0 0 (MQ below (QW D (some (.int R0.1)) (wd_X11_draw k this this_tape this_history this_seen this_measured this_marks this_standing this_now this_ahead this_here this_townDraft this_told this_yearDraft this_drawn) (wd_X11_draw k this this_tape this_history this_seen this_measured this_marks this_standing this_now this_ahead this_here this_townDraft this_told this_yearDraft R0.2) s.heap.size) args s 0 0 A) (F0 m 0 ls []) from hgo _ _ hP hD hS
  clear hP hD hS
  intro H locs hP hD hS
  refine lv_aload_n (pc := 0) hx hb dX11_draw_0 rfl (lv_at hl 0 rfl) ?_
  refine lv_aload_n (pc := 1) hx hb dX11_draw_1 rfl (lv_at hl 0 rfl) ?_
  refine va_get (pc := 2) (D := D) (ci := 9) (C := RX11) (T := TX11) (N := 13) hx hb hts hiX11 hown hG.1 hP 0 rfl rfl 12 (Nat.le_of_ble_eq_true rfl) (hts _ kw_356) (fun _ h9 => h9) rfl dX11_draw_2 ?_
  refine lv_ldc2 (pc := 5) (own := RX11) hx hb hown (hts _ kw_1079) dX11_draw_5 ?_
  refine lv_lmul (pc := 8) hx hb dX11_draw_8 ?_
  refine lv_ldc2 (pc := 9) (own := RX11) hx hb hown (hts _ kw_1080) dX11_draw_9 ?_
  refine lv_ladd (pc := 12) hx hb dX11_draw_12 ?_
  refine lv_ldc2 (pc := 13) (own := RX11) hx hb hown (hts _ kw_1081) dX11_draw_13 ?_
  refine lv_lrem (pc := 16) hx hb dX11_draw_16 (by decide) ?_
  refine va_put (pc := 17) (D := D) (ci := 9) (v := .long (((this_drawn * 1103515245) + 12345) - ((this_drawn * 1103515245) + 12345) / 2147483648 * 2147483648)) (ty := .long) (C := RX11) (T := TX11) (N := 13) hx hb hts hiX11 tyX11 tyX11_ok nmX11 hown hG.1 hP hD hS 0 rfl rfl 12 (Nat.le_of_ble_eq_true rfl) (hts _ kw_356) (fun _ h9 => h9) rfl (by decide +kernel) rfl rfl (Nat.le_of_ble_eq_true rfl) dX11_draw_17 (fun H locs hP hD hS => ?_)
  have hP : va_P D vwCl (wd_X11_draw k this this_tape this_history this_seen this_measured this_marks this_standing this_now this_ahead this_here this_townDraft this_told this_yearDraft (((this_drawn * 1103515245) + 12345) - ((this_drawn * 1103515245) + 12345) / 2147483648 * 2147483648)) H := hP
  have hD : va_D A (wd_X11_draw k this this_tape this_history this_seen this_measured this_marks this_standing this_now this_ahead this_here this_townDraft this_told this_yearDraft (((this_drawn * 1103515245) + 12345) - ((this_drawn * 1103515245) + 12345) / 2147483648 * 2147483648)) := hD
  refine lv_iload_n (pc := 20) hx hb dX11_draw_20 rfl (lv_at hl 1 rfl) ?_
  refine lv_if_le (tgt := 39) (pc := 21) hx hb dX11_draw_21 (by decide) (fun hc => ?_) (fun hc => ?_)
  · rw [if_pos hc] at hm
    refine lv_iconst (v := 0) (pc := 39) hx hb dX11_draw_39 (by decide) ?_
    rw [← Option.some.inj hm]
    exact W.iret hx hb hr (fun t ht _ => hq _ _ H t ht hP hD locs hS) hS.2.2 dX11_draw_40 hlocks
  · rw [if_neg hc] at hm
    refine lv_aload_n (pc := 24) hx hb dX11_draw_24 rfl (lv_at hl 0 rfl) ?_
    refine va_get (pc := 25) (D := D) (ci := 9) (C := RX11) (T := TX11) (N := 13) hx hb hts hiX11 hown hG.1 hP 0 rfl rfl 12 (Nat.le_of_ble_eq_true rfl) (hts _ kw_356) (fun _ h9 => h9) rfl dX11_draw_25 ?_
    refine lv_ldc2 (pc := 28) (own := RX11) hx hb hown (hts _ kw_1082) dX11_draw_28 ?_
    refine lv_ldiv (pc := 31) hx hb dX11_draw_31 (by decide) ?_
    refine lv_iload_n (pc := 32) hx hb dX11_draw_32 rfl (lv_at hl 1 rfl) ?_
    refine lv_i2l (pc := 33) hx hb dX11_draw_33 rfl ?_
    obtain ⟨hnz, hm⟩ := gd hm
    refine lv_lrem (pc := 34) hx hb dX11_draw_34 hnz ?_
    refine lv_l2i (pc := 35) hx hb dX11_draw_35 rfl ?_
    refine lv_goto (tgt := 40) (pc := 36) hx hb dX11_draw_36 (by decide) ?_
    rw [← Option.some.inj hm]
    exact W.iret hx hb hr (fun t ht _ => hq _ _ H t ht hP hD locs hS) hS.2.2 dX11_draw_40 hlocks
theorem dX11_doByDraws_0 : decode cX11_doByDraws 0 = .ok (.aload_n 0, 1) := by decide +kernel
theorem dX11_doByDraws_1 : decode cX11_doByDraws 1 = .ok (.getfield 56, 3) := by decide +kernel
theorem dX11_doByDraws_4 : decode cX11_doByDraws 4 = .ok (.getfield 197, 3) := by decide +kernel
theorem dX11_doByDraws_7 : decode cX11_doByDraws 7 = .ok (.iconst 1, 1) := by decide +kernel
theorem dX11_doByDraws_8 : decode cX11_doByDraws 8 = .ok (.if_icmp .ge 4, 3) := by decide +kernel
theorem dX11_doByDraws_11 : decode cX11_doByDraws 11 = .ok (.return_, 1) := by decide +kernel
theorem dX11_doByDraws_12 : decode cX11_doByDraws 12 = .ok (.aload_n 0, 1) := by decide +kernel
theorem dX11_doByDraws_13 : decode cX11_doByDraws 13 = .ok (.aload_n 0, 1) := by decide +kernel
theorem dX11_doByDraws_14 : decode cX11_doByDraws 14 = .ok (.getfield 56, 3) := by decide +kernel
theorem dX11_doByDraws_17 : decode cX11_doByDraws 17 = .ok (.getfield 197, 3) := by decide +kernel
theorem dX11_doByDraws_20 : decode cX11_doByDraws 20 = .ok (.invokevirtual 313, 3) := by decide +kernel
theorem dX11_doByDraws_23 : decode cX11_doByDraws 23 = .ok (.istore_n 1, 1) := by decide +kernel
theorem dX11_doByDraws_24 : decode cX11_doByDraws 24 = .ok (.aload_n 0, 1) := by decide +kernel
theorem dX11_doByDraws_25 : decode cX11_doByDraws 25 = .ok (.iconst 4, 1) := by decide +kernel
theorem dX11_doByDraws_26 : decode cX11_doByDraws 26 = .ok (.invokevirtual 313, 3) := by decide +kernel
theorem dX11_doByDraws_29 : decode cX11_doByDraws 29 = .ok (.istore_n 2, 1) := by decide +kernel
theorem dX11_doByDraws_30 : decode cX11_doByDraws 30 = .ok (.iload_n 2, 1) := by decide +kernel
theorem dX11_doByDraws_31 : decode cX11_doByDraws 31 = .ok (.iconst 3, 1) := by decide +kernel
theorem dX11_doByDraws_32 : decode cX11_doByDraws 32 = .ok (.if_icmp .ne 14, 3) := by decide +kernel
theorem dX11_doByDraws_35 : decode cX11_doByDraws 35 = .ok (.aload_n 0, 1) := by decide +kernel
theorem dX11_doByDraws_36 : decode cX11_doByDraws 36 = .ok (.getfield 50, 3) := by decide +kernel
theorem dX11_doByDraws_39 : decode cX11_doByDraws 39 = .ok (.iload_n 1, 1) := by decide +kernel
theorem dX11_doByDraws_40 : decode cX11_doByDraws 40 = .ok (.invokevirtual 160, 3) := by decide +kernel
theorem dX11_doByDraws_43 : decode cX11_doByDraws 43 = .ok (.goto 31, 3) := by decide +kernel
theorem dX11_doByDraws_46 : decode cX11_doByDraws 46 = .ok (.aload_n 0, 1) := by decide +kernel
theorem dX11_doByDraws_47 : decode cX11_doByDraws 47 = .ok (.bipush 20, 2) := by decide +kernel
theorem dX11_doByDraws_49 : decode cX11_doByDraws 49 = .ok (.invokevirtual 313, 3) := by decide +kernel
theorem dX11_doByDraws_52 : decode cX11_doByDraws 52 = .ok (.iconst 1, 1) := by decide +kernel
theorem dX11_doByDraws_53 : decode cX11_doByDraws 53 = .ok (.iadd, 1) := by decide +kernel
theorem dX11_doByDraws_54 : decode cX11_doByDraws 54 = .ok (.istore_n 3, 1) := by decide +kernel
theorem dX11_doByDraws_55 : decode cX11_doByDraws 55 = .ok (.aload_n 0, 1) := by decide +kernel
theorem dX11_doByDraws_56 : decode cX11_doByDraws 56 = .ok (.getfield 50, 3) := by decide +kernel
theorem dX11_doByDraws_59 : decode cX11_doByDraws 59 = .ok (.iload_n 1, 1) := by decide +kernel
theorem dX11_doByDraws_60 : decode cX11_doByDraws 60 = .ok (.iload_n 2, 1) := by decide +kernel
theorem dX11_doByDraws_61 : decode cX11_doByDraws 61 = .ok (.iconst 2, 1) := by decide +kernel
theorem dX11_doByDraws_62 : decode cX11_doByDraws 62 = .ok (.if_icmp .ne 8, 3) := by decide +kernel
theorem dX11_doByDraws_65 : decode cX11_doByDraws 65 = .ok (.iload_n 3, 1) := by decide +kernel
theorem dX11_doByDraws_66 : decode cX11_doByDraws 66 = .ok (.ineg, 1) := by decide +kernel
theorem dX11_doByDraws_67 : decode cX11_doByDraws 67 = .ok (.goto 4, 3) := by decide +kernel
theorem dX11_doByDraws_70 : decode cX11_doByDraws 70 = .ok (.iload_n 3, 1) := by decide +kernel
theorem dX11_doByDraws_71 : decode cX11_doByDraws 71 = .ok (.invokevirtual 156, 3) := by decide +kernel
theorem dX11_doByDraws_74 : decode cX11_doByDraws 74 = .ok (.return_, 1) := by decide +kernel
abbrev wd_X11_doByDraws (k : Nat → ClassId) (this : Nat) (this_tape : Nat) (this_history : Nat) (this_seen : Nat) (this_measured : Nat) (this_marks : Nat) (this_standing : Nat) (this_now : Nat) (this_ahead : Nat) (this_ahead_state : Nat) (this_ahead_state_lacks : Nat) (this_ahead_state_lacks_f : Nat → Int32) (this_ahead_state_feels : Nat) (this_ahead_state_feels_f : Nat → Int32) (this_ahead_state_date : Int32) (this_ahead_next : Nat) (this_ahead_town : Nat) (this_ahead_town_names : Nat) (this_ahead_town_kinds : Nat) (this_ahead_town_kinds_f : Nat → Int32) (this_ahead_town_begin : Nat) (this_ahead_town_law : Nat) (this_ahead_town_persons : Int32) (this_ahead_town_mast : Int32) (this_ahead_town_weighs : Int32) (this_ahead_town_rounds : Int32) (this_ahead_town_toldOnce : Int32) (this_ahead_weighs : Int32) (this_ahead_rounds : Int32) (this_ahead_flag : Int32) (this_townDraft : Nat) (this_told : Nat) (this_yearDraft : Nat) (this_drawn : Int64) : va_W := [(this, .inr (9, [.ref this_tape, .ref this_history, .ref this_seen, .ref this_measured, .ref this_marks, .ref this_standing, .ref this_now, .ref this_ahead, .ref this_ahead_town, .ref this_townDraft, .ref this_told, .ref this_yearDraft, .long this_drawn])), (this_ahead, .inr (0, [.ref this_ahead_state, .ref this_ahead_next, .ref this_ahead_town, .int this_ahead_weighs, .int this_ahead_rounds, .int this_ahead_flag])), (this_ahead_state, .inr (5, [.ref this_ahead_state_lacks, .ref this_ahead_state_feels, .int this_ahead_state_date])), (this_ahead_state_lacks, .inl (k 0, 6, .inl this_ahead_state_lacks_f)), (this_ahead_state_feels, .inl (k 0, 6, .inl this_ahead_state_feels_f)), (this_ahead_town, .inr (7, [.ref this_ahead_town_names, .ref this_ahead_town_kinds, .ref this_ahead_town_begin, .ref this_ahead_town_law, .int this_ahead_town_persons, .int this_ahead_town_mast, .int this_ahead_town_weighs, .int this_ahead_town_rounds, .int this_ahead_town_toldOnce])), (this_ahead_town_kinds, .inl (k 0, 6, .inl this_ahead_town_kinds_f))]
set_option maxHeartbeats 4000000 in
set_option maxRecDepth 100000 in
theorem c_X11_doByDraws (l : Launch) (D : va_G) (k : Nat → ClassId) (this : Nat) (this_tape : Nat) (this_history : Nat) (this_seen : Nat) (this_measured : Nat) (this_marks : Nat) (this_standing : Nat) (this_now : Nat) (this_ahead : Nat) (this_ahead_state : Nat) (this_ahead_state_lacks : Nat) (this_ahead_state_lacks_f : Nat → Int32) (this_ahead_state_feels : Nat) (this_ahead_state_feels_f : Nat → Int32) (this_ahead_state_date : Int32) (this_ahead_next : Nat) (this_ahead_town : Nat) (this_ahead_town_names : Nat) (this_ahead_town_kinds : Nat) (this_ahead_town_kinds_f : Nat → Int32) (this_ahead_town_begin : Nat) (this_ahead_town_law : Nat) (this_ahead_town_persons : Int32) (this_ahead_town_mast : Int32) (this_ahead_town_weighs : Int32) (this_ahead_town_rounds : Int32) (this_ahead_town_toldOnce : Int32) (this_ahead_weighs : Int32) (this_ahead_rounds : Int32) (this_ahead_flag : Int32) (this_townDraft : Nat) (this_told : Nat) (this_yearDraft : Nat) (this_drawn : Int64) (R0 : Int64 × Int32 × (Nat → Int32)) (hm : m_X11_doByDraws this_ahead_state_lacks_f this_ahead_town_kinds_f this_ahead_town_persons this_ahead_town_mast this_ahead_weighs this_ahead_rounds this_ahead_flag this_drawn = some R0) : CW l D (TY k) yX11_doByDraws cX11_doByDraws 4 none 6 129 [.ref this] (wd_X11_doByDraws k this this_tape this_history this_seen this_measured this_marks this_standing this_now this_ahead this_ahead_state this_ahead_state_lacks this_ahead_state_lacks_f this_ahead_state_feels this_ahead_state_feels_f this_ahead_state_date this_ahead_next this_ahead_town this_ahead_town_names this_ahead_town_kinds this_ahead_town_kinds_f this_ahead_town_begin this_ahead_town_law this_ahead_town_persons this_ahead_town_mast this_ahead_town_weighs this_ahead_town_rounds this_ahead_town_toldOnce this_ahead_weighs this_ahead_rounds this_ahead_flag this_townDraft this_told this_yearDraft this_drawn) none (wd_X11_doByDraws k this this_tape this_history this_seen this_measured this_marks this_standing this_now this_ahead this_ahead_state this_ahead_state_lacks R0.2.2 this_ahead_state_feels this_ahead_state_feels_f this_ahead_state_date this_ahead_next this_ahead_town this_ahead_town_names this_ahead_town_kinds this_ahead_town_kinds_f this_ahead_town_begin this_ahead_town_law this_ahead_town_persons this_ahead_town_mast this_ahead_town_weighs this_ahead_town_rounds this_ahead_town_toldOnce this_ahead_weighs this_ahead_rounds R0.2.1 this_townDraft this_told this_yearDraft R0.1) := by
  refine CW.mk (by decide) (Nat.le_of_ble_eq_true rfl) ?_
  intro p e s m args below meth c ls A ⟨hx, hb, hr, hts, hown, hlocks, hml⟩ hP hG hD hA hl hS hq
  have hl : lv_has ls 4 [(0, .ref this)] := hl
  have h_71 : ∀ (t0 : Int32) (t1 : Int32) (u_this_drawn : Int64) (u_this_ahead_flag : Int32) (u_this_ahead_state_lacks_f : Nat → Int32) (H : Heap) (locs : List Loc) (ls : Array Slot), va_P D vwCl (wd_X11_doByDraws k this this_tape this_history this_seen this_measured this_marks this_standing this_now this_ahead this_ahead_state this_ahead_state_lacks u_this_ahead_state_lacks_f this_ahead_state_feels this_ahead_state_feels_f this_ahead_state_date this_ahead_next this_ahead_town this_ahead_town_names this_ahead_town_kinds this_ahead_town_kinds_f this_ahead_town_begin this_ahead_town_law this_ahead_town_persons this_ahead_town_mast this_ahead_town_weighs this_ahead_town_rounds this_ahead_town_toldOnce this_ahead_weighs this_ahead_rounds u_this_ahead_flag this_townDraft this_told this_yearDraft u_this_drawn) H → va_D A (wd_X11_doByDraws k this this_tape this_history this_seen this_measured this_marks this_standing this_now this_ahead this_ahead_state this_ahead_state_lacks u_this_ahead_state_lacks_f this_ahead_state_feels this_ahead_state_feels_f this_ahead_state_date this_ahead_next this_ahead_town this_ahead_town_names this_ahead_town_kinds this_ahead_town_kinds_f this_ahead_town_begin this_ahead_town_law this_ahead_town_persons this_ahead_town_mast this_ahead_town_weighs this_ahead_town_rounds this_ahead_town_toldOnce this_ahead_weighs this_ahead_rounds u_this_ahead_flag this_townDraft this_told this_yearDraft u_this_drawn) → va_S A s.heap H locs → lv_has ls 4 [] → m_X11_doByDraws_71 this_ahead_town_kinds_f this_ahead_town_persons this_ahead_town_mast this_ahead_weighs this_ahead_rounds t0 t1 u_this_drawn u_this_ahead_flag u_this_ahead_state_lacks_f = some R0 → W p l e (Rm 6 129) s m args below meth c H locs 0 0 (MQ below (QW D none (wd_X11_doByDraws k this this_tape this_history this_seen this_measured this_marks this_standing this_now this_ahead this_ahead_state this_ahead_state_lacks this_ahead_state_lacks_f this_ahead_state_feels this_ahead_state_feels_f this_ahead_state_date this_ahead_next this_ahead_town this_ahead_town_names this_ahead_town_kinds this_ahead_town_kinds_f this_ahead_town_begin this_ahead_town_law this_ahead_town_persons this_ahead_town_mast this_ahead_town_weighs this_ahead_town_rounds this_ahead_town_toldOnce this_ahead_weighs this_ahead_rounds this_ahead_flag this_townDraft this_told this_yearDraft this_drawn) (wd_X11_doByDraws k this this_tape this_history this_seen this_measured this_marks this_standing this_now this_ahead this_ahead_state this_ahead_state_lacks R0.2.2 this_ahead_state_feels this_ahead_state_feels_f this_ahead_state_date this_ahead_next this_ahead_town this_ahead_town_names this_ahead_town_kinds this_ahead_town_kinds_f this_ahead_town_begin this_ahead_town_law this_ahead_town_persons this_ahead_town_mast this_ahead_town_weighs this_ahead_town_rounds this_ahead_town_toldOnce this_ahead_weighs this_ahead_rounds R0.2.1 this_townDraft this_told this_yearDraft R0.1) s.heap.size) args s 0 0 A) (F0 m 71 ls [.int t0, .int t1, .ref this_ahead]) := by
    intro  t0 t1 u_this_drawn u_this_ahead_flag u_this_ahead_state_lacks_f H locs ls hP hD hS hl hm
    unfold m_X11_doByDraws_71 at hm
    obtain ⟨r6, hcl, hm⟩ := bd hm
    refine cw_mask (ws' := (wd_X11_doByDraws k this this_tape this_history this_seen this_measured this_marks this_standing this_now this_ahead this_ahead_state this_ahead_state_lacks r6.2 this_ahead_state_feels this_ahead_state_feels_f this_ahead_state_date this_ahead_next this_ahead_town this_ahead_town_names this_ahead_town_kinds this_ahead_town_kinds_f this_ahead_town_begin this_ahead_town_law this_ahead_town_persons this_ahead_town_mast this_ahead_town_weighs this_ahead_town_rounds this_ahead_town_toldOnce this_ahead_weighs this_ahead_rounds r6.1 this_townDraft this_told this_yearDraft u_this_drawn)) (run_VN (pc := 71) (n := 2) (As := [.int t1, .int t0]) (rest := []) ⟨hx, hb, hml, hown, hts⟩ ((c_X1_shift l D k this_ahead this_ahead_state this_ahead_state_lacks u_this_ahead_state_lacks_f this_ahead_state_feels this_ahead_state_feels_f this_ahead_state_date this_ahead_next this_ahead_town this_ahead_town_names this_ahead_town_kinds this_ahead_town_kinds_f this_ahead_town_begin this_ahead_town_law this_ahead_town_persons this_ahead_town_mast this_ahead_town_weighs this_ahead_town_rounds this_ahead_town_toldOnce this_ahead_weighs this_ahead_rounds u_this_ahead_flag t1 t0 r6 hcl) H.size) ⟨kw_773, kw_8, by decide +kernel⟩ hG kn_770 kw_772 ks_58 ⟨Nat.le_of_ble_eq_true rfl, Nat.le_of_ble_eq_true rfl⟩ pw_blind (prW (P_pick [false, true, true, true, true, true, true] rfl hP) hG (D_pick [false, true, true, true, true, true, true] rfl hD)) (va_recv hG.1 hP (ci := 0) (q0 := 1) rfl rfl) rfl hl.1 rfl (Nat.le_of_ble_eq_true rfl) dX11_doByDraws_71 ⟨Nat.zero_le _, Nat.zero_le _⟩) hP hD hS hA [false, true, true, true, true, true, true] rfl rfl rfl (fun H locs hP hD hS => ?_)
    rw [← Option.some.inj hm]
    exact W.vret hx hb hr (fun t ht _ => hq _ _ H t ht hP hD locs hS) hS.2.2 dX11_doByDraws_74 hlocks
  unfold m_X11_doByDraws at hm
  suffices hgo : ∀ (H : Heap) (locs : List Loc), va_P D vwCl (wd_X11_doByDraws k this this_tape this_history this_seen this_measured this_marks this_standing this_now this_ahead this_ahead_state this_ahead_state_lacks this_ahead_state_lacks_f this_ahead_state_feels this_ahead_state_feels_f this_ahead_state_date this_ahead_next this_ahead_town this_ahead_town_names this_ahead_town_kinds this_ahead_town_kinds_f this_ahead_town_begin this_ahead_town_law this_ahead_town_persons this_ahead_town_mast this_ahead_town_weighs this_ahead_town_rounds this_ahead_town_toldOnce this_ahead_weighs this_ahead_rounds this_ahead_flag this_townDraft this_told this_yearDraft this_drawn) H → va_D A (wd_X11_doByDraws k this this_tape this_history this_seen this_measured this_marks this_standing this_now this_ahead this_ahead_state this_ahead_state_lacks this_ahead_state_lacks_f this_ahead_state_feels this_ahead_state_feels_f this_ahead_state_date this_ahead_next this_ahead_town this_ahead_town_names this_ahead_town_kinds this_ahead_town_kinds_f this_ahead_town_begin this_ahead_town_law this_ahead_town_persons this_ahead_town_mast this_ahead_town_weighs this_ahead_town_rounds this_ahead_town_toldOnce this_ahead_weighs this_ahead_rounds this_ahead_flag this_townDraft this_told this_yearDraft this_drawn) → va_S A s.heap H locs → W p l e (Rm 6 129) s m args below meth c H locs 0 0 (MQ below (QW D none (wd_X11_doByDraws k this this_tape this_history this_seen this_measured this_marks this_standing this_now this_ahead this_ahead_state this_ahead_state_lacks this_ahead_state_lacks_f this_ahead_state_feels this_ahead_state_feels_f this_ahead_state_date this_ahead_next this_ahead_town this_ahead_town_names this_ahead_town_kinds this_ahead_town_kinds_f this_ahead_town_begin this_ahead_town_law this_ahead_town_persons this_ahead_town_mast this_ahead_town_weighs this_ahead_town_rounds this_ahead_town_toldOnce this_ahead_weighs this_ahead_rounds this_ahead_flag this_townDraft this_told this_yearDraft this_drawn) (wd_X11_doByDraws k this this_tape this_history this_seen this_measured this_marks this_standing this_now this_ahead this_ahead_state this_ahead_state_lacks R0.2.2 this_ahead_state_feels this_ahead_state_feels_f this_ahead_state_date this_ahead_next this_ahead_town this_ahead_town_names this_ahead_town_kinds this_ahead_town_kinds_f this_ahead_town_begin this_ahead_town_law this_ahead_town_persons this_ahead_town_mast this_ahead_town_weighs this_ahead_town_rounds this_ahead_town_toldOnce this_ahead_weighs this_ahead_rounds R0.2.1 this_townDraft this_told this_yearDraft R0.1) s.heap.size) args s 0 0 A) (F0 m 0 ls []) from hgo _ _ hP hD hS
  clear hP hD hS
  intro H locs hP hD hS
  refine lv_aload_n (pc := 0) hx hb dX11_doByDraws_0 rfl (lv_at hl 0 rfl) ?_
  refine va_get (pc := 1) (D := D) (ci := 9) (C := RX11) (T := TX11) (N := 13) hx hb hts hiX11 hown hG.1 hP 0 rfl rfl 8 (Nat.le_of_ble_eq_true rfl) (hts _ kw_352) (fun _ h9 => h9) rfl dX11_doByDraws_1 ?_
  refine va_getN (pc := 4) (D := D) (ci := 7) (C := RX8) (T := TX8) (N := 9) hx hb hts hiX8 hown hG.1 hP 5 rfl rfl 4 (Nat.le_of_ble_eq_true rfl) (va_Nw.use rfl (hG.2 _ kn_204)) (fun _ h9 => h9) rfl dX11_doByDraws_4 ?_
  refine lv_iconst (v := 1) (pc := 7) hx hb dX11_doByDraws_7 (by decide) ?_
  refine lv_icmp_ge (tgt := 12) (pc := 8) hx hb dX11_doByDraws_8 (by decide) (fun hc => ?_) (fun hc => ?_)
  · rw [if_pos hc] at hm
    refine lv_aload_n (pc := 12) hx hb dX11_doByDraws_12 rfl (lv_at hl 0 rfl) ?_
    refine lv_aload_n (pc := 13) hx hb dX11_doByDraws_13 rfl (lv_at hl 0 rfl) ?_
    refine va_get (pc := 14) (D := D) (ci := 9) (C := RX11) (T := TX11) (N := 13) hx hb hts hiX11 hown hG.1 hP 0 rfl rfl 8 (Nat.le_of_ble_eq_true rfl) (hts _ kw_352) (fun _ h9 => h9) rfl dX11_doByDraws_14 ?_
    refine va_getN (pc := 17) (D := D) (ci := 7) (C := RX8) (T := TX8) (N := 9) hx hb hts hiX8 hown hG.1 hP 5 rfl rfl 4 (Nat.le_of_ble_eq_true rfl) (va_Nw.use rfl (hG.2 _ kn_204)) (fun _ h9 => h9) rfl dX11_doByDraws_17 ?_
    obtain ⟨r7, hcl, hm⟩ := bd hm
    refine cw_mask (ws' := (wd_X11_doByDraws k this this_tape this_history this_seen this_measured this_marks this_standing this_now this_ahead this_ahead_state this_ahead_state_lacks this_ahead_state_lacks_f this_ahead_state_feels this_ahead_state_feels_f this_ahead_state_date this_ahead_next this_ahead_town this_ahead_town_names this_ahead_town_kinds this_ahead_town_kinds_f this_ahead_town_begin this_ahead_town_law this_ahead_town_persons this_ahead_town_mast this_ahead_town_weighs this_ahead_town_rounds this_ahead_town_toldOnce this_ahead_weighs this_ahead_rounds this_ahead_flag this_townDraft this_told this_yearDraft r7.2)) (run_V (pc := 20) (n := 1) (As := [.int this_ahead_town_persons]) (rest := []) ⟨hx, hb, hml, hown, hts⟩ ((c_X11_draw l D k this this_tape this_history this_seen this_measured this_marks this_standing this_now this_ahead this_ahead_town this_townDraft this_told this_yearDraft this_drawn this_ahead_town_persons r7 hcl) H.size) ⟨kw_1078, kw_1, by decide +kernel⟩ kw_1075 kw_1077 ks_86 ⟨Nat.le_of_ble_eq_true rfl, Nat.le_of_ble_eq_true rfl⟩ pw_blind (prW (P_pick [true] rfl hP) hG (D_pick [true] rfl hD)) (va_recv hG.1 hP (ci := 9) (q0 := 0) rfl rfl) rfl hl.1 rfl (Nat.le_of_ble_eq_true rfl) dX11_doByDraws_20 ⟨Nat.zero_le _, Nat.zero_le _⟩) hP hD hS hA [true] rfl rfl rfl (fun H locs hP hD hS => ?_)
    refine lv_istore_n (lv' := [(1, .int r7.1), (0, .ref this)]) (pc := 23) hx hb dX11_doByDraws_23 rfl hl (Nat.le_of_ble_eq_true rfl) rfl (fun ls hl => ?_)
    refine lv_aload_n (pc := 24) hx hb dX11_doByDraws_24 rfl (lv_at hl 1 rfl) ?_
    refine lv_iconst (v := 4) (pc := 25) hx hb dX11_doByDraws_25 (by decide) ?_
    obtain ⟨r8, hcl, hm⟩ := bd hm
    refine cw_mask (ws' := (wd_X11_doByDraws k this this_tape this_history this_seen this_measured this_marks this_standing this_now this_ahead this_ahead_state this_ahead_state_lacks this_ahead_state_lacks_f this_ahead_state_feels this_ahead_state_feels_f this_ahead_state_date this_ahead_next this_ahead_town this_ahead_town_names this_ahead_town_kinds this_ahead_town_kinds_f this_ahead_town_begin this_ahead_town_law this_ahead_town_persons this_ahead_town_mast this_ahead_town_weighs this_ahead_town_rounds this_ahead_town_toldOnce this_ahead_weighs this_ahead_rounds this_ahead_flag this_townDraft this_told this_yearDraft r8.2)) (run_V (pc := 26) (n := 1) (As := [.int 4]) (rest := []) ⟨hx, hb, hml, hown, hts⟩ ((c_X11_draw l D k this this_tape this_history this_seen this_measured this_marks this_standing this_now this_ahead this_ahead_town this_townDraft this_told this_yearDraft r7.2 4 r8 hcl) H.size) ⟨kw_1078, kw_1, by decide +kernel⟩ kw_1075 kw_1077 ks_86 ⟨Nat.le_of_ble_eq_true rfl, Nat.le_of_ble_eq_true rfl⟩ pw_blind (prW (P_pick [true] rfl hP) hG (D_pick [true] rfl hD)) (va_recv hG.1 hP (ci := 9) (q0 := 0) rfl rfl) rfl hl.1 rfl (Nat.le_of_ble_eq_true rfl) dX11_doByDraws_26 ⟨Nat.zero_le _, Nat.zero_le _⟩) hP hD hS hA [true] rfl rfl rfl (fun H locs hP hD hS => ?_)
    refine lv_istore_n (lv' := [(2, .int r8.1), (1, .int r7.1), (0, .ref this)]) (pc := 29) hx hb dX11_doByDraws_29 rfl hl (Nat.le_of_ble_eq_true rfl) rfl (fun ls hl => ?_)
    refine lv_iload_n (pc := 30) hx hb dX11_doByDraws_30 rfl (lv_at hl 0 rfl) ?_
    refine lv_iconst (v := 3) (pc := 31) hx hb dX11_doByDraws_31 (by decide) ?_
    refine lv_icmp_ne (tgt := 46) (pc := 32) hx hb dX11_doByDraws_32 (by decide) (fun hc => ?_) (fun hc => ?_)
    · rw [if_neg hc] at hm
      refine lv_aload_n (pc := 46) hx hb dX11_doByDraws_46 rfl (lv_at hl 2 rfl) ?_
      refine lv_bipush (v := 20) (pc := 47) hx hb dX11_doByDraws_47 (by decide) ?_
      obtain ⟨r9, hcl, hm⟩ := bd hm
      refine cw_mask (ws' := (wd_X11_doByDraws k this this_tape this_history this_seen this_measured this_marks this_standing this_now this_ahead this_ahead_state this_ahead_state_lacks this_ahead_state_lacks_f this_ahead_state_feels this_ahead_state_feels_f this_ahead_state_date this_ahead_next this_ahead_town this_ahead_town_names this_ahead_town_kinds this_ahead_town_kinds_f this_ahead_town_begin this_ahead_town_law this_ahead_town_persons this_ahead_town_mast this_ahead_town_weighs this_ahead_town_rounds this_ahead_town_toldOnce this_ahead_weighs this_ahead_rounds this_ahead_flag this_townDraft this_told this_yearDraft r9.2)) (run_V (pc := 49) (n := 1) (As := [.int 20]) (rest := []) ⟨hx, hb, hml, hown, hts⟩ ((c_X11_draw l D k this this_tape this_history this_seen this_measured this_marks this_standing this_now this_ahead this_ahead_town this_townDraft this_told this_yearDraft r8.2 20 r9 hcl) H.size) ⟨kw_1078, kw_1, by decide +kernel⟩ kw_1075 kw_1077 ks_86 ⟨Nat.le_of_ble_eq_true rfl, Nat.le_of_ble_eq_true rfl⟩ pw_blind (prW (P_pick [true] rfl hP) hG (D_pick [true] rfl hD)) (va_recv hG.1 hP (ci := 9) (q0 := 0) rfl rfl) rfl hl.1 rfl (Nat.le_of_ble_eq_true rfl) dX11_doByDraws_49 ⟨Nat.zero_le _, Nat.zero_le _⟩) hP hD hS hA [true] rfl rfl rfl (fun H locs hP hD hS => ?_)
      refine lv_iconst (v := 1) (pc := 52) hx hb dX11_doByDraws_52 (by decide) ?_
      refine lv_iadd (pc := 53) hx hb dX11_doByDraws_53 ?_
      refine lv_istore_n (lv' := [(3, .int (r9.1 + 1)), (2, .int r8.1), (1, .int r7.1), (0, .ref this)]) (pc := 54) hx hb dX11_doByDraws_54 rfl hl (Nat.le_of_ble_eq_true rfl) rfl (fun ls hl => ?_)
      refine lv_aload_n (pc := 55) hx hb dX11_doByDraws_55 rfl (lv_at hl 3 rfl) ?_
      refine va_get (pc := 56) (D := D) (ci := 9) (C := RX11) (T := TX11) (N := 13) hx hb hts hiX11 hown hG.1 hP 0 rfl rfl 7 (Nat.le_of_ble_eq_true rfl) (hts _ kw_351) (fun _ h9 => h9) rfl dX11_doByDraws_56 ?_
      refine lv_iload_n (pc := 59) hx hb dX11_doByDraws_59 rfl (lv_at hl 2 rfl) ?_
      refine lv_iload_n (pc := 60) hx hb dX11_doByDraws_60 rfl (lv_at hl 1 rfl) ?_
      refine lv_iconst (v := 2) (pc := 61) hx hb dX11_doByDraws_61 (by decide) ?_
      refine lv_icmp_ne (tgt := 70) (pc := 62) hx hb dX11_doByDraws_62 (by decide) (fun hc => ?_) (fun hc => ?_)
      · rw [if_neg hc] at hm
        refine lv_iload_n (pc := 70) hx hb dX11_doByDraws_70 rfl (lv_at hl 0 rfl) ?_
        exact h_71 (r9.1 + 1) r7.1 r9.2 this_ahead_flag this_ahead_state_lacks_f H locs ls hP hD hS (lv_sub hl [] rfl) hm
      · rw [if_pos hc] at hm
        refine lv_iload_n (pc := 65) hx hb dX11_doByDraws_65 rfl (lv_at hl 0 rfl) ?_
        refine lv_ineg (pc := 66) hx hb dX11_doByDraws_66 ?_
        refine lv_goto (tgt := 71) (pc := 67) hx hb dX11_doByDraws_67 (by decide) ?_
        exact h_71 (-(r9.1 + 1)) r7.1 r9.2 this_ahead_flag this_ahead_state_lacks_f H locs ls hP hD hS (lv_sub hl [] rfl) hm
    · rw [if_pos hc] at hm
      refine lv_aload_n (pc := 35) hx hb dX11_doByDraws_35 rfl (lv_at hl 2 rfl) ?_
      refine va_get (pc := 36) (D := D) (ci := 9) (C := RX11) (T := TX11) (N := 13) hx hb hts hiX11 hown hG.1 hP 0 rfl rfl 7 (Nat.le_of_ble_eq_true rfl) (hts _ kw_351) (fun _ h9 => h9) rfl dX11_doByDraws_36 ?_
      refine lv_iload_n (pc := 39) hx hb dX11_doByDraws_39 rfl (lv_at hl 1 rfl) ?_
      obtain ⟨r10, hcl, hm⟩ := bd hm
      refine cw_mask (ws' := (wd_X11_doByDraws k this this_tape this_history this_seen this_measured this_marks this_standing this_now this_ahead this_ahead_state this_ahead_state_lacks r10.2 this_ahead_state_feels this_ahead_state_feels_f this_ahead_state_date this_ahead_next this_ahead_town this_ahead_town_names this_ahead_town_kinds this_ahead_town_kinds_f this_ahead_town_begin this_ahead_town_law this_ahead_town_persons this_ahead_town_mast this_ahead_town_weighs this_ahead_town_rounds this_ahead_town_toldOnce this_ahead_weighs this_ahead_rounds r10.1 this_townDraft this_told this_yearDraft r8.2)) (run_VN (pc := 40) (n := 1) (As := [.int r7.1]) (rest := []) ⟨hx, hb, hml, hown, hts⟩ ((c_X1_letOff l D k this_ahead this_ahead_state this_ahead_state_lacks this_ahead_state_lacks_f this_ahead_state_feels this_ahead_state_feels_f this_ahead_state_date this_ahead_next this_ahead_town this_ahead_town_names this_ahead_town_kinds this_ahead_town_kinds_f this_ahead_town_begin this_ahead_town_law this_ahead_town_persons this_ahead_town_mast this_ahead_town_weighs this_ahead_town_rounds this_ahead_town_toldOnce this_ahead_weighs this_ahead_rounds this_ahead_flag r7.1 r10 hcl) H.size) ⟨kw_792, kw_8, by decide +kernel⟩ hG kn_789 kw_791 ks_59 ⟨Nat.le_of_ble_eq_true rfl, Nat.le_of_ble_eq_true rfl⟩ pw_blind (prW (P_pick [false, true, true, true, true, true, true] rfl hP) hG (D_pick [false, true, true, true, true, true, true] rfl hD)) (va_recv hG.1 hP (ci := 0) (q0 := 1) rfl rfl) rfl hl.1 rfl (Nat.le_of_ble_eq_true rfl) dX11_doByDraws_40 ⟨Nat.zero_le _, Nat.zero_le _⟩) hP hD hS hA [false, true, true, true, true, true, true] rfl rfl rfl (fun H locs hP hD hS => ?_)
      refine lv_goto (tgt := 74) (pc := 43) hx hb dX11_doByDraws_43 (by decide) ?_
      rw [← Option.some.inj hm]
      exact W.vret hx hb hr (fun t ht _ => hq _ _ H t ht hP hD locs hS) hS.2.2 dX11_doByDraws_74 hlocks
  · rw [if_neg hc] at hm
    rw [← Option.some.inj hm]
    exact W.vret hx hb hr (fun t ht _ => hq _ _ H t ht hP hD locs hS) hS.2.2 dX11_doByDraws_11 hlocks
theorem dX11_years_0 : decode cX11_years 0 = .ok (.iload_n 1, 1) := by decide +kernel
theorem dX11_years_1 : decode cX11_years 1 = .ok (.iconst 0, 1) := by decide +kernel
theorem dX11_years_2 : decode cX11_years 2 = .ok (.sipush 9999, 3) := by decide +kernel
theorem dX11_years_5 : decode cX11_years 5 = .ok (.invokestatic 148, 3) := by decide +kernel
theorem dX11_years_8 : decode cX11_years 8 = .ok (.ifCond .eq 22, 3) := by decide +kernel
theorem dX11_years_11 : decode cX11_years 11 = .ok (.iload_n 2, 1) := by decide +kernel
theorem dX11_years_12 : decode cX11_years 12 = .ok (.iconst 1, 1) := by decide +kernel
theorem dX11_years_13 : decode cX11_years 13 = .ok (.bipush 99, 2) := by decide +kernel
theorem dX11_years_15 : decode cX11_years 15 = .ok (.invokestatic 148, 3) := by decide +kernel
theorem dX11_years_18 : decode cX11_years 18 = .ok (.ifCond .eq 12, 3) := by decide +kernel
theorem dX11_years_21 : decode cX11_years 21 = .ok (.iload_n 3, 1) := by decide +kernel
theorem dX11_years_22 : decode cX11_years 22 = .ok (.iconst 0, 1) := by decide +kernel
theorem dX11_years_23 : decode cX11_years 23 = .ok (.iconst 2, 1) := by decide +kernel
theorem dX11_years_24 : decode cX11_years 24 = .ok (.invokestatic 148, 3) := by decide +kernel
theorem dX11_years_27 : decode cX11_years 27 = .ok (.ifCond .ne 5, 3) := by decide +kernel
theorem dX11_years_30 : decode cX11_years 30 = .ok (.iconst (-1), 1) := by decide +kernel
theorem dX11_years_31 : decode cX11_years 31 = .ok (.ireturn, 1) := by decide +kernel
theorem dX11_years_32 : decode cX11_years 32 = .ok (.aload_n 0, 1) := by decide +kernel
theorem dX11_years_33 : decode cX11_years 33 = .ok (.iload_n 1, 1) := by decide +kernel
theorem dX11_years_34 : decode cX11_years 34 = .ok (.i2l, 1) := by decide +kernel
theorem dX11_years_35 : decode cX11_years 35 = .ok (.putfield 306, 3) := by decide +kernel
theorem dX11_years_38 : decode cX11_years 38 = .ok (.iconst 0, 1) := by decide +kernel
theorem dX11_years_39 : decode cX11_years 39 = .ok (.istore 4, 2) := by decide +kernel
theorem dX11_years_41 : decode cX11_years 41 = .ok (.aload_n 0, 1) := by decide +kernel
theorem dX11_years_42 : decode cX11_years 42 = .ok (.getfield 50, 3) := by decide +kernel
theorem dX11_years_45 : decode cX11_years 45 = .ok (.aload_n 0, 1) := by decide +kernel
theorem dX11_years_46 : decode cX11_years 46 = .ok (.getfield 56, 3) := by decide +kernel
theorem dX11_years_49 : decode cX11_years 49 = .ok (.aload_n 0, 1) := by decide +kernel
theorem dX11_years_50 : decode cX11_years 50 = .ok (.getfield 46, 3) := by decide +kernel
theorem dX11_years_53 : decode cX11_years 53 = .ok (.getfield 136, 3) := by decide +kernel
theorem dX11_years_56 : decode cX11_years 56 = .ok (.invokevirtual 81, 3) := by decide +kernel
theorem dX11_years_59 : decode cX11_years 59 = .ok (.iconst 0, 1) := by decide +kernel
theorem dX11_years_60 : decode cX11_years 60 = .ok (.istore 5, 2) := by decide +kernel
theorem dX11_years_62 : decode cX11_years 62 = .ok (.iload 5, 2) := by decide +kernel
theorem dX11_years_64 : decode cX11_years 64 = .ok (.iload_n 2, 1) := by decide +kernel
theorem dX11_years_65 : decode cX11_years 65 = .ok (.if_icmp .ge 64, 3) := by decide +kernel
theorem dX11_years_68 : decode cX11_years 68 = .ok (.aload_n 0, 1) := by decide +kernel
theorem dX11_years_69 : decode cX11_years 69 = .ok (.getfield 50, 3) := by decide +kernel
theorem dX11_years_72 : decode cX11_years 72 = .ok (.getfield 114, 3) := by decide +kernel
theorem dX11_years_75 : decode cX11_years 75 = .ok (.istore 6, 2) := by decide +kernel
theorem dX11_years_77 : decode cX11_years 77 = .ok (.aload_n 0, 1) := by decide +kernel
theorem dX11_years_78 : decode cX11_years 78 = .ok (.invokevirtual 310, 3) := by decide +kernel
theorem dX11_years_81 : decode cX11_years 81 = .ok (.iload 4, 2) := by decide +kernel
theorem dX11_years_83 : decode cX11_years 83 = .ok (.aload_n 0, 1) := by decide +kernel
theorem dX11_years_84 : decode cX11_years 84 = .ok (.getfield 50, 3) := by decide +kernel
theorem dX11_years_87 : decode cX11_years 87 = .ok (.getfield 114, 3) := by decide +kernel
theorem dX11_years_90 : decode cX11_years 90 = .ok (.iload 6, 2) := by decide +kernel
theorem dX11_years_92 : decode cX11_years 92 = .ok (.if_icmp .eq 7, 3) := by decide +kernel
theorem dX11_years_95 : decode cX11_years 95 = .ok (.iconst 1, 1) := by decide +kernel
theorem dX11_years_96 : decode cX11_years 96 = .ok (.goto 4, 3) := by decide +kernel
theorem dX11_years_99 : decode cX11_years 99 = .ok (.iconst 0, 1) := by decide +kernel
theorem dX11_years_100 : decode cX11_years 100 = .ok (.iadd, 1) := by decide +kernel
theorem dX11_years_101 : decode cX11_years 101 = .ok (.istore 4, 2) := by decide +kernel
theorem dX11_years_103 : decode cX11_years 103 = .ok (.iload 4, 2) := by decide +kernel
theorem dX11_years_105 : decode cX11_years 105 = .ok (.aload_n 0, 1) := by decide +kernel
theorem dX11_years_106 : decode cX11_years 106 = .ok (.getfield 50, 3) := by decide +kernel
theorem dX11_years_109 : decode cX11_years 109 = .ok (.invokevirtual 185, 3) := by decide +kernel
theorem dX11_years_112 : decode cX11_years 112 = .ok (.ifCond .eq 7, 3) := by decide +kernel
theorem dX11_years_115 : decode cX11_years 115 = .ok (.iconst 1, 1) := by decide +kernel
theorem dX11_years_116 : decode cX11_years 116 = .ok (.goto 4, 3) := by decide +kernel
theorem dX11_years_119 : decode cX11_years 119 = .ok (.iconst 0, 1) := by decide +kernel
theorem dX11_years_120 : decode cX11_years 120 = .ok (.iadd, 1) := by decide +kernel
theorem dX11_years_121 : decode cX11_years 121 = .ok (.istore 4, 2) := by decide +kernel
theorem dX11_years_123 : decode cX11_years 123 = .ok (.iinc 5 1, 3) := by decide +kernel
theorem dX11_years_126 : decode cX11_years 126 = .ok (.goto (-64), 3) := by decide +kernel
theorem dX11_years_129 : decode cX11_years 129 = .ok (.iload_n 3, 1) := by decide +kernel
theorem dX11_years_130 : decode cX11_years 130 = .ok (.ifCond .ne 6, 3) := by decide +kernel
theorem dX11_years_133 : decode cX11_years 133 = .ok (.iload 4, 2) := by decide +kernel
theorem dX11_years_135 : decode cX11_years 135 = .ok (.ireturn, 1) := by decide +kernel
theorem dX11_years_136 : decode cX11_years 136 = .ok (.iload_n 3, 1) := by decide +kernel
theorem dX11_years_137 : decode cX11_years 137 = .ok (.iconst 1, 1) := by decide +kernel
theorem dX11_years_138 : decode cX11_years 138 = .ok (.if_icmp .ne 13, 3) := by decide +kernel
theorem dX11_years_141 : decode cX11_years 141 = .ok (.aload_n 0, 1) := by decide +kernel
theorem dX11_years_142 : decode cX11_years 142 = .ok (.getfield 50, 3) := by decide +kernel
theorem dX11_years_145 : decode cX11_years 145 = .ok (.getfield 114, 3) := by decide +kernel
theorem dX11_years_148 : decode cX11_years 148 = .ok (.goto 11, 3) := by decide +kernel
theorem dX11_years_151 : decode cX11_years 151 = .ok (.aload_n 0, 1) := by decide +kernel
theorem dX11_years_152 : decode cX11_years 152 = .ok (.aload_n 0, 1) := by decide +kernel
theorem dX11_years_153 : decode cX11_years 153 = .ok (.getfield 50, 3) := by decide +kernel
theorem dX11_years_156 : decode cX11_years 156 = .ok (.invokevirtual 278, 3) := by decide +kernel
theorem dX11_years_159 : decode cX11_years 159 = .ok (.ireturn, 1) := by decide +kernel
abbrev wd_X11_years (k : Nat → ClassId) (this : Nat) (this_tape : Nat) (this_history : Nat) (this_seen : Nat) (this_measured : Nat) (this_marks : Nat) (this_standing : Nat) (this_now : Nat) (this_now_state : Nat) (this_now_state_lacks : Nat) (this_now_state_lacks_f : Nat → Int32) (this_now_state_feels : Nat) (this_now_state_feels_f : Nat → Int32) (this_now_state_date : Int32) (this_now_next : Nat) (this_now_town : Nat) (this_now_weighs : Int32) (this_now_rounds : Int32) (this_now_flag : Int32) (this_ahead : Nat) (this_ahead_state : Nat) (this_ahead_state_lacks : Nat) (this_ahead_state_lacks_f : Nat → Int32) (this_ahead_state_feels : Nat) (this_ahead_state_feels_f : Nat → Int32) (this_ahead_state_date : Int32) (this_ahead_next : Nat) (this_ahead_next_f : Nat → Int32) (this_ahead_town : Value) (this_ahead_weighs : Int32) (this_ahead_rounds : Int32) (this_ahead_flag : Int32) (this_here : Nat) (this_here_names : Nat) (this_here_kinds : Nat) (this_here_kinds_f : Nat → Int32) (this_here_begin : Nat) (this_here_law : Nat) (this_here_law_steps : Nat) (this_here_law_steps_f : Nat → Int32) (this_here_law_stack : Nat) (this_here_law_stack_f : Nat → Int32) (this_here_law_size : Int32) (this_here_persons : Int32) (this_here_mast : Int32) (this_here_weighs : Int32) (this_here_rounds : Int32) (this_here_toldOnce : Int32) (this_townDraft : Nat) (this_told : Nat) (this_yearDraft : Nat) (this_drawn : Int64) : va_W := [(this, .inr (9, [.ref this_tape, .ref this_history, .ref this_seen, .ref this_measured, .ref this_marks, .ref this_standing, .ref this_now, .ref this_ahead, .ref this_here, .ref this_townDraft, .ref this_told, .ref this_yearDraft, .long this_drawn])), (this_now, .inr (0, [.ref this_now_state, .ref this_now_next, .ref this_now_town, .int this_now_weighs, .int this_now_rounds, .int this_now_flag])), (this_now_state, .inr (5, [.ref this_now_state_lacks, .ref this_now_state_feels, .int this_now_state_date])), (this_now_state_lacks, .inl (k 0, 6, .inl this_now_state_lacks_f)), (this_now_state_feels, .inl (k 0, 6, .inl this_now_state_feels_f)), (this_ahead, .inr (0, [.ref this_ahead_state, .ref this_ahead_next, this_ahead_town, .int this_ahead_weighs, .int this_ahead_rounds, .int this_ahead_flag])), (this_ahead_state, .inr (5, [.ref this_ahead_state_lacks, .ref this_ahead_state_feels, .int this_ahead_state_date])), (this_ahead_state_lacks, .inl (k 0, 6, .inl this_ahead_state_lacks_f)), (this_ahead_state_feels, .inl (k 0, 6, .inl this_ahead_state_feels_f)), (this_ahead_next, .inl (k 0, 6, .inl this_ahead_next_f)), (this_here, .inr (7, [.ref this_here_names, .ref this_here_kinds, .ref this_here_begin, .ref this_here_law, .int this_here_persons, .int this_here_mast, .int this_here_weighs, .int this_here_rounds, .int this_here_toldOnce])), (this_here_kinds, .inl (k 0, 6, .inl this_here_kinds_f)), (this_here_law, .inr (2, [.ref this_here_law_steps, .ref this_here_law_stack, .int this_here_law_size])), (this_here_law_steps, .inl (k 0, 1000, .inl this_here_law_steps_f)), (this_here_law_stack, .inl (k 0, 21, .inl this_here_law_stack_f))]
set_option maxHeartbeats 4000000 in
set_option maxRecDepth 100000 in
theorem c_X11_years (l : Launch) (D : va_G) (k : Nat → ClassId) (this : Nat) (this_tape : Nat) (this_history : Nat) (this_seen : Nat) (this_measured : Nat) (this_marks : Nat) (this_standing : Nat) (this_now : Nat) (this_now_state : Nat) (this_now_state_lacks : Nat) (this_now_state_lacks_f : Nat → Int32) (this_now_state_feels : Nat) (this_now_state_feels_f : Nat → Int32) (this_now_state_date : Int32) (this_now_next : Nat) (this_now_town : Nat) (this_now_weighs : Int32) (this_now_rounds : Int32) (this_now_flag : Int32) (this_ahead : Nat) (this_ahead_state : Nat) (this_ahead_state_lacks : Nat) (this_ahead_state_lacks_f : Nat → Int32) (this_ahead_state_feels : Nat) (this_ahead_state_feels_f : Nat → Int32) (this_ahead_state_date : Int32) (this_ahead_next : Nat) (this_ahead_next_f : Nat → Int32) (this_ahead_town : Value) (this_ahead_weighs : Int32) (this_ahead_rounds : Int32) (this_ahead_flag : Int32) (this_here : Nat) (this_here_names : Nat) (this_here_kinds : Nat) (this_here_kinds_f : Nat → Int32) (this_here_begin : Nat) (this_here_law : Nat) (this_here_law_steps : Nat) (this_here_law_steps_f : Nat → Int32) (this_here_law_stack : Nat) (this_here_law_stack_f : Nat → Int32) (this_here_law_size : Int32) (this_here_persons : Int32) (this_here_mast : Int32) (this_here_weighs : Int32) (this_here_rounds : Int32) (this_here_toldOnce : Int32) (this_townDraft : Nat) (this_told : Nat) (this_yearDraft : Nat) (this_drawn : Int64) (seed : Int32) (days : Int32) (what : Int32) (R0 : Int32 × Int64 × Value × Int32 × Int32 × Int32 × Int32 × (Nat → Int32) × (Nat → Int32) × (Nat → Int32) × (Nat → Int32)) (hm : m_X11_years this_now_state_lacks_f this_now_state_feels_f this_now_state_date this_ahead_state_lacks_f this_ahead_state_feels_f this_ahead_state_date this_ahead_next_f this_ahead_town this_ahead_weighs this_ahead_rounds this_ahead_flag this_here this_here_kinds_f this_here_law_steps_f this_here_law_stack_f this_here_law_size this_here_persons this_here_mast this_here_weighs this_here_rounds this_drawn seed days what = some R0) : CW l D (TY k) yX11_years cX11_years 7 (some .int) 7 152 [.ref this, .int seed, .int days, .int what] (wd_X11_years k this this_tape this_history this_seen this_measured this_marks this_standing this_now this_now_state this_now_state_lacks this_now_state_lacks_f this_now_state_feels this_now_state_feels_f this_now_state_date this_now_next this_now_town this_now_weighs this_now_rounds this_now_flag this_ahead this_ahead_state this_ahead_state_lacks this_ahead_state_lacks_f this_ahead_state_feels this_ahead_state_feels_f this_ahead_state_date this_ahead_next this_ahead_next_f this_ahead_town this_ahead_weighs this_ahead_rounds this_ahead_flag this_here this_here_names this_here_kinds this_here_kinds_f this_here_begin this_here_law this_here_law_steps this_here_law_steps_f this_here_law_stack this_here_law_stack_f this_here_law_size this_here_persons this_here_mast this_here_weighs this_here_rounds this_here_toldOnce this_townDraft this_told this_yearDraft this_drawn) (some (.int R0.1)) (wd_X11_years k this this_tape this_history this_seen this_measured this_marks this_standing this_now this_now_state this_now_state_lacks this_now_state_lacks_f this_now_state_feels this_now_state_feels_f this_now_state_date this_now_next this_now_town this_now_weighs this_now_rounds this_now_flag this_ahead this_ahead_state this_ahead_state_lacks R0.2.2.2.2.2.2.2.1 this_ahead_state_feels R0.2.2.2.2.2.2.2.2.1 R0.2.2.2.2.2.2.1 this_ahead_next R0.2.2.2.2.2.2.2.2.2.1 R0.2.2.1 R0.2.2.2.1 R0.2.2.2.2.1 R0.2.2.2.2.2.1 this_here this_here_names this_here_kinds this_here_kinds_f this_here_begin this_here_law this_here_law_steps this_here_law_steps_f this_here_law_stack R0.2.2.2.2.2.2.2.2.2.2 this_here_law_size this_here_persons this_here_mast this_here_weighs this_here_rounds this_here_toldOnce this_townDraft this_told this_yearDraft R0.2.1) := by
  refine CW.mk (by decide) (Nat.le_of_ble_eq_true rfl) ?_
  intro p e s m args below meth c ls A ⟨hx, hb, hr, hts, hown, hlocks, hml⟩ hP hG hD hA hl hS hq
  have hl : lv_has ls 7 [(0, .ref this), (1, .int seed), (2, .int days), (3, .int what)] := hl
  have h_100 : ∀ (K62 : Int32 → Int32 → Int64 → Int32 → Int32 → Int32 → Int32 → (Nat → Int32) → (Nat → Int32) → (Nat → Int32) → (Nat → Int32) → Option (Int32 × Int64 × Value × Int32 × Int32 × Int32 × Int32 × (Nat → Int32) × (Nat → Int32) × (Nat → Int32) × (Nat → Int32))) (hK62 : ∀ (x4 : Int32) (x5 : Int32) (u_this_drawn : Int64) (u_this_ahead_weighs : Int32) (u_this_ahead_rounds : Int32) (u_this_ahead_flag : Int32) (u_this_ahead_state_date : Int32) (u_this_ahead_state_lacks_f : Nat → Int32) (u_this_ahead_state_feels_f : Nat → Int32) (u_this_ahead_next_f : Nat → Int32) (u_this_here_law_stack_f : Nat → Int32) (H : Heap) (locs : List Loc) (ls : Array Slot), va_P D vwCl (wd_X11_years k this this_tape this_history this_seen this_measured this_marks this_standing this_now this_now_state this_now_state_lacks this_now_state_lacks_f this_now_state_feels this_now_state_feels_f this_now_state_date this_now_next this_now_town this_now_weighs this_now_rounds this_now_flag this_ahead this_ahead_state this_ahead_state_lacks u_this_ahead_state_lacks_f this_ahead_state_feels u_this_ahead_state_feels_f u_this_ahead_state_date this_ahead_next u_this_ahead_next_f (.ref this_here) u_this_ahead_weighs u_this_ahead_rounds u_this_ahead_flag this_here this_here_names this_here_kinds this_here_kinds_f this_here_begin this_here_law this_here_law_steps this_here_law_steps_f this_here_law_stack u_this_here_law_stack_f this_here_law_size this_here_persons this_here_mast this_here_weighs this_here_rounds this_here_toldOnce this_townDraft this_told this_yearDraft u_this_drawn) H → va_D A (wd_X11_years k this this_tape this_history this_seen this_measured this_marks this_standing this_now this_now_state this_now_state_lacks this_now_state_lacks_f this_now_state_feels this_now_state_feels_f this_now_state_date this_now_next this_now_town this_now_weighs this_now_rounds this_now_flag this_ahead this_ahead_state this_ahead_state_lacks u_this_ahead_state_lacks_f this_ahead_state_feels u_this_ahead_state_feels_f u_this_ahead_state_date this_ahead_next u_this_ahead_next_f (.ref this_here) u_this_ahead_weighs u_this_ahead_rounds u_this_ahead_flag this_here this_here_names this_here_kinds this_here_kinds_f this_here_begin this_here_law this_here_law_steps this_here_law_steps_f this_here_law_stack u_this_here_law_stack_f this_here_law_size this_here_persons this_here_mast this_here_weighs this_here_rounds this_here_toldOnce this_townDraft this_told this_yearDraft u_this_drawn) → va_S A s.heap H locs → lv_has ls 7 [(0, .ref this), (2, .int days), (3, .int what), (4, .int x4), (5, .int x5)] → K62 x4 x5 u_this_drawn u_this_ahead_weighs u_this_ahead_rounds u_this_ahead_flag u_this_ahead_state_date u_this_ahead_state_lacks_f u_this_ahead_state_feels_f u_this_ahead_next_f u_this_here_law_stack_f = some R0 → W p l e (Rm 7 152) s m args below meth c H locs 0 0 (MQ below (QW D (some (.int R0.1)) (wd_X11_years k this this_tape this_history this_seen this_measured this_marks this_standing this_now this_now_state this_now_state_lacks this_now_state_lacks_f this_now_state_feels this_now_state_feels_f this_now_state_date this_now_next this_now_town this_now_weighs this_now_rounds this_now_flag this_ahead this_ahead_state this_ahead_state_lacks this_ahead_state_lacks_f this_ahead_state_feels this_ahead_state_feels_f this_ahead_state_date this_ahead_next this_ahead_next_f this_ahead_town this_ahead_weighs this_ahead_rounds this_ahead_flag this_here this_here_names this_here_kinds this_here_kinds_f this_here_begin this_here_law this_here_law_steps this_here_law_steps_f this_here_law_stack this_here_law_stack_f this_here_law_size this_here_persons this_here_mast this_here_weighs this_here_rounds this_here_toldOnce this_townDraft this_told this_yearDraft this_drawn) (wd_X11_years k this this_tape this_history this_seen this_measured this_marks this_standing this_now this_now_state this_now_state_lacks this_now_state_lacks_f this_now_state_feels this_now_state_feels_f this_now_state_date this_now_next this_now_town this_now_weighs this_now_rounds this_now_flag this_ahead this_ahead_state this_ahead_state_lacks R0.2.2.2.2.2.2.2.1 this_ahead_state_feels R0.2.2.2.2.2.2.2.2.1 R0.2.2.2.2.2.2.1 this_ahead_next R0.2.2.2.2.2.2.2.2.2.1 R0.2.2.1 R0.2.2.2.1 R0.2.2.2.2.1 R0.2.2.2.2.2.1 this_here this_here_names this_here_kinds this_here_kinds_f this_here_begin this_here_law this_here_law_steps this_here_law_steps_f this_here_law_stack R0.2.2.2.2.2.2.2.2.2.2 this_here_law_size this_here_persons this_here_mast this_here_weighs this_here_rounds this_here_toldOnce this_townDraft this_told this_yearDraft R0.2.1) s.heap.size) args s 0 0 A) (F0 m 62 ls [])), ∀ (x5 : Int32) (t0 : Int32) (t1 : Int32) (u_this_drawn : Int64) (u_this_ahead_weighs : Int32) (u_this_ahead_rounds : Int32) (u_this_ahead_flag : Int32) (u_this_ahead_state_date : Int32) (u_this_ahead_state_lacks_f : Nat → Int32) (u_this_ahead_state_feels_f : Nat → Int32) (u_this_ahead_next_f : Nat → Int32) (u_this_here_law_stack_f : Nat → Int32) (H : Heap) (locs : List Loc) (ls : Array Slot), va_P D vwCl (wd_X11_years k this this_tape this_history this_seen this_measured this_marks this_standing this_now this_now_state this_now_state_lacks this_now_state_lacks_f this_now_state_feels this_now_state_feels_f this_now_state_date this_now_next this_now_town this_now_weighs this_now_rounds this_now_flag this_ahead this_ahead_state this_ahead_state_lacks u_this_ahead_state_lacks_f this_ahead_state_feels u_this_ahead_state_feels_f u_this_ahead_state_date this_ahead_next u_this_ahead_next_f (.ref this_here) u_this_ahead_weighs u_this_ahead_rounds u_this_ahead_flag this_here this_here_names this_here_kinds this_here_kinds_f this_here_begin this_here_law this_here_law_steps this_here_law_steps_f this_here_law_stack u_this_here_law_stack_f this_here_law_size this_here_persons this_here_mast this_here_weighs this_here_rounds this_here_toldOnce this_townDraft this_told this_yearDraft u_this_drawn) H → va_D A (wd_X11_years k this this_tape this_history this_seen this_measured this_marks this_standing this_now this_now_state this_now_state_lacks this_now_state_lacks_f this_now_state_feels this_now_state_feels_f this_now_state_date this_now_next this_now_town this_now_weighs this_now_rounds this_now_flag this_ahead this_ahead_state this_ahead_state_lacks u_this_ahead_state_lacks_f this_ahead_state_feels u_this_ahead_state_feels_f u_this_ahead_state_date this_ahead_next u_this_ahead_next_f (.ref this_here) u_this_ahead_weighs u_this_ahead_rounds u_this_ahead_flag this_here this_here_names this_here_kinds this_here_kinds_f this_here_begin this_here_law this_here_law_steps this_here_law_steps_f this_here_law_stack u_this_here_law_stack_f this_here_law_size this_here_persons this_here_mast this_here_weighs this_here_rounds this_here_toldOnce this_townDraft this_told this_yearDraft u_this_drawn) → va_S A s.heap H locs → lv_has ls 7 [(0, .ref this), (2, .int days), (3, .int what), (5, .int x5)] → m_X11_years_100 this_now_state_lacks_f this_now_state_feels_f this_now_state_date this_here this_here_kinds_f this_here_law_steps_f this_here_law_size this_here_persons this_here_mast this_here_weighs this_here_rounds seed days what K62 x5 t0 t1 u_this_drawn u_this_ahead_weighs u_this_ahead_rounds u_this_ahead_flag u_this_ahead_state_date u_this_ahead_state_lacks_f u_this_ahead_state_feels_f u_this_ahead_next_f u_this_here_law_stack_f = some R0 → W p l e (Rm 7 152) s m args below meth c H locs 0 0 (MQ below (QW D (some (.int R0.1)) (wd_X11_years k this this_tape this_history this_seen this_measured this_marks this_standing this_now this_now_state this_now_state_lacks this_now_state_lacks_f this_now_state_feels this_now_state_feels_f this_now_state_date this_now_next this_now_town this_now_weighs this_now_rounds this_now_flag this_ahead this_ahead_state this_ahead_state_lacks this_ahead_state_lacks_f this_ahead_state_feels this_ahead_state_feels_f this_ahead_state_date this_ahead_next this_ahead_next_f this_ahead_town this_ahead_weighs this_ahead_rounds this_ahead_flag this_here this_here_names this_here_kinds this_here_kinds_f this_here_begin this_here_law this_here_law_steps this_here_law_steps_f this_here_law_stack this_here_law_stack_f this_here_law_size this_here_persons this_here_mast this_here_weighs this_here_rounds this_here_toldOnce this_townDraft this_told this_yearDraft this_drawn) (wd_X11_years k this this_tape this_history this_seen this_measured this_marks this_standing this_now this_now_state this_now_state_lacks this_now_state_lacks_f this_now_state_feels this_now_state_feels_f this_now_state_date this_now_next this_now_town this_now_weighs this_now_rounds this_now_flag this_ahead this_ahead_state this_ahead_state_lacks R0.2.2.2.2.2.2.2.1 this_ahead_state_feels R0.2.2.2.2.2.2.2.2.1 R0.2.2.2.2.2.2.1 this_ahead_next R0.2.2.2.2.2.2.2.2.2.1 R0.2.2.1 R0.2.2.2.1 R0.2.2.2.2.1 R0.2.2.2.2.2.1 this_here this_here_names this_here_kinds this_here_kinds_f this_here_begin this_here_law this_here_law_steps this_here_law_steps_f this_here_law_stack R0.2.2.2.2.2.2.2.2.2.2 this_here_law_size this_here_persons this_here_mast this_here_weighs this_here_rounds this_here_toldOnce this_townDraft this_told this_yearDraft R0.2.1) s.heap.size) args s 0 0 A) (F0 m 100 ls [.int t0, .int t1]) := by
    intro K62 hK62 x5 t0 t1 u_this_drawn u_this_ahead_weighs u_this_ahead_rounds u_this_ahead_flag u_this_ahead_state_date u_this_ahead_state_lacks_f u_this_ahead_state_feels_f u_this_ahead_next_f u_this_here_law_stack_f H locs ls hP hD hS hl hm
    unfold m_X11_years_100 at hm
    refine lv_iadd (pc := 100) hx hb dX11_years_100 ?_
    refine lv_istore (lv' := [(4, .int (t1 + t0)), (0, .ref this), (2, .int days), (3, .int what), (5, .int x5)]) (pc := 101) hx hb dX11_years_101 hl (Nat.le_of_ble_eq_true rfl) rfl (fun ls hl => ?_)
    refine lv_iload (pc := 103) hx hb dX11_years_103 (lv_at hl 0 rfl) ?_
    refine lv_aload_n (pc := 105) hx hb dX11_years_105 rfl (lv_at hl 1 rfl) ?_
    refine va_get (pc := 106) (D := D) (ci := 9) (C := RX11) (T := TX11) (N := 13) hx hb hts hiX11 hown hG.1 hP 0 rfl rfl 7 (Nat.le_of_ble_eq_true rfl) (hts _ kw_351) (fun _ h9 => h9) rfl dX11_years_106 ?_
    obtain ⟨r8, hcl, hm⟩ := bd hm
    refine cw_mask (ws' := (wd_X11_years k this this_tape this_history this_seen this_measured this_marks this_standing this_now this_now_state this_now_state_lacks this_now_state_lacks_f this_now_state_feels this_now_state_feels_f this_now_state_date this_now_next this_now_town this_now_weighs this_now_rounds this_now_flag this_ahead this_ahead_state this_ahead_state_lacks r8.2.2.2.1 this_ahead_state_feels u_this_ahead_state_feels_f r8.2.2.1 this_ahead_next r8.2.2.2.2.1 (.ref this_here) u_this_ahead_weighs u_this_ahead_rounds r8.2.1 this_here this_here_names this_here_kinds this_here_kinds_f this_here_begin this_here_law this_here_law_steps this_here_law_steps_f this_here_law_stack r8.2.2.2.2.2 this_here_law_size this_here_persons this_here_mast this_here_weighs this_here_rounds this_here_toldOnce this_townDraft this_told this_yearDraft u_this_drawn)) (run_VN (pc := 109) (n := 0) (As := []) (rest := [.int (t1 + t0)]) ⟨hx, hb, hml, hown, hts⟩ ((c_X1_wayOfNextDay l D k this_ahead this_ahead_state this_ahead_state_lacks u_this_ahead_state_lacks_f this_ahead_state_feels u_this_ahead_state_feels_f u_this_ahead_state_date this_ahead_next u_this_ahead_next_f this_here this_here_names this_here_kinds this_here_kinds_f this_here_begin this_here_law this_here_law_steps this_here_law_steps_f this_here_law_stack u_this_here_law_stack_f this_here_law_size this_here_persons this_here_mast this_here_weighs this_here_rounds this_here_toldOnce u_this_ahead_weighs u_this_ahead_rounds u_this_ahead_flag r8 hcl) H.size) ⟨kw_865, kw_8, by decide +kernel⟩ hG kn_862 kw_864 ks_67 ⟨Nat.le_of_ble_eq_true rfl, Nat.le_of_ble_eq_true rfl⟩ pw_blind (prW (P_pick [false, false, false, false, false, true, true, true, true, true, true, true, true, true, true] rfl hP) hG (D_pick [false, false, false, false, false, true, true, true, true, true, true, true, true, true, true] rfl hD)) (va_recv hG.1 hP (ci := 0) (q0 := 5) rfl rfl) rfl hl.1 rfl (Nat.le_of_ble_eq_true rfl) dX11_years_109 ⟨Nat.zero_le _, Nat.zero_le _⟩) hP hD hS hA [false, false, false, false, false, true, true, true, true, true, true, true, true, true, true] rfl rfl rfl (fun H locs hP hD hS => ?_)
    refine lv_if_eq (tgt := 119) (pc := 112) hx hb dX11_years_112 (by decide) (fun hc => ?_) (fun hc => ?_)
    · rw [if_pos hc] at hm
      refine lv_iconst (v := 0) (pc := 119) hx hb dX11_years_119 (by decide) ?_
      refine lv_iadd (pc := 120) hx hb dX11_years_120 ?_
      refine lv_istore (lv' := [(4, .int ((t1 + t0) + 0)), (0, .ref this), (2, .int days), (3, .int what), (5, .int x5)]) (pc := 121) hx hb dX11_years_121 hl (Nat.le_of_ble_eq_true rfl) rfl (fun ls hl => ?_)
      refine lv_iinc (k := 4) (v := x5 + 1) (lv' := [(5, .int (x5 + 1)), (4, .int ((t1 + t0) + 0)), (0, .ref this), (2, .int days), (3, .int what)]) (pc := 123) hx hb dX11_years_123 hl rfl rfl (Nat.le_of_ble_eq_true rfl) rfl (fun ls hl => ?_)
      refine lv_goto (tgt := 62) (pc := 126) hx hb dX11_years_126 (by decide) ?_
      exact hK62 ((t1 + t0) + 0) (x5 + 1) u_this_drawn u_this_ahead_weighs u_this_ahead_rounds r8.2.1 r8.2.2.1 r8.2.2.2.1 u_this_ahead_state_feels_f r8.2.2.2.2.1 r8.2.2.2.2.2 H locs ls hP hD hS (lv_sub hl [2, 3, 4, 1, 0] rfl) hm
    · rw [if_neg hc] at hm
      refine lv_iconst (v := 1) (pc := 115) hx hb dX11_years_115 (by decide) ?_
      refine lv_goto (tgt := 120) (pc := 116) hx hb dX11_years_116 (by decide) ?_
      refine lv_iadd (pc := 120) hx hb dX11_years_120 ?_
      refine lv_istore (lv' := [(4, .int ((t1 + t0) + 1)), (0, .ref this), (2, .int days), (3, .int what), (5, .int x5)]) (pc := 121) hx hb dX11_years_121 hl (Nat.le_of_ble_eq_true rfl) rfl (fun ls hl => ?_)
      refine lv_iinc (k := 4) (v := x5 + 1) (lv' := [(5, .int (x5 + 1)), (4, .int ((t1 + t0) + 1)), (0, .ref this), (2, .int days), (3, .int what)]) (pc := 123) hx hb dX11_years_123 hl rfl rfl (Nat.le_of_ble_eq_true rfl) rfl (fun ls hl => ?_)
      refine lv_goto (tgt := 62) (pc := 126) hx hb dX11_years_126 (by decide) ?_
      exact hK62 ((t1 + t0) + 1) (x5 + 1) u_this_drawn u_this_ahead_weighs u_this_ahead_rounds r8.2.1 r8.2.2.1 r8.2.2.2.1 u_this_ahead_state_feels_f r8.2.2.2.2.1 r8.2.2.2.2.2 H locs ls hP hD hS (lv_sub hl [2, 3, 4, 1, 0] rfl) hm
  have h_62 : ∀ (n : Nat), ∀ (x4 : Int32) (x5 : Int32) (u_this_drawn : Int64) (u_this_ahead_weighs : Int32) (u_this_ahead_rounds : Int32) (u_this_ahead_flag : Int32) (u_this_ahead_state_date : Int32) (u_this_ahead_state_lacks_f : Nat → Int32) (u_this_ahead_state_feels_f : Nat → Int32) (u_this_ahead_next_f : Nat → Int32) (u_this_here_law_stack_f : Nat → Int32) (H : Heap) (locs : List Loc) (ls : Array Slot), va_P D vwCl (wd_X11_years k this this_tape this_history this_seen this_measured this_marks this_standing this_now this_now_state this_now_state_lacks this_now_state_lacks_f this_now_state_feels this_now_state_feels_f this_now_state_date this_now_next this_now_town this_now_weighs this_now_rounds this_now_flag this_ahead this_ahead_state this_ahead_state_lacks u_this_ahead_state_lacks_f this_ahead_state_feels u_this_ahead_state_feels_f u_this_ahead_state_date this_ahead_next u_this_ahead_next_f (.ref this_here) u_this_ahead_weighs u_this_ahead_rounds u_this_ahead_flag this_here this_here_names this_here_kinds this_here_kinds_f this_here_begin this_here_law this_here_law_steps this_here_law_steps_f this_here_law_stack u_this_here_law_stack_f this_here_law_size this_here_persons this_here_mast this_here_weighs this_here_rounds this_here_toldOnce this_townDraft this_told this_yearDraft u_this_drawn) H → va_D A (wd_X11_years k this this_tape this_history this_seen this_measured this_marks this_standing this_now this_now_state this_now_state_lacks this_now_state_lacks_f this_now_state_feels this_now_state_feels_f this_now_state_date this_now_next this_now_town this_now_weighs this_now_rounds this_now_flag this_ahead this_ahead_state this_ahead_state_lacks u_this_ahead_state_lacks_f this_ahead_state_feels u_this_ahead_state_feels_f u_this_ahead_state_date this_ahead_next u_this_ahead_next_f (.ref this_here) u_this_ahead_weighs u_this_ahead_rounds u_this_ahead_flag this_here this_here_names this_here_kinds this_here_kinds_f this_here_begin this_here_law this_here_law_steps this_here_law_steps_f this_here_law_stack u_this_here_law_stack_f this_here_law_size this_here_persons this_here_mast this_here_weighs this_here_rounds this_here_toldOnce this_townDraft this_told this_yearDraft u_this_drawn) → va_S A s.heap H locs → lv_has ls 7 [(0, .ref this), (2, .int days), (3, .int what), (4, .int x4), (5, .int x5)] → m_X11_years_62 this_now_state_lacks_f this_now_state_feels_f this_now_state_date this_here this_here_kinds_f this_here_law_steps_f this_here_law_size this_here_persons this_here_mast this_here_weighs this_here_rounds seed days what n x4 x5 u_this_drawn u_this_ahead_weighs u_this_ahead_rounds u_this_ahead_flag u_this_ahead_state_date u_this_ahead_state_lacks_f u_this_ahead_state_feels_f u_this_ahead_next_f u_this_here_law_stack_f = some R0 → W p l e (Rm 7 152) s m args below meth c H locs 0 0 (MQ below (QW D (some (.int R0.1)) (wd_X11_years k this this_tape this_history this_seen this_measured this_marks this_standing this_now this_now_state this_now_state_lacks this_now_state_lacks_f this_now_state_feels this_now_state_feels_f this_now_state_date this_now_next this_now_town this_now_weighs this_now_rounds this_now_flag this_ahead this_ahead_state this_ahead_state_lacks this_ahead_state_lacks_f this_ahead_state_feels this_ahead_state_feels_f this_ahead_state_date this_ahead_next this_ahead_next_f this_ahead_town this_ahead_weighs this_ahead_rounds this_ahead_flag this_here this_here_names this_here_kinds this_here_kinds_f this_here_begin this_here_law this_here_law_steps this_here_law_steps_f this_here_law_stack this_here_law_stack_f this_here_law_size this_here_persons this_here_mast this_here_weighs this_here_rounds this_here_toldOnce this_townDraft this_told this_yearDraft this_drawn) (wd_X11_years k this this_tape this_history this_seen this_measured this_marks this_standing this_now this_now_state this_now_state_lacks this_now_state_lacks_f this_now_state_feels this_now_state_feels_f this_now_state_date this_now_next this_now_town this_now_weighs this_now_rounds this_now_flag this_ahead this_ahead_state this_ahead_state_lacks R0.2.2.2.2.2.2.2.1 this_ahead_state_feels R0.2.2.2.2.2.2.2.2.1 R0.2.2.2.2.2.2.1 this_ahead_next R0.2.2.2.2.2.2.2.2.2.1 R0.2.2.1 R0.2.2.2.1 R0.2.2.2.2.1 R0.2.2.2.2.2.1 this_here this_here_names this_here_kinds this_here_kinds_f this_here_begin this_here_law this_here_law_steps this_here_law_steps_f this_here_law_stack R0.2.2.2.2.2.2.2.2.2.2 this_here_law_size this_here_persons this_here_mast this_here_weighs this_here_rounds this_here_toldOnce this_townDraft this_told this_yearDraft R0.2.1) s.heap.size) args s 0 0 A) (F0 m 62 ls []) := by
    intro n
    induction n with
    | zero => intro x4 x5 u_this_drawn u_this_ahead_weighs u_this_ahead_rounds u_this_ahead_flag u_this_ahead_state_date u_this_ahead_state_lacks_f u_this_ahead_state_feels_f u_this_ahead_next_f u_this_here_law_stack_f H locs ls hP hD hS hl hm; cases hm
    | succ n ih =>
      intro x4 x5 u_this_drawn u_this_ahead_weighs u_this_ahead_rounds u_this_ahead_flag u_this_ahead_state_date u_this_ahead_state_lacks_f u_this_ahead_state_feels_f u_this_ahead_next_f u_this_here_law_stack_f H locs ls hP hD hS hl hm
      unfold m_X11_years_62 at hm
      refine lv_iload (pc := 62) hx hb dX11_years_62 (lv_at hl 4 rfl) ?_
      refine lv_iload_n (pc := 64) hx hb dX11_years_64 rfl (lv_at hl 1 rfl) ?_
      refine lv_icmp_ge (tgt := 129) (pc := 65) hx hb dX11_years_65 (by decide) (fun hc => ?_) (fun hc => ?_)
      · rw [if_pos hc] at hm
        refine lv_iload_n (pc := 129) hx hb dX11_years_129 rfl (lv_at hl 2 rfl) ?_
        refine lv_if_ne (tgt := 136) (pc := 130) hx hb dX11_years_130 (by decide) (fun hc => ?_) (fun hc => ?_)
        · rw [if_neg hc] at hm
          refine lv_iload_n (pc := 136) hx hb dX11_years_136 rfl (lv_at hl 2 rfl) ?_
          refine lv_iconst (v := 1) (pc := 137) hx hb dX11_years_137 (by decide) ?_
          refine lv_icmp_ne (tgt := 151) (pc := 138) hx hb dX11_years_138 (by decide) (fun hc => ?_) (fun hc => ?_)
          · rw [if_neg hc] at hm
            refine lv_aload_n (pc := 151) hx hb dX11_years_151 rfl (lv_at hl 0 rfl) ?_
            refine lv_aload_n (pc := 152) hx hb dX11_years_152 rfl (lv_at hl 0 rfl) ?_
            refine va_get (pc := 153) (D := D) (ci := 9) (C := RX11) (T := TX11) (N := 13) hx hb hts hiX11 hown hG.1 hP 0 rfl rfl 7 (Nat.le_of_ble_eq_true rfl) (hts _ kw_351) (fun _ h9 => h9) rfl dX11_years_153 ?_
            obtain ⟨r9, hcl, hm⟩ := bd hm
            refine cr_back (run_V (pc := 156) (n := 1) (As := [.ref this_ahead]) (rest := []) ⟨hx, hb, hml, hown, hts⟩ (c_X11_lackedByAll l D k this this_tape this_history this_seen this_measured this_marks this_standing this_now this_ahead this_here this_here_names this_here_kinds this_here_begin this_here_law this_here_persons this_here_mast this_here_weighs this_here_rounds this_here_toldOnce this_townDraft this_told this_yearDraft u_this_drawn this_ahead this_ahead_state this_ahead_state_lacks u_this_ahead_state_lacks_f this_ahead_state_feels u_this_ahead_state_date this_ahead_next this_here u_this_ahead_weighs u_this_ahead_rounds u_this_ahead_flag r9 hcl) ⟨kw_1054, kw_1, by decide +kernel⟩ kw_1051 kw_1053 ks_83 ⟨Nat.le_of_ble_eq_true rfl, Nat.le_of_ble_eq_true rfl⟩ pr_blind (prR (hP.sub [0, 10, 5, 6, 7] rfl) hG) (va_recv hG.1 hP (ci := 9) (q0 := 0) rfl rfl) rfl hl.1 rfl (Nat.le_of_ble_eq_true rfl) dX11_years_156 ⟨Nat.zero_le _, Nat.zero_le _⟩) ?_
            rw [← Option.some.inj hm]
            exact W.iret hx hb hr (fun t ht _ => hq _ _ H t ht hP hD locs hS) hS.2.2 dX11_years_159 hlocks
          · rw [if_pos hc] at hm
            refine lv_aload_n (pc := 141) hx hb dX11_years_141 rfl (lv_at hl 0 rfl) ?_
            refine va_get (pc := 142) (D := D) (ci := 9) (C := RX11) (T := TX11) (N := 13) hx hb hts hiX11 hown hG.1 hP 0 rfl rfl 7 (Nat.le_of_ble_eq_true rfl) (hts _ kw_351) (fun _ h9 => h9) rfl dX11_years_142 ?_
            refine va_getN (pc := 145) (D := D) (ci := 0) (C := RX1) (T := TX1) (N := 6) hx hb hts hiX1 hown hG.1 hP 5 rfl rfl 5 (Nat.le_of_ble_eq_true rfl) (va_Nw.use rfl (hG.2 _ kn_156)) (fun _ h9 => h9) rfl dX11_years_145 ?_
            refine lv_goto (tgt := 159) (pc := 148) hx hb dX11_years_148 (by decide) ?_
            rw [← Option.some.inj hm]
            exact W.iret hx hb hr (fun t ht _ => hq _ _ H t ht hP hD locs hS) hS.2.2 dX11_years_159 hlocks
        · rw [if_pos hc] at hm
          refine lv_iload (pc := 133) hx hb dX11_years_133 (lv_at hl 3 rfl) ?_
          rw [← Option.some.inj hm]
          exact W.iret hx hb hr (fun t ht _ => hq _ _ H t ht hP hD locs hS) hS.2.2 dX11_years_135 hlocks
      · rw [if_neg hc] at hm
        refine lv_aload_n (pc := 68) hx hb dX11_years_68 rfl (lv_at hl 0 rfl) ?_
        refine va_get (pc := 69) (D := D) (ci := 9) (C := RX11) (T := TX11) (N := 13) hx hb hts hiX11 hown hG.1 hP 0 rfl rfl 7 (Nat.le_of_ble_eq_true rfl) (hts _ kw_351) (fun _ h9 => h9) rfl dX11_years_69 ?_
        refine va_getN (pc := 72) (D := D) (ci := 0) (C := RX1) (T := TX1) (N := 6) hx hb hts hiX1 hown hG.1 hP 5 rfl rfl 5 (Nat.le_of_ble_eq_true rfl) (va_Nw.use rfl (hG.2 _ kn_156)) (fun _ h9 => h9) rfl dX11_years_72 ?_
        refine lv_istore (lv' := [(6, .int u_this_ahead_flag), (0, .ref this), (2, .int days), (3, .int what), (4, .int x4), (5, .int x5)]) (pc := 75) hx hb dX11_years_75 hl (Nat.le_of_ble_eq_true rfl) rfl (fun ls hl => ?_)
        refine lv_aload_n (pc := 77) hx hb dX11_years_77 rfl (lv_at hl 1 rfl) ?_
        obtain ⟨r10, hcl, hm⟩ := bd hm
        refine cw_mask (ws' := (wd_X11_years k this this_tape this_history this_seen this_measured this_marks this_standing this_now this_now_state this_now_state_lacks this_now_state_lacks_f this_now_state_feels this_now_state_feels_f this_now_state_date this_now_next this_now_town this_now_weighs this_now_rounds this_now_flag this_ahead this_ahead_state this_ahead_state_lacks r10.2.2 this_ahead_state_feels u_this_ahead_state_feels_f u_this_ahead_state_date this_ahead_next u_this_ahead_next_f (.ref this_here) u_this_ahead_weighs u_this_ahead_rounds r10.2.1 this_here this_here_names this_here_kinds this_here_kinds_f this_here_begin this_here_law this_here_law_steps this_here_law_steps_f this_here_law_stack u_this_here_law_stack_f this_here_law_size this_here_persons this_here_mast this_here_weighs this_here_rounds this_here_toldOnce this_townDraft this_told this_yearDraft r10.1)) (run_V (pc := 78) (n := 0) (As := []) (rest := []) ⟨hx, hb, hml, hown, hts⟩ ((c_X11_doByDraws l D k this this_tape this_history this_seen this_measured this_marks this_standing this_now this_ahead this_ahead_state this_ahead_state_lacks u_this_ahead_state_lacks_f this_ahead_state_feels u_this_ahead_state_feels_f u_this_ahead_state_date this_ahead_next this_here this_here_names this_here_kinds this_here_kinds_f this_here_begin this_here_law this_here_persons this_here_mast this_here_weighs this_here_rounds this_here_toldOnce u_this_ahead_weighs u_this_ahead_rounds u_this_ahead_flag this_townDraft this_told this_yearDraft u_this_drawn r10 hcl) H.size) ⟨kw_1074, kw_1, by decide +kernel⟩ kw_1071 kw_1073 ks_85 ⟨Nat.le_of_ble_eq_true rfl, Nat.le_of_ble_eq_true rfl⟩ pw_blind (prW (P_pick [true, false, false, false, false, true, true, true, true, false, true, true] rfl hP) hG (D_pick [true, false, false, false, false, true, true, true, true, false, true, true] rfl hD)) (va_recv hG.1 hP (ci := 9) (q0 := 0) rfl rfl) rfl hl.1 rfl (Nat.le_of_ble_eq_true rfl) dX11_years_78 ⟨Nat.zero_le _, Nat.zero_le _⟩) hP hD hS hA [true, false, false, false, false, true, true, true, true, false, true, true] rfl rfl rfl (fun H locs hP hD hS => ?_)
        refine lv_iload (pc := 81) hx hb dX11_years_81 (lv_at hl 4 rfl) ?_
        refine lv_aload_n (pc := 83) hx hb dX11_years_83 rfl (lv_at hl 1 rfl) ?_
        refine va_get (pc := 84) (D := D) (ci := 9) (C := RX11) (T := TX11) (N := 13) hx hb hts hiX11 hown hG.1 hP 0 rfl rfl 7 (Nat.le_of_ble_eq_true rfl) (hts _ kw_351) (fun _ h9 => h9) rfl dX11_years_84 ?_
        refine va_getN (pc := 87) (D := D) (ci := 0) (C := RX1) (T := TX1) (N := 6) hx hb hts hiX1 hown hG.1 hP 5 rfl rfl 5 (Nat.le_of_ble_eq_true rfl) (va_Nw.use rfl (hG.2 _ kn_156)) (fun _ h9 => h9) rfl dX11_years_87 ?_
        refine lv_iload (pc := 90) hx hb dX11_years_90 (lv_at hl 0 rfl) ?_
        refine lv_icmp_eq (tgt := 99) (pc := 92) hx hb dX11_years_92 (by decide) (fun hc => ?_) (fun hc => ?_)
        · rw [if_pos hc] at hm
          refine lv_iconst (v := 0) (pc := 99) hx hb dX11_years_99 (by decide) ?_
          exact h_100 (m_X11_years_62 this_now_state_lacks_f this_now_state_feels_f this_now_state_date this_here this_here_kinds_f this_here_law_steps_f this_here_law_size this_here_persons this_here_mast this_here_weighs this_here_rounds seed days what n) ih x5 0 x4 r10.1 u_this_ahead_weighs u_this_ahead_rounds r10.2.1 u_this_ahead_state_date r10.2.2 u_this_ahead_state_feels_f u_this_ahead_next_f u_this_here_law_stack_f H locs ls hP hD hS (lv_sub hl [1, 2, 3, 5] rfl) hm
        · rw [if_neg hc] at hm
          refine lv_iconst (v := 1) (pc := 95) hx hb dX11_years_95 (by decide) ?_
          refine lv_goto (tgt := 100) (pc := 96) hx hb dX11_years_96 (by decide) ?_
          exact h_100 (m_X11_years_62 this_now_state_lacks_f this_now_state_feels_f this_now_state_date this_here this_here_kinds_f this_here_law_steps_f this_here_law_size this_here_persons this_here_mast this_here_weighs this_here_rounds seed days what n) ih x5 1 x4 r10.1 u_this_ahead_weighs u_this_ahead_rounds r10.2.1 u_this_ahead_state_date r10.2.2 u_this_ahead_state_feels_f u_this_ahead_next_f u_this_here_law_stack_f H locs ls hP hD hS (lv_sub hl [1, 2, 3, 5] rfl) hm
  unfold m_X11_years at hm
  suffices hgo : ∀ (H : Heap) (locs : List Loc), va_P D vwCl (wd_X11_years k this this_tape this_history this_seen this_measured this_marks this_standing this_now this_now_state this_now_state_lacks this_now_state_lacks_f this_now_state_feels this_now_state_feels_f this_now_state_date this_now_next this_now_town this_now_weighs this_now_rounds this_now_flag this_ahead this_ahead_state this_ahead_state_lacks this_ahead_state_lacks_f this_ahead_state_feels this_ahead_state_feels_f this_ahead_state_date this_ahead_next this_ahead_next_f this_ahead_town this_ahead_weighs this_ahead_rounds this_ahead_flag this_here this_here_names this_here_kinds this_here_kinds_f this_here_begin this_here_law this_here_law_steps this_here_law_steps_f this_here_law_stack this_here_law_stack_f this_here_law_size this_here_persons this_here_mast this_here_weighs this_here_rounds this_here_toldOnce this_townDraft this_told this_yearDraft this_drawn) H → va_D A (wd_X11_years k this this_tape this_history this_seen this_measured this_marks this_standing this_now this_now_state this_now_state_lacks this_now_state_lacks_f this_now_state_feels this_now_state_feels_f this_now_state_date this_now_next this_now_town this_now_weighs this_now_rounds this_now_flag this_ahead this_ahead_state this_ahead_state_lacks this_ahead_state_lacks_f this_ahead_state_feels this_ahead_state_feels_f this_ahead_state_date this_ahead_next this_ahead_next_f this_ahead_town this_ahead_weighs this_ahead_rounds this_ahead_flag this_here this_here_names this_here_kinds this_here_kinds_f this_here_begin this_here_law this_here_law_steps this_here_law_steps_f this_here_law_stack this_here_law_stack_f this_here_law_size this_here_persons this_here_mast this_here_weighs this_here_rounds this_here_toldOnce this_townDraft this_told this_yearDraft this_drawn) → va_S A s.heap H locs → W p l e (Rm 7 152) s m args below meth c H locs 0 0 (MQ below (QW D (some (.int R0.1)) (wd_X11_years k this this_tape this_history this_seen this_measured this_marks this_standing this_now this_now_state this_now_state_lacks this_now_state_lacks_f this_now_state_feels this_now_state_feels_f this_now_state_date this_now_next this_now_town this_now_weighs this_now_rounds this_now_flag this_ahead this_ahead_state this_ahead_state_lacks this_ahead_state_lacks_f this_ahead_state_feels this_ahead_state_feels_f this_ahead_state_date this_ahead_next this_ahead_next_f this_ahead_town this_ahead_weighs this_ahead_rounds this_ahead_flag this_here this_here_names this_here_kinds this_here_kinds_f this_here_begin this_here_law this_here_law_steps this_here_law_steps_f this_here_law_stack this_here_law_stack_f this_here_law_size this_here_persons this_here_mast this_here_weighs this_here_rounds this_here_toldOnce this_townDraft this_told this_yearDraft this_drawn) (wd_X11_years k this this_tape this_history this_seen this_measured this_marks this_standing this_now this_now_state this_now_state_lacks this_now_state_lacks_f this_now_state_feels this_now_state_feels_f this_now_state_date this_now_next this_now_town this_now_weighs this_now_rounds this_now_flag this_ahead this_ahead_state this_ahead_state_lacks R0.2.2.2.2.2.2.2.1 this_ahead_state_feels R0.2.2.2.2.2.2.2.2.1 R0.2.2.2.2.2.2.1 this_ahead_next R0.2.2.2.2.2.2.2.2.2.1 R0.2.2.1 R0.2.2.2.1 R0.2.2.2.2.1 R0.2.2.2.2.2.1 this_here this_here_names this_here_kinds this_here_kinds_f this_here_begin this_here_law this_here_law_steps this_here_law_steps_f this_here_law_stack R0.2.2.2.2.2.2.2.2.2.2 this_here_law_size this_here_persons this_here_mast this_here_weighs this_here_rounds this_here_toldOnce this_townDraft this_told this_yearDraft R0.2.1) s.heap.size) args s 0 0 A) (F0 m 0 ls []) from hgo _ _ hP hD hS
  clear hP hD hS
  intro H locs hP hD hS
  refine lv_iload_n (pc := 0) hx hb dX11_years_0 rfl (lv_at hl 1 rfl) ?_
  refine lv_iconst (v := 0) (pc := 1) hx hb dX11_years_1 (by decide) ?_
  refine lv_sipush (v := 9999) (pc := 2) hx hb dX11_years_2 (by decide) ?_
  obtain ⟨r11, hcl, hm⟩ := bd hm
  refine cr_back (run_S (pc := 5) (n := 3) (As := [.int seed, .int 0, .int 9999]) (rest := []) ⟨hx, hb, hml, hown, hts⟩ (c_X11_within l D k seed 0 9999 r11 hcl) ⟨kw_394, kw_1, by decide +kernel⟩ kw_759 kw_393 ⟨Nat.le_of_ble_eq_true rfl, Nat.le_of_ble_eq_true rfl⟩ pr_blind (prR (hP.sub [] rfl) hG) rfl hl.1 rfl (Nat.le_of_ble_eq_true rfl) dX11_years_5 ⟨Nat.zero_le _, Nat.zero_le _⟩) ?_
  refine lv_if_eq (tgt := 30) (pc := 8) hx hb dX11_years_8 (by decide) (fun hc => ?_) (fun hc => ?_)
  · rw [if_pos hc] at hm
    refine lv_iconst (v := (-1)) (pc := 30) hx hb dX11_years_30 (by decide) ?_
    rw [← Option.some.inj hm]
    exact W.iret hx hb hr (fun t ht _ => hq _ _ H t ht hP hD locs hS) hS.2.2 dX11_years_31 hlocks
  · rw [if_neg hc] at hm
    refine lv_iload_n (pc := 11) hx hb dX11_years_11 rfl (lv_at hl 2 rfl) ?_
    refine lv_iconst (v := 1) (pc := 12) hx hb dX11_years_12 (by decide) ?_
    refine lv_bipush (v := 99) (pc := 13) hx hb dX11_years_13 (by decide) ?_
    obtain ⟨r12, hcl, hm⟩ := bd hm
    refine cr_back (run_S (pc := 15) (n := 3) (As := [.int days, .int 1, .int 99]) (rest := []) ⟨hx, hb, hml, hown, hts⟩ (c_X11_within l D k days 1 99 r12 hcl) ⟨kw_394, kw_1, by decide +kernel⟩ kw_759 kw_393 ⟨Nat.le_of_ble_eq_true rfl, Nat.le_of_ble_eq_true rfl⟩ pr_blind (prR (hP.sub [] rfl) hG) rfl hl.1 rfl (Nat.le_of_ble_eq_true rfl) dX11_years_15 ⟨Nat.zero_le _, Nat.zero_le _⟩) ?_
    refine lv_if_eq (tgt := 30) (pc := 18) hx hb dX11_years_18 (by decide) (fun hc => ?_) (fun hc => ?_)
    · rw [if_pos hc] at hm
      refine lv_iconst (v := (-1)) (pc := 30) hx hb dX11_years_30 (by decide) ?_
      rw [← Option.some.inj hm]
      exact W.iret hx hb hr (fun t ht _ => hq _ _ H t ht hP hD locs hS) hS.2.2 dX11_years_31 hlocks
    · rw [if_neg hc] at hm
      refine lv_iload_n (pc := 21) hx hb dX11_years_21 rfl (lv_at hl 3 rfl) ?_
      refine lv_iconst (v := 0) (pc := 22) hx hb dX11_years_22 (by decide) ?_
      refine lv_iconst (v := 2) (pc := 23) hx hb dX11_years_23 (by decide) ?_
      obtain ⟨r13, hcl, hm⟩ := bd hm
      refine cr_back (run_S (pc := 24) (n := 3) (As := [.int what, .int 0, .int 2]) (rest := []) ⟨hx, hb, hml, hown, hts⟩ (c_X11_within l D k what 0 2 r13 hcl) ⟨kw_394, kw_1, by decide +kernel⟩ kw_759 kw_393 ⟨Nat.le_of_ble_eq_true rfl, Nat.le_of_ble_eq_true rfl⟩ pr_blind (prR (hP.sub [] rfl) hG) rfl hl.1 rfl (Nat.le_of_ble_eq_true rfl) dX11_years_24 ⟨Nat.zero_le _, Nat.zero_le _⟩) ?_
      refine lv_if_ne (tgt := 32) (pc := 27) hx hb dX11_years_27 (by decide) (fun hc => ?_) (fun hc => ?_)
      · rw [if_neg hc] at hm
        refine lv_aload_n (pc := 32) hx hb dX11_years_32 rfl (lv_at hl 0 rfl) ?_
        refine lv_iload_n (pc := 33) hx hb dX11_years_33 rfl (lv_at hl 1 rfl) ?_
        refine lv_i2l (pc := 34) hx hb dX11_years_34 rfl ?_
        refine va_put (pc := 35) (D := D) (ci := 9) (v := .long seed.toInt64) (ty := .long) (C := RX11) (T := TX11) (N := 13) hx hb hts hiX11 tyX11 tyX11_ok nmX11 hown hG.1 hP hD hS 0 rfl rfl 12 (Nat.le_of_ble_eq_true rfl) (hts _ kw_356) (fun _ h9 => h9) rfl (by decide +kernel) rfl rfl (Nat.le_of_ble_eq_true rfl) dX11_years_35 (fun H locs hP hD hS => ?_)
        have hP : va_P D vwCl (wd_X11_years k this this_tape this_history this_seen this_measured this_marks this_standing this_now this_now_state this_now_state_lacks this_now_state_lacks_f this_now_state_feels this_now_state_feels_f this_now_state_date this_now_next this_now_town this_now_weighs this_now_rounds this_now_flag this_ahead this_ahead_state this_ahead_state_lacks this_ahead_state_lacks_f this_ahead_state_feels this_ahead_state_feels_f this_ahead_state_date this_ahead_next this_ahead_next_f this_ahead_town this_ahead_weighs this_ahead_rounds this_ahead_flag this_here this_here_names this_here_kinds this_here_kinds_f this_here_begin this_here_law this_here_law_steps this_here_law_steps_f this_here_law_stack this_here_law_stack_f this_here_law_size this_here_persons this_here_mast this_here_weighs this_here_rounds this_here_toldOnce this_townDraft this_told this_yearDraft seed.toInt64) H := hP
        have hD : va_D A (wd_X11_years k this this_tape this_history this_seen this_measured this_marks this_standing this_now this_now_state this_now_state_lacks this_now_state_lacks_f this_now_state_feels this_now_state_feels_f this_now_state_date this_now_next this_now_town this_now_weighs this_now_rounds this_now_flag this_ahead this_ahead_state this_ahead_state_lacks this_ahead_state_lacks_f this_ahead_state_feels this_ahead_state_feels_f this_ahead_state_date this_ahead_next this_ahead_next_f this_ahead_town this_ahead_weighs this_ahead_rounds this_ahead_flag this_here this_here_names this_here_kinds this_here_kinds_f this_here_begin this_here_law this_here_law_steps this_here_law_steps_f this_here_law_stack this_here_law_stack_f this_here_law_size this_here_persons this_here_mast this_here_weighs this_here_rounds this_here_toldOnce this_townDraft this_told this_yearDraft seed.toInt64) := hD
        refine lv_iconst (v := 0) (pc := 38) hx hb dX11_years_38 (by decide) ?_
        refine lv_istore (lv' := [(4, .int 0), (0, .ref this), (1, .int seed), (2, .int days), (3, .int what)]) (pc := 39) hx hb dX11_years_39 hl (Nat.le_of_ble_eq_true rfl) rfl (fun ls hl => ?_)
        refine lv_aload_n (pc := 41) hx hb dX11_years_41 rfl (lv_at hl 1 rfl) ?_
        refine va_get (pc := 42) (D := D) (ci := 9) (C := RX11) (T := TX11) (N := 13) hx hb hts hiX11 hown hG.1 hP 0 rfl rfl 7 (Nat.le_of_ble_eq_true rfl) (hts _ kw_351) (fun _ h9 => h9) rfl dX11_years_42 ?_
        refine lv_aload_n (pc := 45) hx hb dX11_years_45 rfl (lv_at hl 1 rfl) ?_
        refine va_get (pc := 46) (D := D) (ci := 9) (C := RX11) (T := TX11) (N := 13) hx hb hts hiX11 hown hG.1 hP 0 rfl rfl 8 (Nat.le_of_ble_eq_true rfl) (hts _ kw_352) (fun _ h9 => h9) rfl dX11_years_46 ?_
        refine lv_aload_n (pc := 49) hx hb dX11_years_49 rfl (lv_at hl 1 rfl) ?_
        refine va_get (pc := 50) (D := D) (ci := 9) (C := RX11) (T := TX11) (N := 13) hx hb hts hiX11 hown hG.1 hP 0 rfl rfl 6 (Nat.le_of_ble_eq_true rfl) (hts _ kw_350) (fun _ h9 => h9) rfl dX11_years_50 ?_
        refine va_getN (pc := 53) (D := D) (ci := 0) (C := RX1) (T := TX1) (N := 6) hx hb hts hiX1 hown hG.1 hP 1 rfl rfl 0 (Nat.le_of_ble_eq_true rfl) (va_Nw.use rfl (hG.2 _ kn_149)) (fun _ h9 => h9) rfl dX11_years_53 ?_
        obtain ⟨r14, hcl, hm⟩ := bd hm
        refine cw_maskP (ws' := (wd_X11_years k this this_tape this_history this_seen this_measured this_marks this_standing this_now this_now_state this_now_state_lacks this_now_state_lacks_f this_now_state_feels this_now_state_feels_f this_now_state_date this_now_next this_now_town this_now_weighs this_now_rounds this_now_flag this_ahead this_ahead_state this_ahead_state_lacks r14.2.2.2.2.1 this_ahead_state_feels r14.2.2.2.2.2 r14.2.2.2.1 this_ahead_next this_ahead_next_f (.ref this_here) r14.1 r14.2.1 r14.2.2.1 this_here this_here_names this_here_kinds this_here_kinds_f this_here_begin this_here_law this_here_law_steps this_here_law_steps_f this_here_law_stack this_here_law_stack_f this_here_law_size this_here_persons this_here_mast this_here_weighs this_here_rounds this_here_toldOnce this_townDraft this_told this_yearDraft seed.toInt64)) (run_VN (pc := 56) (n := 2) (As := [.ref this_here, .ref this_now_state]) (rest := []) ⟨hx, hb, hml, hown, hts⟩ ((c_X1_start l D k this_ahead this_ahead_state this_ahead_state_lacks this_ahead_state_lacks_f this_ahead_state_feels this_ahead_state_feels_f this_ahead_state_date this_ahead_next this_ahead_town this_ahead_weighs this_ahead_rounds this_ahead_flag this_here this_here_names this_here_kinds this_here_kinds_f this_here_begin this_here_law this_here_persons this_here_mast this_here_weighs this_here_rounds this_here_toldOnce this_now_state this_now_state_lacks this_now_state_lacks_f this_now_state_feels this_now_state_feels_f this_now_state_date r14 hcl) H.size) ⟨kw_307, kw_8, by decide +kernel⟩ hG kn_304 kw_306 ks_5 ⟨Nat.le_of_ble_eq_true rfl, Nat.le_of_ble_eq_true rfl⟩ pw_blind (prW ((P_pick [false, false, true, true, true, true, true, true, true, false, true, true] rfl hP).sub [3, 4, 5, 6, 7, 8, 0, 1, 2] rfl) hG ((D_pick [false, false, true, true, true, true, true, true, true, false, true, true] rfl hD).sub [3, 4, 5, 6, 7, 8, 0, 1, 2] (by decide) rfl)) (va_recv hG.1 hP (ci := 0) (q0 := 5) rfl rfl) rfl hl.1 rfl (Nat.le_of_ble_eq_true rfl) dX11_years_56 ⟨Nat.zero_le _, Nat.zero_le _⟩) hP hD hS hA [false, false, true, true, true, true, true, true, true, false, true, true] [3, 4, 5, 6, 7, 8, 0, 1, 2] [6, 7, 8, 0, 1, 2, 3, 4, 5] rfl rfl rfl rfl (fun H locs hP hD hS => ?_)
        refine lv_iconst (v := 0) (pc := 59) hx hb dX11_years_59 (by decide) ?_
        refine lv_istore (lv' := [(5, .int 0), (4, .int 0), (0, .ref this), (1, .int seed), (2, .int days), (3, .int what)]) (pc := 60) hx hb dX11_years_60 hl (Nat.le_of_ble_eq_true rfl) rfl (fun ls hl => ?_)
        exact h_62 FU 0 0 seed.toInt64 r14.1 r14.2.1 r14.2.2.1 r14.2.2.2.1 r14.2.2.2.2.1 r14.2.2.2.2.2 this_ahead_next_f this_here_law_stack_f H locs ls hP hD hS (lv_sub hl [2, 4, 5, 1, 0] rfl) hm
      · rw [if_pos hc] at hm
        refine lv_iconst (v := (-1)) (pc := 30) hx hb dX11_years_30 (by decide) ?_
        rw [← Option.some.inj hm]
        exact W.iret hx hb hr (fun t ht _ => hq _ _ H t ht hP hD locs hS) hS.2.2 dX11_years_31 hlocks
theorem dX11_count_0 : decode cX11_count 0 = .ok (.iload_n 1, 1) := by decide +kernel
theorem dX11_count_1 : decode cX11_count 1 = .ok (.tableswitch 179 0 12 #[67, 75, 83, 91, 99, 110, 119, 134, 139, 147, 155, 163, 171], 67) := by decide +kernel
theorem dX11_count_68 : decode cX11_count 68 = .ok (.aload_n 0, 1) := by decide +kernel
theorem dX11_count_69 : decode cX11_count 69 = .ok (.getfield 56, 3) := by decide +kernel
theorem dX11_count_72 : decode cX11_count 72 = .ok (.getfield 197, 3) := by decide +kernel
theorem dX11_count_75 : decode cX11_count 75 = .ok (.ireturn, 1) := by decide +kernel
theorem dX11_count_76 : decode cX11_count 76 = .ok (.aload_n 0, 1) := by decide +kernel
theorem dX11_count_77 : decode cX11_count 77 = .ok (.getfield 56, 3) := by decide +kernel
theorem dX11_count_80 : decode cX11_count 80 = .ok (.getfield 340, 3) := by decide +kernel
theorem dX11_count_83 : decode cX11_count 83 = .ok (.ireturn, 1) := by decide +kernel
theorem dX11_count_84 : decode cX11_count 84 = .ok (.aload_n 0, 1) := by decide +kernel
theorem dX11_count_85 : decode cX11_count 85 = .ok (.getfield 56, 3) := by decide +kernel
theorem dX11_count_88 : decode cX11_count 88 = .ok (.getfield 343, 3) := by decide +kernel
theorem dX11_count_91 : decode cX11_count 91 = .ok (.ireturn, 1) := by decide +kernel
theorem dX11_count_92 : decode cX11_count 92 = .ok (.aload_n 0, 1) := by decide +kernel
theorem dX11_count_93 : decode cX11_count 93 = .ok (.getfield 56, 3) := by decide +kernel
theorem dX11_count_96 : decode cX11_count 96 = .ok (.getfield 346, 3) := by decide +kernel
theorem dX11_count_99 : decode cX11_count 99 = .ok (.ireturn, 1) := by decide +kernel
theorem dX11_count_100 : decode cX11_count 100 = .ok (.aload_n 0, 1) := by decide +kernel
theorem dX11_count_101 : decode cX11_count 101 = .ok (.getfield 46, 3) := by decide +kernel
theorem dX11_count_104 : decode cX11_count 104 = .ok (.getfield 136, 3) := by decide +kernel
theorem dX11_count_107 : decode cX11_count 107 = .ok (.getfield 349, 3) := by decide +kernel
theorem dX11_count_110 : decode cX11_count 110 = .ok (.ireturn, 1) := by decide +kernel
theorem dX11_count_111 : decode cX11_count 111 = .ok (.aload_n 0, 1) := by decide +kernel
theorem dX11_count_112 : decode cX11_count 112 = .ok (.aload_n 0, 1) := by decide +kernel
theorem dX11_count_113 : decode cX11_count 113 = .ok (.getfield 46, 3) := by decide +kernel
theorem dX11_count_116 : decode cX11_count 116 = .ok (.invokevirtual 278, 3) := by decide +kernel
theorem dX11_count_119 : decode cX11_count 119 = .ok (.ireturn, 1) := by decide +kernel
theorem dX11_count_120 : decode cX11_count 120 = .ok (.aload_n 0, 1) := by decide +kernel
theorem dX11_count_121 : decode cX11_count 121 = .ok (.getfield 56, 3) := by decide +kernel
theorem dX11_count_124 : decode cX11_count 124 = .ok (.aload_n 0, 1) := by decide +kernel
theorem dX11_count_125 : decode cX11_count 125 = .ok (.getfield 46, 3) := by decide +kernel
theorem dX11_count_128 : decode cX11_count 128 = .ok (.getfield 136, 3) := by decide +kernel
theorem dX11_count_131 : decode cX11_count 131 = .ok (.invokevirtual 221, 3) := by decide +kernel
theorem dX11_count_134 : decode cX11_count 134 = .ok (.ireturn, 1) := by decide +kernel
theorem dX11_count_135 : decode cX11_count 135 = .ok (.aload_n 0, 1) := by decide +kernel
theorem dX11_count_136 : decode cX11_count 136 = .ok (.invokevirtual 352, 3) := by decide +kernel
theorem dX11_count_139 : decode cX11_count 139 = .ok (.ireturn, 1) := by decide +kernel
theorem dX11_count_140 : decode cX11_count 140 = .ok (.aload_n 0, 1) := by decide +kernel
theorem dX11_count_141 : decode cX11_count 141 = .ok (.getfield 66, 3) := by decide +kernel
theorem dX11_count_144 : decode cX11_count 144 = .ok (.getfield 175, 3) := by decide +kernel
theorem dX11_count_147 : decode cX11_count 147 = .ok (.ireturn, 1) := by decide +kernel
theorem dX11_count_148 : decode cX11_count 148 = .ok (.aload_n 0, 1) := by decide +kernel
theorem dX11_count_149 : decode cX11_count 149 = .ok (.getfield 26, 3) := by decide +kernel
theorem dX11_count_152 : decode cX11_count 152 = .ok (.getfield 355, 3) := by decide +kernel
theorem dX11_count_155 : decode cX11_count 155 = .ok (.ireturn, 1) := by decide +kernel
theorem dX11_count_156 : decode cX11_count 156 = .ok (.aload_n 0, 1) := by decide +kernel
theorem dX11_count_157 : decode cX11_count 157 = .ok (.getfield 30, 3) := by decide +kernel
theorem dX11_count_160 : decode cX11_count 160 = .ok (.getfield 355, 3) := by decide +kernel
theorem dX11_count_163 : decode cX11_count 163 = .ok (.ireturn, 1) := by decide +kernel
theorem dX11_count_164 : decode cX11_count 164 = .ok (.aload_n 0, 1) := by decide +kernel
theorem dX11_count_165 : decode cX11_count 165 = .ok (.getfield 19, 3) := by decide +kernel
theorem dX11_count_168 : decode cX11_count 168 = .ok (.getfield 358, 3) := by decide +kernel
theorem dX11_count_171 : decode cX11_count 171 = .ok (.ireturn, 1) := by decide +kernel
theorem dX11_count_172 : decode cX11_count 172 = .ok (.aload_n 0, 1) := by decide +kernel
theorem dX11_count_173 : decode cX11_count 173 = .ok (.getfield 12, 3) := by decide +kernel
theorem dX11_count_176 : decode cX11_count 176 = .ok (.getfield 89, 3) := by decide +kernel
theorem dX11_count_179 : decode cX11_count 179 = .ok (.ireturn, 1) := by decide +kernel
theorem dX11_count_180 : decode cX11_count 180 = .ok (.iconst (-1), 1) := by decide +kernel
theorem dX11_count_181 : decode cX11_count 181 = .ok (.ireturn, 1) := by decide +kernel
abbrev wd_X11_count (k : Nat → ClassId) (this : Nat) (this_tape : Nat) (this_tape_signs : Nat) (this_tape_length : Int32) (this_tape_place : Int32) (this_tape_behind : Int32) (this_tape_sort : Int32) (this_tape_number : Int32) (this_tape_letters : Int64) (this_tape_word : Nat) (this_tape_fault : Int32) (this_history : Nat) (this_history_states : Nat) (this_history_next : Int32) (this_history_many : Int32) (this_seen : Nat) (this_seen_days : Nat) (this_seen_heights : Nat) (this_seen_many : Int32) (this_measured : Nat) (this_measured_days : Nat) (this_measured_heights : Nat) (this_measured_many : Int32) (this_marks : Nat) (this_standing : Nat) (this_now : Nat) (this_now_state : Nat) (this_now_state_lacks : Nat) (this_now_state_lacks_f : Nat → Int32) (this_now_state_feels : Nat) (this_now_state_feels_f : Nat → Int32) (this_now_state_date : Int32) (this_now_next : Nat) (this_now_town : Nat) (this_now_weighs : Int32) (this_now_rounds : Int32) (this_now_flag : Int32) (this_ahead : Nat) (this_here : Nat) (this_here_names : Nat) (this_here_kinds : Nat) (this_here_kinds_f : Nat → Int32) (this_here_begin : Nat) (this_here_law : Nat) (this_here_persons : Int32) (this_here_mast : Int32) (this_here_weighs : Int32) (this_here_rounds : Int32) (this_here_toldOnce : Int32) (this_townDraft : Nat) (this_told : Nat) (this_told_deeds : Nat) (this_told_persons : Nat) (this_told_seconds : Nat) (this_told_lines : Int32) (this_yearDraft : Nat) (this_drawn : Int64) : va_W := [(this, .inr (9, [.ref this_tape, .ref this_history, .ref this_seen, .ref this_measured, .ref this_marks, .ref this_standing, .ref this_now, .ref this_ahead, .ref this_here, .ref this_townDraft, .ref this_told, .ref this_yearDraft, .long this_drawn])), (this_tape, .inr (6, [.ref this_tape_signs, .int this_tape_length, .int this_tape_place, .int this_tape_behind, .int this_tape_sort, .int this_tape_number, .long this_tape_letters, .ref this_tape_word, .int this_tape_fault])), (this_history, .inr (1, [.ref this_history_states, .int this_history_next, .int this_history_many])), (this_seen, .inr (4, [.ref this_seen_days, .ref this_seen_heights, .int this_seen_many])), (this_measured, .inr (4, [.ref this_measured_days, .ref this_measured_heights, .int this_measured_many])), (this_now, .inr (0, [.ref this_now_state, .ref this_now_next, .ref this_now_town, .int this_now_weighs, .int this_now_rounds, .int this_now_flag])), (this_now_state, .inr (5, [.ref this_now_state_lacks, .ref this_now_state_feels, .int this_now_state_date])), (this_now_state_lacks, .inl (k 0, 6, .inl this_now_state_lacks_f)), (this_now_state_feels, .inl (k 0, 6, .inl this_now_state_feels_f)), (this_here, .inr (7, [.ref this_here_names, .ref this_here_kinds, .ref this_here_begin, .ref this_here_law, .int this_here_persons, .int this_here_mast, .int this_here_weighs, .int this_here_rounds, .int this_here_toldOnce])), (this_here_kinds, .inl (k 0, 6, .inl this_here_kinds_f)), (this_told, .inr (8, [.ref this_told_deeds, .ref this_told_persons, .ref this_told_seconds, .int this_told_lines]))]
set_option maxHeartbeats 4000000 in
set_option maxRecDepth 100000 in
theorem c_X11_count (l : Launch) (D : va_G) (k : Nat → ClassId) (this : Nat) (this_tape : Nat) (this_tape_signs : Nat) (this_tape_length : Int32) (this_tape_place : Int32) (this_tape_behind : Int32) (this_tape_sort : Int32) (this_tape_number : Int32) (this_tape_letters : Int64) (this_tape_word : Nat) (this_tape_fault : Int32) (this_history : Nat) (this_history_states : Nat) (this_history_next : Int32) (this_history_many : Int32) (this_seen : Nat) (this_seen_days : Nat) (this_seen_heights : Nat) (this_seen_many : Int32) (this_measured : Nat) (this_measured_days : Nat) (this_measured_heights : Nat) (this_measured_many : Int32) (this_marks : Nat) (this_standing : Nat) (this_now : Nat) (this_now_state : Nat) (this_now_state_lacks : Nat) (this_now_state_lacks_f : Nat → Int32) (this_now_state_feels : Nat) (this_now_state_feels_f : Nat → Int32) (this_now_state_date : Int32) (this_now_next : Nat) (this_now_town : Nat) (this_now_weighs : Int32) (this_now_rounds : Int32) (this_now_flag : Int32) (this_ahead : Nat) (this_here : Nat) (this_here_names : Nat) (this_here_kinds : Nat) (this_here_kinds_f : Nat → Int32) (this_here_begin : Nat) (this_here_law : Nat) (this_here_persons : Int32) (this_here_mast : Int32) (this_here_weighs : Int32) (this_here_rounds : Int32) (this_here_toldOnce : Int32) (this_townDraft : Nat) (this_told : Nat) (this_told_deeds : Nat) (this_told_persons : Nat) (this_told_seconds : Nat) (this_told_lines : Int32) (this_yearDraft : Nat) (this_drawn : Int64) (what : Int32) (R0 : Int32) (hm : m_X11_count this_tape_length this_history_many this_seen_many this_measured_many this_now_state_lacks_f this_now_state_date this_here_kinds_f this_here_persons this_here_mast this_here_weighs this_here_rounds this_told_lines what = some R0) : CR l D (TY k) yX11_count cX11_count 2 (some .int) 3 66 [.ref this, .int what] (wd_X11_count k this this_tape this_tape_signs this_tape_length this_tape_place this_tape_behind this_tape_sort this_tape_number this_tape_letters this_tape_word this_tape_fault this_history this_history_states this_history_next this_history_many this_seen this_seen_days this_seen_heights this_seen_many this_measured this_measured_days this_measured_heights this_measured_many this_marks this_standing this_now this_now_state this_now_state_lacks this_now_state_lacks_f this_now_state_feels this_now_state_feels_f this_now_state_date this_now_next this_now_town this_now_weighs this_now_rounds this_now_flag this_ahead this_here this_here_names this_here_kinds this_here_kinds_f this_here_begin this_here_law this_here_persons this_here_mast this_here_weighs this_here_rounds this_here_toldOnce this_townDraft this_told this_told_deeds this_told_persons this_told_seconds this_told_lines this_yearDraft this_drawn) (some (.int R0)) := by
  refine CR.mk (by decide) (Nat.le_of_ble_eq_true rfl) ?_
  intro p e s m args below meth c ls ⟨hx, hb, hr, hts, hown, hlocks, hml⟩ hP hG hl
  have hl : lv_has ls 2 [(0, .ref this), (1, .int what)] := hl
  unfold m_X11_count at hm
  refine lv_iload_n (pc := 0) hx hb dX11_count_0 rfl (lv_at hl 1 rfl) ?_
  by_cases hs0 : what = 0
  · rw [if_pos hs0] at hm
    rw [hs0]
    refine lv_tableIn (tgt := 68) (pc := 1) hx hb dX11_count_1 (by decide) (by decide) rfl (by decide) ?_
    refine lv_aload_n (pc := 68) hx hb dX11_count_68 rfl (lv_at hl 0 rfl) ?_
    refine va_get (pc := 69) (D := D) (ci := 9) (C := RX11) (T := TX11) (N := 13) hx hb hts hiX11 hown hG.1 hP 0 rfl rfl 8 (Nat.le_of_ble_eq_true rfl) (hts _ kw_352) (fun _ h9 => h9) rfl dX11_count_69 ?_
    refine va_getN (pc := 72) (D := D) (ci := 7) (C := RX8) (T := TX8) (N := 9) hx hb hts hiX8 hown hG.1 hP 9 rfl rfl 4 (Nat.le_of_ble_eq_true rfl) (va_Nw.use rfl (hG.2 _ kn_204)) (fun _ h9 => h9) rfl dX11_count_72 ?_
    rw [← Option.some.inj hm]
    exact W.iret hx hb hr (fun t ht _ => ⟨rfl, ht⟩) (fun _ h => by cases h) dX11_count_75 hlocks
  · rw [if_neg hs0] at hm
    by_cases hs1 : what = 1
    · rw [if_pos hs1] at hm
      rw [hs1]
      refine lv_tableIn (tgt := 76) (pc := 1) hx hb dX11_count_1 (by decide) (by decide) rfl (by decide) ?_
      refine lv_aload_n (pc := 76) hx hb dX11_count_76 rfl (lv_at hl 0 rfl) ?_
      refine va_get (pc := 77) (D := D) (ci := 9) (C := RX11) (T := TX11) (N := 13) hx hb hts hiX11 hown hG.1 hP 0 rfl rfl 8 (Nat.le_of_ble_eq_true rfl) (hts _ kw_352) (fun _ h9 => h9) rfl dX11_count_77 ?_
      refine va_getN (pc := 80) (D := D) (ci := 7) (C := RX8) (T := TX8) (N := 9) hx hb hts hiX8 hown hG.1 hP 9 rfl rfl 5 (Nat.le_of_ble_eq_true rfl) (va_Nw.use rfl (hG.2 _ kn_206)) (fun _ h9 => h9) rfl dX11_count_80 ?_
      rw [← Option.some.inj hm]
      exact W.iret hx hb hr (fun t ht _ => ⟨rfl, ht⟩) (fun _ h => by cases h) dX11_count_83 hlocks
    · rw [if_neg hs1] at hm
      by_cases hs2 : what = 2
      · rw [if_pos hs2] at hm
        rw [hs2]
        refine lv_tableIn (tgt := 84) (pc := 1) hx hb dX11_count_1 (by decide) (by decide) rfl (by decide) ?_
        refine lv_aload_n (pc := 84) hx hb dX11_count_84 rfl (lv_at hl 0 rfl) ?_
        refine va_get (pc := 85) (D := D) (ci := 9) (C := RX11) (T := TX11) (N := 13) hx hb hts hiX11 hown hG.1 hP 0 rfl rfl 8 (Nat.le_of_ble_eq_true rfl) (hts _ kw_352) (fun _ h9 => h9) rfl dX11_count_85 ?_
        refine va_getN (pc := 88) (D := D) (ci := 7) (C := RX8) (T := TX8) (N := 9) hx hb hts hiX8 hown hG.1 hP 9 rfl rfl 6 (Nat.le_of_ble_eq_true rfl) (va_Nw.use rfl (hG.2 _ kn_209)) (fun _ h9 => h9) rfl dX11_count_88 ?_
        rw [← Option.some.inj hm]
        exact W.iret hx hb hr (fun t ht _ => ⟨rfl, ht⟩) (fun _ h => by cases h) dX11_count_91 hlocks
      · rw [if_neg hs2] at hm
        by_cases hs3 : what = 3
        · rw [if_pos hs3] at hm
          rw [hs3]
          refine lv_tableIn (tgt := 92) (pc := 1) hx hb dX11_count_1 (by decide) (by decide) rfl (by decide) ?_
          refine lv_aload_n (pc := 92) hx hb dX11_count_92 rfl (lv_at hl 0 rfl) ?_
          refine va_get (pc := 93) (D := D) (ci := 9) (C := RX11) (T := TX11) (N := 13) hx hb hts hiX11 hown hG.1 hP 0 rfl rfl 8 (Nat.le_of_ble_eq_true rfl) (hts _ kw_352) (fun _ h9 => h9) rfl dX11_count_93 ?_
          refine va_getN (pc := 96) (D := D) (ci := 7) (C := RX8) (T := TX8) (N := 9) hx hb hts hiX8 hown hG.1 hP 9 rfl rfl 7 (Nat.le_of_ble_eq_true rfl) (va_Nw.use rfl (hG.2 _ kn_212)) (fun _ h9 => h9) rfl dX11_count_96 ?_
          rw [← Option.some.inj hm]
          exact W.iret hx hb hr (fun t ht _ => ⟨rfl, ht⟩) (fun _ h => by cases h) dX11_count_99 hlocks
        · rw [if_neg hs3] at hm
          by_cases hs4 : what = 4
          · rw [if_pos hs4] at hm
            rw [hs4]
            refine lv_tableIn (tgt := 100) (pc := 1) hx hb dX11_count_1 (by decide) (by decide) rfl (by decide) ?_
            refine lv_aload_n (pc := 100) hx hb dX11_count_100 rfl (lv_at hl 0 rfl) ?_
            refine va_get (pc := 101) (D := D) (ci := 9) (C := RX11) (T := TX11) (N := 13) hx hb hts hiX11 hown hG.1 hP 0 rfl rfl 6 (Nat.le_of_ble_eq_true rfl) (hts _ kw_350) (fun _ h9 => h9) rfl dX11_count_101 ?_
            refine va_getN (pc := 104) (D := D) (ci := 0) (C := RX1) (T := TX1) (N := 6) hx hb hts hiX1 hown hG.1 hP 5 rfl rfl 0 (Nat.le_of_ble_eq_true rfl) (va_Nw.use rfl (hG.2 _ kn_149)) (fun _ h9 => h9) rfl dX11_count_104 ?_
            refine va_getN (pc := 107) (D := D) (ci := 5) (C := RX6) (T := TX6) (N := 3) hx hb hts hiX6 hown hG.1 hP 6 rfl rfl 2 (Nat.le_of_ble_eq_true rfl) (va_Nw.use rfl (hG.2 _ kn_101)) (fun _ h9 => h9) rfl dX11_count_107 ?_
            rw [← Option.some.inj hm]
            exact W.iret hx hb hr (fun t ht _ => ⟨rfl, ht⟩) (fun _ h => by cases h) dX11_count_110 hlocks
          · rw [if_neg hs4] at hm
            by_cases hs5 : what = 5
            · rw [if_pos hs5] at hm
              rw [hs5]
              refine lv_tableIn (tgt := 111) (pc := 1) hx hb dX11_count_1 (by decide) (by decide) rfl (by decide) ?_
              refine lv_aload_n (pc := 111) hx hb dX11_count_111 rfl (lv_at hl 0 rfl) ?_
              refine lv_aload_n (pc := 112) hx hb dX11_count_112 rfl (lv_at hl 0 rfl) ?_
              refine va_get (pc := 113) (D := D) (ci := 9) (C := RX11) (T := TX11) (N := 13) hx hb hts hiX11 hown hG.1 hP 0 rfl rfl 6 (Nat.le_of_ble_eq_true rfl) (hts _ kw_350) (fun _ h9 => h9) rfl dX11_count_113 ?_
              obtain ⟨r4, hcl, hm⟩ := bd hm
              refine cr_back (run_V (pc := 116) (n := 1) (As := [.ref this_now]) (rest := []) ⟨hx, hb, hml, hown, hts⟩ (c_X11_lackedByAll l D k this this_tape this_history this_seen this_measured this_marks this_standing this_now this_ahead this_here this_here_names this_here_kinds this_here_begin this_here_law this_here_persons this_here_mast this_here_weighs this_here_rounds this_here_toldOnce this_townDraft this_told this_yearDraft this_drawn this_now this_now_state this_now_state_lacks this_now_state_lacks_f this_now_state_feels this_now_state_date this_now_next this_now_town this_now_weighs this_now_rounds this_now_flag r4 hcl) ⟨kw_1054, kw_1, by decide +kernel⟩ kw_1051 kw_1053 ks_83 ⟨Nat.le_of_ble_eq_true rfl, Nat.le_of_ble_eq_true rfl⟩ pr_blind (prR (hP.sub [0, 9, 5, 6, 7] rfl) hG) (va_recv hG.1 hP (ci := 9) (q0 := 0) rfl rfl) rfl hl.1 rfl (Nat.le_of_ble_eq_true rfl) dX11_count_116 ⟨Nat.zero_le _, Nat.zero_le _⟩) ?_
              rw [← Option.some.inj hm]
              exact W.iret hx hb hr (fun t ht _ => ⟨rfl, ht⟩) (fun _ h => by cases h) dX11_count_119 hlocks
            · rw [if_neg hs5] at hm
              by_cases hs6 : what = 6
              · rw [if_pos hs6] at hm
                rw [hs6]
                refine lv_tableIn (tgt := 120) (pc := 1) hx hb dX11_count_1 (by decide) (by decide) rfl (by decide) ?_
                refine lv_aload_n (pc := 120) hx hb dX11_count_120 rfl (lv_at hl 0 rfl) ?_
                refine va_get (pc := 121) (D := D) (ci := 9) (C := RX11) (T := TX11) (N := 13) hx hb hts hiX11 hown hG.1 hP 0 rfl rfl 8 (Nat.le_of_ble_eq_true rfl) (hts _ kw_352) (fun _ h9 => h9) rfl dX11_count_121 ?_
                refine lv_aload_n (pc := 124) hx hb dX11_count_124 rfl (lv_at hl 0 rfl) ?_
                refine va_get (pc := 125) (D := D) (ci := 9) (C := RX11) (T := TX11) (N := 13) hx hb hts hiX11 hown hG.1 hP 0 rfl rfl 6 (Nat.le_of_ble_eq_true rfl) (hts _ kw_350) (fun _ h9 => h9) rfl dX11_count_125 ?_
                refine va_getN (pc := 128) (D := D) (ci := 0) (C := RX1) (T := TX1) (N := 6) hx hb hts hiX1 hown hG.1 hP 5 rfl rfl 0 (Nat.le_of_ble_eq_true rfl) (va_Nw.use rfl (hG.2 _ kn_149)) (fun _ h9 => h9) rfl dX11_count_128 ?_
                obtain ⟨r5, hcl, hm⟩ := bd hm
                refine cr_back (run_VN (pc := 131) (n := 1) (As := [.ref this_now_state]) (rest := []) ⟨hx, hb, hml, hown, hts⟩ (c_X8_weightOfAll l D k this_here this_here_names this_here_kinds this_here_kinds_f this_here_begin this_here_law this_here_persons this_here_mast this_here_weighs this_here_rounds this_here_toldOnce this_now_state this_now_state_lacks this_now_state_lacks_f this_now_state_feels this_now_state_date r5 hcl) ⟨kw_326, kw_9, by decide +kernel⟩ hG kn_929 kw_325 ks_9 ⟨Nat.le_of_ble_eq_true rfl, Nat.le_of_ble_eq_true rfl⟩ pr_blind (prR (hP.sub [9, 10, 6, 7] rfl) hG) (va_recv hG.1 hP (ci := 7) (q0 := 9) rfl rfl) rfl hl.1 rfl (Nat.le_of_ble_eq_true rfl) dX11_count_131 ⟨Nat.zero_le _, Nat.zero_le _⟩) ?_
                rw [← Option.some.inj hm]
                exact W.iret hx hb hr (fun t ht _ => ⟨rfl, ht⟩) (fun _ h => by cases h) dX11_count_134 hlocks
              · rw [if_neg hs6] at hm
                by_cases hs7 : what = 7
                · rw [if_pos hs7] at hm
                  rw [hs7]
                  refine lv_tableIn (tgt := 135) (pc := 1) hx hb dX11_count_1 (by decide) (by decide) rfl (by decide) ?_
                  refine lv_aload_n (pc := 135) hx hb dX11_count_135 rfl (lv_at hl 0 rfl) ?_
                  obtain ⟨r6, hcl, hm⟩ := bd hm
                  refine cr_back (run_V (pc := 136) (n := 0) (As := []) (rest := []) ⟨hx, hb, hml, hown, hts⟩ (c_X11_whoLacks l D k this this_tape this_history this_seen this_measured this_marks this_standing this_now this_now_state this_now_state_lacks this_now_state_lacks_f this_now_state_feels this_now_state_feels_f this_now_state_date this_now_next this_now_town this_now_weighs this_now_rounds this_now_flag this_ahead this_here this_here_names this_here_kinds this_here_begin this_here_law this_here_persons this_here_mast this_here_weighs this_here_rounds this_here_toldOnce this_townDraft this_told this_yearDraft this_drawn r6 hcl) ⟨kw_1108, kw_1, by decide +kernel⟩ kw_1105 kw_1107 ks_90 ⟨Nat.le_of_ble_eq_true rfl, Nat.le_of_ble_eq_true rfl⟩ pr_blind (prR (hP.sub [0, 5, 6, 7, 8, 9] rfl) hG) (va_recv hG.1 hP (ci := 9) (q0 := 0) rfl rfl) rfl hl.1 rfl (Nat.le_of_ble_eq_true rfl) dX11_count_136 ⟨Nat.zero_le _, Nat.zero_le _⟩) ?_
                  rw [← Option.some.inj hm]
                  exact W.iret hx hb hr (fun t ht _ => ⟨rfl, ht⟩) (fun _ h => by cases h) dX11_count_139 hlocks
                · rw [if_neg hs7] at hm
                  by_cases hs8 : what = 8
                  · rw [if_pos hs8] at hm
                    rw [hs8]
                    refine lv_tableIn (tgt := 140) (pc := 1) hx hb dX11_count_1 (by decide) (by decide) rfl (by decide) ?_
                    refine lv_aload_n (pc := 140) hx hb dX11_count_140 rfl (lv_at hl 0 rfl) ?_
                    refine va_get (pc := 141) (D := D) (ci := 9) (C := RX11) (T := TX11) (N := 13) hx hb hts hiX11 hown hG.1 hP 0 rfl rfl 10 (Nat.le_of_ble_eq_true rfl) (hts _ kw_354) (fun _ h9 => h9) rfl dX11_count_141 ?_
                    refine va_getN (pc := 144) (D := D) (ci := 8) (C := RX10) (T := TX10) (N := 4) hx hb hts hiX10 hown hG.1 hP 11 rfl rfl 3 (Nat.le_of_ble_eq_true rfl) (va_Nw.use rfl (hG.2 _ kn_243)) (fun _ h9 => h9) rfl dX11_count_144 ?_
                    rw [← Option.some.inj hm]
                    exact W.iret hx hb hr (fun t ht _ => ⟨rfl, ht⟩) (fun _ h => by cases h) dX11_count_147 hlocks
                  · rw [if_neg hs8] at hm
                    by_cases hs9 : what = 9
                    · rw [if_pos hs9] at hm
                      rw [hs9]
                      refine lv_tableIn (tgt := 148) (pc := 1) hx hb dX11_count_1 (by decide) (by decide) rfl (by decide) ?_
                      refine lv_aload_n (pc := 148) hx hb dX11_count_148 rfl (lv_at hl 0 rfl) ?_
                      refine va_get (pc := 149) (D := D) (ci := 9) (C := RX11) (T := TX11) (N := 13) hx hb hts hiX11 hown hG.1 hP 0 rfl rfl 2 (Nat.le_of_ble_eq_true rfl) (hts _ kw_346) (fun _ h9 => h9) rfl dX11_count_149 ?_
                      refine va_getN (pc := 152) (D := D) (ci := 4) (C := RX5) (T := TX5) (N := 3) hx hb hts hiX5 hown hG.1 hP 3 rfl rfl 2 (Nat.le_of_ble_eq_true rfl) (va_Nw.use rfl (hG.2 _ kn_130)) (fun _ h9 => h9) rfl dX11_count_152 ?_
                      rw [← Option.some.inj hm]
                      exact W.iret hx hb hr (fun t ht _ => ⟨rfl, ht⟩) (fun _ h => by cases h) dX11_count_155 hlocks
                    · rw [if_neg hs9] at hm
                      by_cases hs10 : what = 10
                      · rw [if_pos hs10] at hm
                        rw [hs10]
                        refine lv_tableIn (tgt := 156) (pc := 1) hx hb dX11_count_1 (by decide) (by decide) rfl (by decide) ?_
                        refine lv_aload_n (pc := 156) hx hb dX11_count_156 rfl (lv_at hl 0 rfl) ?_
                        refine va_get (pc := 157) (D := D) (ci := 9) (C := RX11) (T := TX11) (N := 13) hx hb hts hiX11 hown hG.1 hP 0 rfl rfl 3 (Nat.le_of_ble_eq_true rfl) (hts _ kw_347) (fun _ h9 => h9) rfl dX11_count_157 ?_
                        refine va_getN (pc := 160) (D := D) (ci := 4) (C := RX5) (T := TX5) (N := 3) hx hb hts hiX5 hown hG.1 hP 4 rfl rfl 2 (Nat.le_of_ble_eq_true rfl) (va_Nw.use rfl (hG.2 _ kn_130)) (fun _ h9 => h9) rfl dX11_count_160 ?_
                        rw [← Option.some.inj hm]
                        exact W.iret hx hb hr (fun t ht _ => ⟨rfl, ht⟩) (fun _ h => by cases h) dX11_count_163 hlocks
                      · rw [if_neg hs10] at hm
                        by_cases hs11 : what = 11
                        · rw [if_pos hs11] at hm
                          rw [hs11]
                          refine lv_tableIn (tgt := 164) (pc := 1) hx hb dX11_count_1 (by decide) (by decide) rfl (by decide) ?_
                          refine lv_aload_n (pc := 164) hx hb dX11_count_164 rfl (lv_at hl 0 rfl) ?_
                          refine va_get (pc := 165) (D := D) (ci := 9) (C := RX11) (T := TX11) (N := 13) hx hb hts hiX11 hown hG.1 hP 0 rfl rfl 1 (Nat.le_of_ble_eq_true rfl) (hts _ kw_345) (fun _ h9 => h9) rfl dX11_count_165 ?_
                          refine va_getN (pc := 168) (D := D) (ci := 1) (C := RX2) (T := TX2) (N := 3) hx hb hts hiX2 hown hG.1 hP 2 rfl rfl 2 (Nat.le_of_ble_eq_true rfl) (va_Nw.use rfl (hG.2 _ kn_113)) (fun _ h9 => h9) rfl dX11_count_168 ?_
                          rw [← Option.some.inj hm]
                          exact W.iret hx hb hr (fun t ht _ => ⟨rfl, ht⟩) (fun _ h => by cases h) dX11_count_171 hlocks
                        · rw [if_neg hs11] at hm
                          by_cases hs12 : what = 12
                          · rw [if_pos hs12] at hm
                            rw [hs12]
                            refine lv_tableIn (tgt := 172) (pc := 1) hx hb dX11_count_1 (by decide) (by decide) rfl (by decide) ?_
                            refine lv_aload_n (pc := 172) hx hb dX11_count_172 rfl (lv_at hl 0 rfl) ?_
                            refine va_get (pc := 173) (D := D) (ci := 9) (C := RX11) (T := TX11) (N := 13) hx hb hts hiX11 hown hG.1 hP 0 rfl rfl 0 (Nat.le_of_ble_eq_true rfl) (hts _ kw_344) (fun _ h9 => h9) rfl dX11_count_173 ?_
                            refine va_getN (pc := 176) (D := D) (ci := 6) (C := RX7) (T := TX7) (N := 9) hx hb hts hiX7 hown hG.1 hP 1 rfl rfl 1 (Nat.le_of_ble_eq_true rfl) (va_Nw.use rfl (hG.2 _ kn_45)) (fun _ h9 => h9) rfl dX11_count_176 ?_
                            rw [← Option.some.inj hm]
                            exact W.iret hx hb hr (fun t ht _ => ⟨rfl, ht⟩) (fun _ h => by cases h) dX11_count_179 hlocks
                          · rw [if_neg hs12] at hm
                            refine lv_tableOut (tgt := 180) (pc := 1) hx hb dX11_count_1 (sw_out (by decide) (by decide) (by intro v h1 h2; rcases (show v = 0 ∨ v = 1 ∨ v = 2 ∨ v = 3 ∨ v = 4 ∨ v = 5 ∨ v = 6 ∨ v = 7 ∨ v = 8 ∨ v = 9 ∨ v = 10 ∨ v = 11 ∨ v = 12 by omega) with rfl | rfl | rfl | rfl | rfl | rfl | rfl | rfl | rfl | rfl | rfl | rfl | rfl <;> assumption)) (by decide) ?_
                            refine lv_iconst (v := (-1)) (pc := 180) hx hb dX11_count_180 (by decide) ?_
                            rw [← Option.some.inj hm]
                            exact W.iret hx hb hr (fun t ht _ => ⟨rfl, ht⟩) (fun _ h => by cases h) dX11_count_181 hlocks
theorem dX10_clear_0 : decode cX10_clear 0 = .ok (.aload_n 0, 1) := by decide +kernel
theorem dX10_clear_1 : decode cX10_clear 1 = .ok (.iconst 0, 1) := by decide +kernel
theorem dX10_clear_2 : decode cX10_clear 2 = .ok (.putfield 21, 3) := by decide +kernel
theorem dX10_clear_5 : decode cX10_clear 5 = .ok (.return_, 1) := by decide +kernel
abbrev wd_X10_clear (k : Nat → ClassId) (this : Nat) (this_deeds : Nat) (this_deeds_f : Nat → Int32) (this_persons : Nat) (this_persons_f : Nat → Int32) (this_seconds : Nat) (this_seconds_f : Nat → Int32) (this_lines : Int32) : va_W := [(this, .inr (8, [.ref this_deeds, .ref this_persons, .ref this_seconds, .int this_lines])), (this_deeds, .inl (k 0, 40, .inl this_deeds_f)), (this_persons, .inl (k 0, 40, .inl this_persons_f)), (this_seconds, .inl (k 0, 40, .inl this_seconds_f))]
set_option maxHeartbeats 4000000 in
set_option maxRecDepth 100000 in
theorem c_X10_clear (l : Launch) (D : va_G) (k : Nat → ClassId) (this : Nat) (this_deeds : Nat) (this_deeds_f : Nat → Int32) (this_persons : Nat) (this_persons_f : Nat → Int32) (this_seconds : Nat) (this_seconds_f : Nat → Int32) (this_lines : Int32) (R0 : Int32) (hm : m_X10_clear = some R0) : CW l D (TY k) yX10_clear cX10_clear 1 none 0 0 [.ref this] (wd_X10_clear k this this_deeds this_deeds_f this_persons this_persons_f this_seconds this_seconds_f this_lines) none (wd_X10_clear k this this_deeds this_deeds_f this_persons this_persons_f this_seconds this_seconds_f R0) := by
  refine CW.mk (by decide) (Nat.le_of_ble_eq_true rfl) ?_
  intro p e s m args below meth c ls A ⟨hx, hb, hr, hts, hown, hlocks, hml⟩ hP hG hD hA hl hS hq
  have hl : lv_has ls 1 [(0, .ref this)] := hl
  unfold m_X10_clear at hm
  suffices hgo : ∀ (H : Heap) (locs : List Loc), va_P D vwCl (wd_X10_clear k this this_deeds this_deeds_f this_persons this_persons_f this_seconds this_seconds_f this_lines) H → va_D A (wd_X10_clear k this this_deeds this_deeds_f this_persons this_persons_f this_seconds this_seconds_f this_lines) → va_S A s.heap H locs → W p l e (Rm 0 0) s m args below meth c H locs 0 0 (MQ below (QW D none (wd_X10_clear k this this_deeds this_deeds_f this_persons this_persons_f this_seconds this_seconds_f this_lines) (wd_X10_clear k this this_deeds this_deeds_f this_persons this_persons_f this_seconds this_seconds_f R0) s.heap.size) args s 0 0 A) (F0 m 0 ls []) from hgo _ _ hP hD hS
  clear hP hD hS
  intro H locs hP hD hS
  refine lv_aload_n (pc := 0) hx hb dX10_clear_0 rfl (lv_at hl 0 rfl) ?_
  refine lv_iconst (v := 0) (pc := 1) hx hb dX10_clear_1 (by decide) ?_
  refine va_put (pc := 2) (D := D) (ci := 8) (v := .int 0) (ty := .int) (C := RX10) (T := TX10) (N := 4) hx hb hts hiX10 tyX10 tyX10_ok nmX10 hown hG.1 hP hD hS 0 rfl rfl 3 (Nat.le_of_ble_eq_true rfl) (hts _ kw_242) (fun _ h9 => h9) rfl (by decide +kernel) rfl rfl (Nat.le_of_ble_eq_true rfl) dX10_clear_2 (fun H locs hP hD hS => ?_)
  have hP : va_P D vwCl (wd_X10_clear k this this_deeds this_deeds_f this_persons this_persons_f this_seconds this_seconds_f 0) H := hP
  have hD : va_D A (wd_X10_clear k this this_deeds this_deeds_f this_persons this_persons_f this_seconds this_seconds_f 0) := hD
  rw [← Option.some.inj hm]
  exact W.vret hx hb hr (fun t ht _ => hq _ _ H t ht hP hD locs hS) hS.2.2 dX10_clear_5 hlocks
theorem dX10_carryOut_0 : decode cX10_carryOut 0 = .ok (.aload_n 0, 1) := by decide +kernel
theorem dX10_carryOut_1 : decode cX10_carryOut 1 = .ok (.getfield 15, 3) := by decide +kernel
theorem dX10_carryOut_4 : decode cX10_carryOut 4 = .ok (.iload_n 1, 1) := by decide +kernel
theorem dX10_carryOut_5 : decode cX10_carryOut 5 = .ok (.invokestatic 78, 3) := by decide +kernel
theorem dX10_carryOut_8 : decode cX10_carryOut 8 = .ok (.istore_n 3, 1) := by decide +kernel
theorem dX10_carryOut_9 : decode cX10_carryOut 9 = .ok (.aload_n 0, 1) := by decide +kernel
theorem dX10_carryOut_10 : decode cX10_carryOut 10 = .ok (.getfield 18, 3) := by decide +kernel
theorem dX10_carryOut_13 : decode cX10_carryOut 13 = .ok (.iload_n 1, 1) := by decide +kernel
theorem dX10_carryOut_14 : decode cX10_carryOut 14 = .ok (.invokestatic 78, 3) := by decide +kernel
theorem dX10_carryOut_17 : decode cX10_carryOut 17 = .ok (.istore 4, 2) := by decide +kernel
theorem dX10_carryOut_19 : decode cX10_carryOut 19 = .ok (.aload_n 0, 1) := by decide +kernel
theorem dX10_carryOut_20 : decode cX10_carryOut 20 = .ok (.getfield 9, 3) := by decide +kernel
theorem dX10_carryOut_23 : decode cX10_carryOut 23 = .ok (.iload_n 1, 1) := by decide +kernel
theorem dX10_carryOut_24 : decode cX10_carryOut 24 = .ok (.invokestatic 78, 3) := by decide +kernel
theorem dX10_carryOut_27 : decode cX10_carryOut 27 = .ok (.tableswitch 71 0 3 #[29, 39, 50, 58], 29) := by decide +kernel
theorem dX10_carryOut_56 : decode cX10_carryOut 56 = .ok (.aload_n 2, 1) := by decide +kernel
theorem dX10_carryOut_57 : decode cX10_carryOut 57 = .ok (.iload_n 3, 1) := by decide +kernel
theorem dX10_carryOut_58 : decode cX10_carryOut 58 = .ok (.iload 4, 2) := by decide +kernel
theorem dX10_carryOut_60 : decode cX10_carryOut 60 = .ok (.invokevirtual 101, 3) := by decide +kernel
theorem dX10_carryOut_63 : decode cX10_carryOut 63 = .ok (.goto 40, 3) := by decide +kernel
theorem dX10_carryOut_66 : decode cX10_carryOut 66 = .ok (.aload_n 2, 1) := by decide +kernel
theorem dX10_carryOut_67 : decode cX10_carryOut 67 = .ok (.iload_n 3, 1) := by decide +kernel
theorem dX10_carryOut_68 : decode cX10_carryOut 68 = .ok (.iload 4, 2) := by decide +kernel
theorem dX10_carryOut_70 : decode cX10_carryOut 70 = .ok (.ineg, 1) := by decide +kernel
theorem dX10_carryOut_71 : decode cX10_carryOut 71 = .ok (.invokevirtual 101, 3) := by decide +kernel
theorem dX10_carryOut_74 : decode cX10_carryOut 74 = .ok (.goto 29, 3) := by decide +kernel
theorem dX10_carryOut_77 : decode cX10_carryOut 77 = .ok (.aload_n 2, 1) := by decide +kernel
theorem dX10_carryOut_78 : decode cX10_carryOut 78 = .ok (.iload_n 3, 1) := by decide +kernel
theorem dX10_carryOut_79 : decode cX10_carryOut 79 = .ok (.invokevirtual 107, 3) := by decide +kernel
theorem dX10_carryOut_82 : decode cX10_carryOut 82 = .ok (.goto 21, 3) := by decide +kernel
theorem dX10_carryOut_85 : decode cX10_carryOut 85 = .ok (.aload_n 2, 1) := by decide +kernel
theorem dX10_carryOut_86 : decode cX10_carryOut 86 = .ok (.getfield 110, 3) := by decide +kernel
theorem dX10_carryOut_89 : decode cX10_carryOut 89 = .ok (.iload_n 3, 1) := by decide +kernel
theorem dX10_carryOut_90 : decode cX10_carryOut 90 = .ok (.iload 4, 2) := by decide +kernel
theorem dX10_carryOut_92 : decode cX10_carryOut 92 = .ok (.invokevirtual 114, 3) := by decide +kernel
theorem dX10_carryOut_95 : decode cX10_carryOut 95 = .ok (.goto 8, 3) := by decide +kernel
theorem dX10_carryOut_98 : decode cX10_carryOut 98 = .ok (.aload_n 2, 1) := by decide +kernel
theorem dX10_carryOut_99 : decode cX10_carryOut 99 = .ok (.invokevirtual 119, 3) := by decide +kernel
theorem dX10_carryOut_102 : decode cX10_carryOut 102 = .ok (.pop, 1) := by decide +kernel
theorem dX10_carryOut_103 : decode cX10_carryOut 103 = .ok (.return_, 1) := by decide +kernel
abbrev wd_X10_carryOut (k : Nat → ClassId) (this : Nat) (this_deeds : Nat) (this_deeds_f : Nat → Int32) (this_persons : Nat) (this_persons_f : Nat → Int32) (this_seconds : Nat) (this_seconds_f : Nat → Int32) (this_lines : Int32) (course : Nat) (course_state : Nat) (course_state_lacks : Nat) (course_state_lacks_f : Nat → Int32) (course_state_feels : Nat) (course_state_feels_f : Nat → Int32) (course_state_date : Int32) (course_next : Nat) (course_next_f : Nat → Int32) (course_town : Nat) (course_town_names : Nat) (course_town_kinds : Nat) (course_town_kinds_f : Nat → Int32) (course_town_begin : Nat) (course_town_law : Nat) (course_town_law_steps : Nat) (course_town_law_steps_f : Nat → Int32) (course_town_law_stack : Nat) (course_town_law_stack_f : Nat → Int32) (course_town_law_size : Int32) (course_town_persons : Int32) (course_town_mast : Int32) (course_town_weighs : Int32) (course_town_rounds : Int32) (course_town_toldOnce : Int32) (course_weighs : Int32) (course_rounds : Int32) (course_flag : Int32) : va_W := [(this, .inr (8, [.ref this_deeds, .ref this_persons, .ref this_seconds, .int this_lines])), (this_deeds, .inl (k 0, 40, .inl this_deeds_f)), (this_persons, .inl (k 0, 40, .inl this_persons_f)), (this_seconds, .inl (k 0, 40, .inl this_seconds_f)), (course, .inr (0, [.ref course_state, .ref course_next, .ref course_town, .int course_weighs, .int course_rounds, .int course_flag])), (course_state, .inr (5, [.ref course_state_lacks, .ref course_state_feels, .int course_state_date])), (course_state_lacks, .inl (k 0, 6, .inl course_state_lacks_f)), (course_state_feels, .inl (k 0, 6, .inl course_state_feels_f)), (course_next, .inl (k 0, 6, .inl course_next_f)), (course_town, .inr (7, [.ref course_town_names, .ref course_town_kinds, .ref course_town_begin, .ref course_town_law, .int course_town_persons, .int course_town_mast, .int course_town_weighs, .int course_town_rounds, .int course_town_toldOnce])), (course_town_kinds, .inl (k 0, 6, .inl course_town_kinds_f)), (course_town_law, .inr (2, [.ref course_town_law_steps, .ref course_town_law_stack, .int course_town_law_size])), (course_town_law_steps, .inl (k 0, 1000, .inl course_town_law_steps_f)), (course_town_law_stack, .inl (k 0, 21, .inl course_town_law_stack_f))]
set_option maxHeartbeats 4000000 in
set_option maxRecDepth 100000 in
theorem c_X10_carryOut (l : Launch) (D : va_G) (k : Nat → ClassId) (this : Nat) (this_deeds : Nat) (this_deeds_f : Nat → Int32) (this_persons : Nat) (this_persons_f : Nat → Int32) (this_seconds : Nat) (this_seconds_f : Nat → Int32) (this_lines : Int32) (course : Nat) (course_state : Nat) (course_state_lacks : Nat) (course_state_lacks_f : Nat → Int32) (course_state_feels : Nat) (course_state_feels_f : Nat → Int32) (course_state_date : Int32) (course_next : Nat) (course_next_f : Nat → Int32) (course_town : Nat) (course_town_names : Nat) (course_town_kinds : Nat) (course_town_kinds_f : Nat → Int32) (course_town_begin : Nat) (course_town_law : Nat) (course_town_law_steps : Nat) (course_town_law_steps_f : Nat → Int32) (course_town_law_stack : Nat) (course_town_law_stack_f : Nat → Int32) (course_town_law_size : Int32) (course_town_persons : Int32) (course_town_mast : Int32) (course_town_weighs : Int32) (course_town_rounds : Int32) (course_town_toldOnce : Int32) (course_weighs : Int32) (course_rounds : Int32) (course_flag : Int32) (line : Int32) (R0 : Int32 × Int32 × (Nat → Int32) × (Nat → Int32) × (Nat → Int32) × (Nat → Int32)) (hm : m_X10_carryOut this_deeds_f this_persons_f this_seconds_f course_state_lacks_f course_state_feels_f course_state_date course_next_f course_town_kinds_f course_town_law_steps_f course_town_law_stack_f course_town_law_size course_town_persons course_town_mast course_weighs course_rounds course_flag line = some R0) : CW l D (TY k) yX10_carryOut cX10_carryOut 5 none 6 129 [.ref this, .int line, .ref course] (wd_X10_carryOut k this this_deeds this_deeds_f this_persons this_persons_f this_seconds this_seconds_f this_lines course course_state course_state_lacks course_state_lacks_f course_state_feels course_state_feels_f course_state_date course_next course_next_f course_town course_town_names course_town_kinds course_town_kinds_f course_town_begin course_town_law course_town_law_steps course_town_law_steps_f course_town_law_stack course_town_law_stack_f course_town_law_size course_town_persons course_town_mast course_town_weighs course_town_rounds course_town_toldOnce course_weighs course_rounds course_flag) none (wd_X10_carryOut k this this_deeds this_deeds_f this_persons this_persons_f this_seconds this_seconds_f this_lines course course_state course_state_lacks R0.2.2.1 course_state_feels R0.2.2.2.1 R0.2.1 course_next R0.2.2.2.2.1 course_town course_town_names course_town_kinds course_town_kinds_f course_town_begin course_town_law course_town_law_steps course_town_law_steps_f course_town_law_stack R0.2.2.2.2.2 course_town_law_size course_town_persons course_town_mast course_town_weighs course_town_rounds course_town_toldOnce course_weighs course_rounds R0.1) := by
  refine CW.mk (by decide) (Nat.le_of_ble_eq_true rfl) ?_
  intro p e s m args below meth c ls A ⟨hx, hb, hr, hts, hown, hlocks, hml⟩ hP hG hD hA hl hS hq
  have hl : lv_has ls 5 [(0, .ref this), (1, .int line), (2, .ref course)] := hl
  unfold m_X10_carryOut at hm
  suffices hgo : ∀ (H : Heap) (locs : List Loc), va_P D vwCl (wd_X10_carryOut k this this_deeds this_deeds_f this_persons this_persons_f this_seconds this_seconds_f this_lines course course_state course_state_lacks course_state_lacks_f course_state_feels course_state_feels_f course_state_date course_next course_next_f course_town course_town_names course_town_kinds course_town_kinds_f course_town_begin course_town_law course_town_law_steps course_town_law_steps_f course_town_law_stack course_town_law_stack_f course_town_law_size course_town_persons course_town_mast course_town_weighs course_town_rounds course_town_toldOnce course_weighs course_rounds course_flag) H → va_D A (wd_X10_carryOut k this this_deeds this_deeds_f this_persons this_persons_f this_seconds this_seconds_f this_lines course course_state course_state_lacks course_state_lacks_f course_state_feels course_state_feels_f course_state_date course_next course_next_f course_town course_town_names course_town_kinds course_town_kinds_f course_town_begin course_town_law course_town_law_steps course_town_law_steps_f course_town_law_stack course_town_law_stack_f course_town_law_size course_town_persons course_town_mast course_town_weighs course_town_rounds course_town_toldOnce course_weighs course_rounds course_flag) → va_S A s.heap H locs → W p l e (Rm 6 129) s m args below meth c H locs 0 0 (MQ below (QW D none (wd_X10_carryOut k this this_deeds this_deeds_f this_persons this_persons_f this_seconds this_seconds_f this_lines course course_state course_state_lacks course_state_lacks_f course_state_feels course_state_feels_f course_state_date course_next course_next_f course_town course_town_names course_town_kinds course_town_kinds_f course_town_begin course_town_law course_town_law_steps course_town_law_steps_f course_town_law_stack course_town_law_stack_f course_town_law_size course_town_persons course_town_mast course_town_weighs course_town_rounds course_town_toldOnce course_weighs course_rounds course_flag) (wd_X10_carryOut k this this_deeds this_deeds_f this_persons this_persons_f this_seconds this_seconds_f this_lines course course_state course_state_lacks R0.2.2.1 course_state_feels R0.2.2.2.1 R0.2.1 course_next R0.2.2.2.2.1 course_town course_town_names course_town_kinds course_town_kinds_f course_town_begin course_town_law course_town_law_steps course_town_law_steps_f course_town_law_stack R0.2.2.2.2.2 course_town_law_size course_town_persons course_town_mast course_town_weighs course_town_rounds course_town_toldOnce course_weighs course_rounds R0.1) s.heap.size) args s 0 0 A) (F0 m 0 ls []) from hgo _ _ hP hD hS
  clear hP hD hS
  intro H locs hP hD hS
  refine lv_aload_n (pc := 0) hx hb dX10_carryOut_0 rfl (lv_at hl 0 rfl) ?_
  refine va_get (pc := 1) (D := D) (ci := 8) (C := RX10) (T := TX10) (N := 4) hx hb hts hiX10 hown hG.1 hP 0 rfl rfl 1 (Nat.le_of_ble_eq_true rfl) (hts _ kw_240) (fun _ h9 => h9) rfl dX10_carryOut_1 ?_
  refine lv_iload_n (pc := 4) hx hb dX10_carryOut_4 rfl (lv_at hl 1 rfl) ?_
  obtain ⟨r9, hcl, hm⟩ := bd hm
  refine cr_back (run_SN (pc := 5) (n := 2) (As := [.ref this_persons, .int line]) (rest := []) ⟨hx, hb, hml, hown, hts⟩ (c_X11_at l D k this_persons 40 this_persons_f line r9 hcl) ⟨kw_329, kw_1, by decide +kernel⟩ hG kn_724 kw_328 ⟨Nat.le_of_ble_eq_true rfl, Nat.le_of_ble_eq_true rfl⟩ pr_blind (prR (hP.sub [2] rfl) hG) rfl hl.1 rfl (Nat.le_of_ble_eq_true rfl) dX10_carryOut_5 ⟨Nat.zero_le _, Nat.zero_le _⟩) ?_
  refine lv_istore_n (lv' := [(3, .int r9), (0, .ref this), (1, .int line), (2, .ref course)]) (pc := 8) hx hb dX10_carryOut_8 rfl hl (Nat.le_of_ble_eq_true rfl) rfl (fun ls hl => ?_)
  refine lv_aload_n (pc := 9) hx hb dX10_carryOut_9 rfl (lv_at hl 1 rfl) ?_
  refine va_get (pc := 10) (D := D) (ci := 8) (C := RX10) (T := TX10) (N := 4) hx hb hts hiX10 hown hG.1 hP 0 rfl rfl 2 (Nat.le_of_ble_eq_true rfl) (hts _ kw_241) (fun _ h9 => h9) rfl dX10_carryOut_10 ?_
  refine lv_iload_n (pc := 13) hx hb dX10_carryOut_13 rfl (lv_at hl 2 rfl) ?_
  obtain ⟨r10, hcl, hm⟩ := bd hm
  refine cr_back (run_SN (pc := 14) (n := 2) (As := [.ref this_seconds, .int line]) (rest := []) ⟨hx, hb, hml, hown, hts⟩ (c_X11_at l D k this_seconds 40 this_seconds_f line r10 hcl) ⟨kw_329, kw_1, by decide +kernel⟩ hG kn_724 kw_328 ⟨Nat.le_of_ble_eq_true rfl, Nat.le_of_ble_eq_true rfl⟩ pr_blind (prR (hP.sub [3] rfl) hG) rfl hl.1 rfl (Nat.le_of_ble_eq_true rfl) dX10_carryOut_14 ⟨Nat.zero_le _, Nat.zero_le _⟩) ?_
  refine lv_istore (lv' := [(4, .int r10), (3, .int r9), (0, .ref this), (1, .int line), (2, .ref course)]) (pc := 17) hx hb dX10_carryOut_17 hl (Nat.le_of_ble_eq_true rfl) rfl (fun ls hl => ?_)
  refine lv_aload_n (pc := 19) hx hb dX10_carryOut_19 rfl (lv_at hl 2 rfl) ?_
  refine va_get (pc := 20) (D := D) (ci := 8) (C := RX10) (T := TX10) (N := 4) hx hb hts hiX10 hown hG.1 hP 0 rfl rfl 0 (Nat.le_of_ble_eq_true rfl) (hts _ kw_239) (fun _ h9 => h9) rfl dX10_carryOut_20 ?_
  refine lv_iload_n (pc := 23) hx hb dX10_carryOut_23 rfl (lv_at hl 3 rfl) ?_
  obtain ⟨r11, hcl, hm⟩ := bd hm
  refine cr_back (run_SN (pc := 24) (n := 2) (As := [.ref this_deeds, .int line]) (rest := []) ⟨hx, hb, hml, hown, hts⟩ (c_X11_at l D k this_deeds 40 this_deeds_f line r11 hcl) ⟨kw_329, kw_1, by decide +kernel⟩ hG kn_724 kw_328 ⟨Nat.le_of_ble_eq_true rfl, Nat.le_of_ble_eq_true rfl⟩ pr_blind (prR (hP.sub [1] rfl) hG) rfl hl.1 rfl (Nat.le_of_ble_eq_true rfl) dX10_carryOut_24 ⟨Nat.zero_le _, Nat.zero_le _⟩) ?_
  by_cases hs0 : r11 = 0
  · rw [if_pos hs0] at hm
    rw [hs0]
    refine lv_tableIn (tgt := 56) (pc := 27) hx hb dX10_carryOut_27 (by decide) (by decide) rfl (by decide) ?_
    refine lv_aload_n (pc := 56) hx hb dX10_carryOut_56 rfl (lv_at hl 4 rfl) ?_
    refine lv_iload_n (pc := 57) hx hb dX10_carryOut_57 rfl (lv_at hl 1 rfl) ?_
    refine lv_iload (pc := 58) hx hb dX10_carryOut_58 (lv_at hl 0 rfl) ?_
    obtain ⟨r12, hcl, hm⟩ := bd hm
    refine cw_mask (ws' := (wd_X10_carryOut k this this_deeds this_deeds_f this_persons this_persons_f this_seconds this_seconds_f this_lines course course_state course_state_lacks r12.2 course_state_feels course_state_feels_f course_state_date course_next course_next_f course_town course_town_names course_town_kinds course_town_kinds_f course_town_begin course_town_law course_town_law_steps course_town_law_steps_f course_town_law_stack course_town_law_stack_f course_town_law_size course_town_persons course_town_mast course_town_weighs course_town_rounds course_town_toldOnce course_weighs course_rounds r12.1)) (run_VN (pc := 60) (n := 2) (As := [.int r9, .int r10]) (rest := []) ⟨hx, hb, hml, hown, hts⟩ ((c_X1_shift l D k course course_state course_state_lacks course_state_lacks_f course_state_feels course_state_feels_f course_state_date course_next course_town course_town_names course_town_kinds course_town_kinds_f course_town_begin course_town_law course_town_persons course_town_mast course_town_weighs course_town_rounds course_town_toldOnce course_weighs course_rounds course_flag r9 r10 r12 hcl) H.size) ⟨kw_773, kw_8, by decide +kernel⟩ hG kn_841 kw_772 ks_58 ⟨Nat.le_of_ble_eq_true rfl, Nat.le_of_ble_eq_true rfl⟩ pw_blind (prW (P_pick [false, false, false, false, true, true, true, true, false, true, true] rfl hP) hG (D_pick [false, false, false, false, true, true, true, true, false, true, true] rfl hD)) (va_recv hG.1 hP (ci := 0) (q0 := 4) rfl rfl) rfl hl.1 rfl (Nat.le_of_ble_eq_true rfl) dX10_carryOut_60 ⟨Nat.zero_le _, Nat.zero_le _⟩) hP hD hS hA [false, false, false, false, true, true, true, true, false, true, true] rfl rfl rfl (fun H locs hP hD hS => ?_)
    refine lv_goto (tgt := 103) (pc := 63) hx hb dX10_carryOut_63 (by decide) ?_
    rw [← Option.some.inj hm]
    exact W.vret hx hb hr (fun t ht _ => hq _ _ H t ht hP hD locs hS) hS.2.2 dX10_carryOut_103 hlocks
  · rw [if_neg hs0] at hm
    by_cases hs1 : r11 = 1
    · rw [if_pos hs1] at hm
      rw [hs1]
      refine lv_tableIn (tgt := 66) (pc := 27) hx hb dX10_carryOut_27 (by decide) (by decide) rfl (by decide) ?_
      refine lv_aload_n (pc := 66) hx hb dX10_carryOut_66 rfl (lv_at hl 4 rfl) ?_
      refine lv_iload_n (pc := 67) hx hb dX10_carryOut_67 rfl (lv_at hl 1 rfl) ?_
      refine lv_iload (pc := 68) hx hb dX10_carryOut_68 (lv_at hl 0 rfl) ?_
      refine lv_ineg (pc := 70) hx hb dX10_carryOut_70 ?_
      obtain ⟨r13, hcl, hm⟩ := bd hm
      refine cw_mask (ws' := (wd_X10_carryOut k this this_deeds this_deeds_f this_persons this_persons_f this_seconds this_seconds_f this_lines course course_state course_state_lacks r13.2 course_state_feels course_state_feels_f course_state_date course_next course_next_f course_town course_town_names course_town_kinds course_town_kinds_f course_town_begin course_town_law course_town_law_steps course_town_law_steps_f course_town_law_stack course_town_law_stack_f course_town_law_size course_town_persons course_town_mast course_town_weighs course_town_rounds course_town_toldOnce course_weighs course_rounds r13.1)) (run_VN (pc := 71) (n := 2) (As := [.int r9, .int (-r10)]) (rest := []) ⟨hx, hb, hml, hown, hts⟩ ((c_X1_shift l D k course course_state course_state_lacks course_state_lacks_f course_state_feels course_state_feels_f course_state_date course_next course_town course_town_names course_town_kinds course_town_kinds_f course_town_begin course_town_law course_town_persons course_town_mast course_town_weighs course_town_rounds course_town_toldOnce course_weighs course_rounds course_flag r9 (-r10) r13 hcl) H.size) ⟨kw_773, kw_8, by decide +kernel⟩ hG kn_841 kw_772 ks_58 ⟨Nat.le_of_ble_eq_true rfl, Nat.le_of_ble_eq_true rfl⟩ pw_blind (prW (P_pick [false, false, false, false, true, true, true, true, false, true, true] rfl hP) hG (D_pick [false, false, false, false, true, true, true, true, false, true, true] rfl hD)) (va_recv hG.1 hP (ci := 0) (q0 := 4) rfl rfl) rfl hl.1 rfl (Nat.le_of_ble_eq_true rfl) dX10_carryOut_71 ⟨Nat.zero_le _, Nat.zero_le _⟩) hP hD hS hA [false, false, false, false, true, true, true, true, false, true, true] rfl rfl rfl (fun H locs hP hD hS => ?_)
      refine lv_goto (tgt := 103) (pc := 74) hx hb dX10_carryOut_74 (by decide) ?_
      rw [← Option.some.inj hm]
      exact W.vret hx hb hr (fun t ht _ => hq _ _ H t ht hP hD locs hS) hS.2.2 dX10_carryOut_103 hlocks
    · rw [if_neg hs1] at hm
      by_cases hs2 : r11 = 2
      · rw [if_pos hs2] at hm
        rw [hs2]
        refine lv_tableIn (tgt := 77) (pc := 27) hx hb dX10_carryOut_27 (by decide) (by decide) rfl (by decide) ?_
        refine lv_aload_n (pc := 77) hx hb dX10_carryOut_77 rfl (lv_at hl 4 rfl) ?_
        refine lv_iload_n (pc := 78) hx hb dX10_carryOut_78 rfl (lv_at hl 1 rfl) ?_
        obtain ⟨r14, hcl, hm⟩ := bd hm
        refine cw_mask (ws' := (wd_X10_carryOut k this this_deeds this_deeds_f this_persons this_persons_f this_seconds this_seconds_f this_lines course course_state course_state_lacks r14.2 course_state_feels course_state_feels_f course_state_date course_next course_next_f course_town course_town_names course_town_kinds course_town_kinds_f course_town_begin course_town_law course_town_law_steps course_town_law_steps_f course_town_law_stack course_town_law_stack_f course_town_law_size course_town_persons course_town_mast course_town_weighs course_town_rounds course_town_toldOnce course_weighs course_rounds r14.1)) (run_VN (pc := 79) (n := 1) (As := [.int r9]) (rest := []) ⟨hx, hb, hml, hown, hts⟩ ((c_X1_letOff l D k course course_state course_state_lacks course_state_lacks_f course_state_feels course_state_feels_f course_state_date course_next course_town course_town_names course_town_kinds course_town_kinds_f course_town_begin course_town_law course_town_persons course_town_mast course_town_weighs course_town_rounds course_town_toldOnce course_weighs course_rounds course_flag r9 r14 hcl) H.size) ⟨kw_792, kw_8, by decide +kernel⟩ hG kn_842 kw_791 ks_59 ⟨Nat.le_of_ble_eq_true rfl, Nat.le_of_ble_eq_true rfl⟩ pw_blind (prW (P_pick [false, false, false, false, true, true, true, true, false, true, true] rfl hP) hG (D_pick [false, false, false, false, true, true, true, true, false, true, true] rfl hD)) (va_recv hG.1 hP (ci := 0) (q0 := 4) rfl rfl) rfl hl.1 rfl (Nat.le_of_ble_eq_true rfl) dX10_carryOut_79 ⟨Nat.zero_le _, Nat.zero_le _⟩) hP hD hS hA [false, false, false, false, true, true, true, true, false, true, true] rfl rfl rfl (fun H locs hP hD hS => ?_)
        refine lv_goto (tgt := 103) (pc := 82) hx hb dX10_carryOut_82 (by decide) ?_
        rw [← Option.some.inj hm]
        exact W.vret hx hb hr (fun t ht _ => hq _ _ H t ht hP hD locs hS) hS.2.2 dX10_carryOut_103 hlocks
      · rw [if_neg hs2] at hm
        by_cases hs3 : r11 = 3
        · rw [if_pos hs3] at hm
          rw [hs3]
          refine lv_tableIn (tgt := 85) (pc := 27) hx hb dX10_carryOut_27 (by decide) (by decide) rfl (by decide) ?_
          refine lv_aload_n (pc := 85) hx hb dX10_carryOut_85 rfl (lv_at hl 4 rfl) ?_
          refine va_getN (pc := 86) (D := D) (ci := 0) (C := RX1) (T := TX1) (N := 6) hx hb hts hiX1 hown hG.1 hP 4 rfl rfl 0 (Nat.le_of_ble_eq_true rfl) (va_Nw.use rfl (hG.2 _ kn_150)) (fun _ h9 => h9) rfl dX10_carryOut_86 ?_
          refine lv_iload_n (pc := 89) hx hb dX10_carryOut_89 rfl (lv_at hl 1 rfl) ?_
          refine lv_iload (pc := 90) hx hb dX10_carryOut_90 (lv_at hl 0 rfl) ?_
          obtain ⟨r15, hcl, hm⟩ := bd hm
          refine cw_mask (ws' := (wd_X10_carryOut k this this_deeds this_deeds_f this_persons this_persons_f this_seconds this_seconds_f this_lines course course_state course_state_lacks course_state_lacks_f course_state_feels r15 course_state_date course_next course_next_f course_town course_town_names course_town_kinds course_town_kinds_f course_town_begin course_town_law course_town_law_steps course_town_law_steps_f course_town_law_stack course_town_law_stack_f course_town_law_size course_town_persons course_town_mast course_town_weighs course_town_rounds course_town_toldOnce course_weighs course_rounds course_flag)) (run_VN (pc := 92) (n := 2) (As := [.int r9, .int r10]) (rest := []) ⟨hx, hb, hml, hown, hts⟩ ((c_X6_turnFeeling l D k course_state course_state_lacks course_state_lacks_f course_state_feels course_state_feels_f course_state_date r9 r10 r15 hcl) H.size) ⟨kw_611, kw_6, by decide +kernel⟩ hG kn_843 kw_610 ks_34 ⟨Nat.le_of_ble_eq_true rfl, Nat.le_of_ble_eq_true rfl⟩ pw_blind (prW (P_pick [false, false, false, false, false, true, true, true] rfl hP) hG (D_pick [false, false, false, false, false, true, true, true] rfl hD)) (va_recv hG.1 hP (ci := 5) (q0 := 5) rfl rfl) rfl hl.1 rfl (Nat.le_of_ble_eq_true rfl) dX10_carryOut_92 ⟨Nat.zero_le _, Nat.zero_le _⟩) hP hD hS hA [false, false, false, false, false, true, true, true] rfl rfl rfl (fun H locs hP hD hS => ?_)
          refine lv_goto (tgt := 103) (pc := 95) hx hb dX10_carryOut_95 (by decide) ?_
          rw [← Option.some.inj hm]
          exact W.vret hx hb hr (fun t ht _ => hq _ _ H t ht hP hD locs hS) hS.2.2 dX10_carryOut_103 hlocks
        · rw [if_neg hs3] at hm
          refine lv_tableOut (tgt := 98) (pc := 27) hx hb dX10_carryOut_27 (sw_out (by decide) (by decide) (by intro v h1 h2; rcases (show v = 0 ∨ v = 1 ∨ v = 2 ∨ v = 3 by omega) with rfl | rfl | rfl | rfl <;> assumption)) (by decide) ?_
          refine lv_aload_n (pc := 98) hx hb dX10_carryOut_98 rfl (lv_at hl 4 rfl) ?_
          obtain ⟨r16, hcl, hm⟩ := bd hm
          refine cw_mask (ws' := (wd_X10_carryOut k this this_deeds this_deeds_f this_persons this_persons_f this_seconds this_seconds_f this_lines course course_state course_state_lacks r16.2.2.2.1 course_state_feels course_state_feels_f r16.2.2.1 course_next r16.2.2.2.2.1 course_town course_town_names course_town_kinds course_town_kinds_f course_town_begin course_town_law course_town_law_steps course_town_law_steps_f course_town_law_stack r16.2.2.2.2.2 course_town_law_size course_town_persons course_town_mast course_town_weighs course_town_rounds course_town_toldOnce course_weighs course_rounds r16.2.1)) (run_VN (pc := 99) (n := 0) (As := []) (rest := []) ⟨hx, hb, hml, hown, hts⟩ ((c_X1_passDay l D k course course_state course_state_lacks course_state_lacks_f course_state_feels course_state_feels_f course_state_date course_next course_next_f course_town course_town_names course_town_kinds course_town_kinds_f course_town_begin course_town_law course_town_law_steps course_town_law_steps_f course_town_law_stack course_town_law_stack_f course_town_law_size course_town_persons course_town_mast course_town_weighs course_town_rounds course_town_toldOnce course_weighs course_rounds course_flag r16 hcl) H.size) ⟨kw_806, kw_8, by decide +kernel⟩ hG kn_844 kw_805 ks_60 ⟨Nat.le_of_ble_eq_true rfl, Nat.le_of_ble_eq_true rfl⟩ pw_blind (prW (P_pick [false, false, false, false, true, true, true, true, true, true, true, true, true, true] rfl hP) hG (D_pick [false, false, false, false, true, true, true, true, true, true, true, true, true, true] rfl hD)) (va_recv hG.1 hP (ci := 0) (q0 := 4) rfl rfl) rfl hl.1 rfl (Nat.le_of_ble_eq_true rfl) dX10_carryOut_99 ⟨Nat.zero_le _, Nat.zero_le _⟩) hP hD hS hA [false, false, false, false, true, true, true, true, true, true, true, true, true, true] rfl rfl rfl (fun H locs hP hD hS => ?_)
          refine lv_pop (pc := 102) hx hb dX10_carryOut_102 rfl ?_
          rw [← Option.some.inj hm]
          exact W.vret hx hb hr (fun t ht _ => hq _ _ H t ht hP hD locs hS) hS.2.2 dX10_carryOut_103 hlocks
theorem dX11_judged_0 : decode cX11_judged 0 = .ok (.iconst (-1), 1) := by decide +kernel
theorem dX11_judged_1 : decode cX11_judged 1 = .ok (.istore_n 2, 1) := by decide +kernel
theorem dX11_judged_2 : decode cX11_judged 2 = .ok (.iconst 0, 1) := by decide +kernel
theorem dX11_judged_3 : decode cX11_judged 3 = .ok (.istore_n 3, 1) := by decide +kernel
theorem dX11_judged_4 : decode cX11_judged 4 = .ok (.aload_n 0, 1) := by decide +kernel
theorem dX11_judged_5 : decode cX11_judged 5 = .ok (.getfield 50, 3) := by decide +kernel
theorem dX11_judged_8 : decode cX11_judged 8 = .ok (.aload_n 0, 1) := by decide +kernel
theorem dX11_judged_9 : decode cX11_judged 9 = .ok (.getfield 56, 3) := by decide +kernel
theorem dX11_judged_12 : decode cX11_judged 12 = .ok (.aload_n 0, 1) := by decide +kernel
theorem dX11_judged_13 : decode cX11_judged 13 = .ok (.getfield 56, 3) := by decide +kernel
theorem dX11_judged_16 : decode cX11_judged 16 = .ok (.getfield 77, 3) := by decide +kernel
theorem dX11_judged_19 : decode cX11_judged 19 = .ok (.invokevirtual 81, 3) := by decide +kernel
theorem dX11_judged_22 : decode cX11_judged 22 = .ok (.iconst 0, 1) := by decide +kernel
theorem dX11_judged_23 : decode cX11_judged 23 = .ok (.istore 4, 2) := by decide +kernel
theorem dX11_judged_25 : decode cX11_judged 25 = .ok (.iload 4, 2) := by decide +kernel
theorem dX11_judged_27 : decode cX11_judged 27 = .ok (.aload_n 0, 1) := by decide +kernel
theorem dX11_judged_28 : decode cX11_judged 28 = .ok (.getfield 66, 3) := by decide +kernel
theorem dX11_judged_31 : decode cX11_judged 31 = .ok (.getfield 175, 3) := by decide +kernel
theorem dX11_judged_34 : decode cX11_judged 34 = .ok (.if_icmp .ge 57, 3) := by decide +kernel
theorem dX11_judged_37 : decode cX11_judged 37 = .ok (.aload_n 0, 1) := by decide +kernel
theorem dX11_judged_38 : decode cX11_judged 38 = .ok (.getfield 50, 3) := by decide +kernel
theorem dX11_judged_41 : decode cX11_judged 41 = .ok (.getfield 114, 3) := by decide +kernel
theorem dX11_judged_44 : decode cX11_judged 44 = .ok (.istore 5, 2) := by decide +kernel
theorem dX11_judged_46 : decode cX11_judged 46 = .ok (.aload_n 0, 1) := by decide +kernel
theorem dX11_judged_47 : decode cX11_judged 47 = .ok (.getfield 66, 3) := by decide +kernel
theorem dX11_judged_50 : decode cX11_judged 50 = .ok (.iload 4, 2) := by decide +kernel
theorem dX11_judged_52 : decode cX11_judged 52 = .ok (.aload_n 0, 1) := by decide +kernel
theorem dX11_judged_53 : decode cX11_judged 53 = .ok (.getfield 50, 3) := by decide +kernel
theorem dX11_judged_56 : decode cX11_judged 56 = .ok (.invokevirtual 178, 3) := by decide +kernel
theorem dX11_judged_59 : decode cX11_judged 59 = .ok (.aload_n 0, 1) := by decide +kernel
theorem dX11_judged_60 : decode cX11_judged 60 = .ok (.getfield 50, 3) := by decide +kernel
theorem dX11_judged_63 : decode cX11_judged 63 = .ok (.getfield 114, 3) := by decide +kernel
theorem dX11_judged_66 : decode cX11_judged 66 = .ok (.iload 5, 2) := by decide +kernel
theorem dX11_judged_68 : decode cX11_judged 68 = .ok (.if_icmp .eq 17, 3) := by decide +kernel
theorem dX11_judged_71 : decode cX11_judged 71 = .ok (.iload_n 3, 1) := by decide +kernel
theorem dX11_judged_72 : decode cX11_judged 72 = .ok (.ifCond .ne 8, 3) := by decide +kernel
theorem dX11_judged_75 : decode cX11_judged 75 = .ok (.iload 4, 2) := by decide +kernel
theorem dX11_judged_77 : decode cX11_judged 77 = .ok (.goto 4, 3) := by decide +kernel
theorem dX11_judged_80 : decode cX11_judged 80 = .ok (.iload_n 2, 1) := by decide +kernel
theorem dX11_judged_81 : decode cX11_judged 81 = .ok (.istore_n 2, 1) := by decide +kernel
theorem dX11_judged_82 : decode cX11_judged 82 = .ok (.iinc 3 1, 3) := by decide +kernel
theorem dX11_judged_85 : decode cX11_judged 85 = .ok (.iinc 4 1, 3) := by decide +kernel
theorem dX11_judged_88 : decode cX11_judged 88 = .ok (.goto (-63), 3) := by decide +kernel
theorem dX11_judged_91 : decode cX11_judged 91 = .ok (.iload_n 1, 1) := by decide +kernel
theorem dX11_judged_92 : decode cX11_judged 92 = .ok (.tableswitch 40 0 2 #[28, 30, 32], 28) := by decide +kernel
theorem dX11_judged_120 : decode cX11_judged 120 = .ok (.iload_n 2, 1) := by decide +kernel
theorem dX11_judged_121 : decode cX11_judged 121 = .ok (.ireturn, 1) := by decide +kernel
theorem dX11_judged_122 : decode cX11_judged 122 = .ok (.iload_n 3, 1) := by decide +kernel
theorem dX11_judged_123 : decode cX11_judged 123 = .ok (.ireturn, 1) := by decide +kernel
theorem dX11_judged_124 : decode cX11_judged 124 = .ok (.aload_n 0, 1) := by decide +kernel
theorem dX11_judged_125 : decode cX11_judged 125 = .ok (.getfield 50, 3) := by decide +kernel
theorem dX11_judged_128 : decode cX11_judged 128 = .ok (.getfield 114, 3) := by decide +kernel
theorem dX11_judged_131 : decode cX11_judged 131 = .ok (.ireturn, 1) := by decide +kernel
theorem dX11_judged_132 : decode cX11_judged 132 = .ok (.bipush (-2), 2) := by decide +kernel
theorem dX11_judged_134 : decode cX11_judged 134 = .ok (.ireturn, 1) := by decide +kernel
abbrev wd_X11_judged (k : Nat → ClassId) (this : Nat) (this_tape : Nat) (this_history : Nat) (this_seen : Nat) (this_measured : Nat) (this_marks : Nat) (this_standing : Nat) (this_now : Nat) (this_ahead : Nat) (this_ahead_state : Nat) (this_ahead_state_lacks : Nat) (this_ahead_state_lacks_f : Nat → Int32) (this_ahead_state_feels : Nat) (this_ahead_state_feels_f : Nat → Int32) (this_ahead_state_date : Int32) (this_ahead_next : Nat) (this_ahead_next_f : Nat → Int32) (this_ahead_town : Value) (this_ahead_weighs : Int32) (this_ahead_rounds : Int32) (this_ahead_flag : Int32) (this_here : Nat) (this_here_names : Nat) (this_here_kinds : Nat) (this_here_kinds_f : Nat → Int32) (this_here_begin : Nat) (this_here_begin_lacks : Nat) (this_here_begin_lacks_f : Nat → Int32) (this_here_begin_feels : Nat) (this_here_begin_feels_f : Nat → Int32) (this_here_begin_date : Int32) (this_here_law : Nat) (this_here_law_steps : Nat) (this_here_law_steps_f : Nat → Int32) (this_here_law_stack : Nat) (this_here_law_stack_f : Nat → Int32) (this_here_law_size : Int32) (this_here_persons : Int32) (this_here_mast : Int32) (this_here_weighs : Int32) (this_here_rounds : Int32) (this_here_toldOnce : Int32) (this_townDraft : Nat) (this_told : Nat) (this_told_deeds : Nat) (this_told_deeds_f : Nat → Int32) (this_told_persons : Nat) (this_told_persons_f : Nat → Int32) (this_told_seconds : Nat) (this_told_seconds_f : Nat → Int32) (this_told_lines : Int32) (this_yearDraft : Nat) (this_drawn : Int64) : va_W := [(this, .inr (9, [.ref this_tape, .ref this_history, .ref this_seen, .ref this_measured, .ref this_marks, .ref this_standing, .ref this_now, .ref this_ahead, .ref this_here, .ref this_townDraft, .ref this_told, .ref this_yearDraft, .long this_drawn])), (this_ahead, .inr (0, [.ref this_ahead_state, .ref this_ahead_next, this_ahead_town, .int this_ahead_weighs, .int this_ahead_rounds, .int this_ahead_flag])), (this_ahead_state, .inr (5, [.ref this_ahead_state_lacks, .ref this_ahead_state_feels, .int this_ahead_state_date])), (this_ahead_state_lacks, .inl (k 0, 6, .inl this_ahead_state_lacks_f)), (this_ahead_state_feels, .inl (k 0, 6, .inl this_ahead_state_feels_f)), (this_ahead_next, .inl (k 0, 6, .inl this_ahead_next_f)), (this_here, .inr (7, [.ref this_here_names, .ref this_here_kinds, .ref this_here_begin, .ref this_here_law, .int this_here_persons, .int this_here_mast, .int this_here_weighs, .int this_here_rounds, .int this_here_toldOnce])), (this_here_kinds, .inl (k 0, 6, .inl this_here_kinds_f)), (this_here_begin, .inr (5, [.ref this_here_begin_lacks, .ref this_here_begin_feels, .int this_here_begin_date])), (this_here_begin_lacks, .inl (k 0, 6, .inl this_here_begin_lacks_f)), (this_here_begin_feels, .inl (k 0, 6, .inl this_here_begin_feels_f)), (this_here_law, .inr (2, [.ref this_here_law_steps, .ref this_here_law_stack, .int this_here_law_size])), (this_here_law_steps, .inl (k 0, 1000, .inl this_here_law_steps_f)), (this_here_law_stack, .inl (k 0, 21, .inl this_here_law_stack_f)), (this_told, .inr (8, [.ref this_told_deeds, .ref this_told_persons, .ref this_told_seconds, .int this_told_lines])), (this_told_deeds, .inl (k 0, 40, .inl this_told_deeds_f)), (this_told_persons, .inl (k 0, 40, .inl this_told_persons_f)), (this_told_seconds, .inl (k 0, 40, .inl this_told_seconds_f))]
set_option maxHeartbeats 4000000 in
set_option maxRecDepth 100000 in
theorem c_X11_judged (l : Launch) (D : va_G) (k : Nat → ClassId) (this : Nat) (this_tape : Nat) (this_history : Nat) (this_seen : Nat) (this_measured : Nat) (this_marks : Nat) (this_standing : Nat) (this_now : Nat) (this_ahead : Nat) (this_ahead_state : Nat) (this_ahead_state_lacks : Nat) (this_ahead_state_lacks_f : Nat → Int32) (this_ahead_state_feels : Nat) (this_ahead_state_feels_f : Nat → Int32) (this_ahead_state_date : Int32) (this_ahead_next : Nat) (this_ahead_next_f : Nat → Int32) (this_ahead_town : Value) (this_ahead_weighs : Int32) (this_ahead_rounds : Int32) (this_ahead_flag : Int32) (this_here : Nat) (this_here_names : Nat) (this_here_kinds : Nat) (this_here_kinds_f : Nat → Int32) (this_here_begin : Nat) (this_here_begin_lacks : Nat) (this_here_begin_lacks_f : Nat → Int32) (this_here_begin_feels : Nat) (this_here_begin_feels_f : Nat → Int32) (this_here_begin_date : Int32) (this_here_law : Nat) (this_here_law_steps : Nat) (this_here_law_steps_f : Nat → Int32) (this_here_law_stack : Nat) (this_here_law_stack_f : Nat → Int32) (this_here_law_size : Int32) (this_here_persons : Int32) (this_here_mast : Int32) (this_here_weighs : Int32) (this_here_rounds : Int32) (this_here_toldOnce : Int32) (this_townDraft : Nat) (this_told : Nat) (this_told_deeds : Nat) (this_told_deeds_f : Nat → Int32) (this_told_persons : Nat) (this_told_persons_f : Nat → Int32) (this_told_seconds : Nat) (this_told_seconds_f : Nat → Int32) (this_told_lines : Int32) (this_yearDraft : Nat) (this_drawn : Int64) (what : Int32) (R0 : Int32 × Int32 × Int32 × Int32 × Int32 × (Nat → Int32) × (Nat → Int32) × (Nat → Int32) × (Nat → Int32)) (hm : m_X11_judged this_ahead_state_lacks_f this_ahead_state_feels_f this_ahead_next_f this_here_kinds_f this_here_begin_lacks_f this_here_begin_feels_f this_here_begin_date this_here_law_steps_f this_here_law_stack_f this_here_law_size this_here_persons this_here_mast this_here_weighs this_here_rounds this_told_deeds_f this_told_persons_f this_told_seconds_f this_told_lines what = some R0) : CW l D (TY k) yX11_judged cX11_judged 6 (some .int) 7 153 [.ref this, .int what] (wd_X11_judged k this this_tape this_history this_seen this_measured this_marks this_standing this_now this_ahead this_ahead_state this_ahead_state_lacks this_ahead_state_lacks_f this_ahead_state_feels this_ahead_state_feels_f this_ahead_state_date this_ahead_next this_ahead_next_f this_ahead_town this_ahead_weighs this_ahead_rounds this_ahead_flag this_here this_here_names this_here_kinds this_here_kinds_f this_here_begin this_here_begin_lacks this_here_begin_lacks_f this_here_begin_feels this_here_begin_feels_f this_here_begin_date this_here_law this_here_law_steps this_here_law_steps_f this_here_law_stack this_here_law_stack_f this_here_law_size this_here_persons this_here_mast this_here_weighs this_here_rounds this_here_toldOnce this_townDraft this_told this_told_deeds this_told_deeds_f this_told_persons this_told_persons_f this_told_seconds this_told_seconds_f this_told_lines this_yearDraft this_drawn) (some (.int R0.1)) (wd_X11_judged k this this_tape this_history this_seen this_measured this_marks this_standing this_now this_ahead this_ahead_state this_ahead_state_lacks R0.2.2.2.2.2.1 this_ahead_state_feels R0.2.2.2.2.2.2.1 R0.2.2.2.2.1 this_ahead_next R0.2.2.2.2.2.2.2.1 (.ref this_here) R0.2.1 R0.2.2.1 R0.2.2.2.1 this_here this_here_names this_here_kinds this_here_kinds_f this_here_begin this_here_begin_lacks this_here_begin_lacks_f this_here_begin_feels this_here_begin_feels_f this_here_begin_date this_here_law this_here_law_steps this_here_law_steps_f this_here_law_stack R0.2.2.2.2.2.2.2.2 this_here_law_size this_here_persons this_here_mast this_here_weighs this_here_rounds this_here_toldOnce this_townDraft this_told this_told_deeds this_told_deeds_f this_told_persons this_told_persons_f this_told_seconds this_told_seconds_f this_told_lines this_yearDraft this_drawn) := by
  refine CW.mk (by decide) (Nat.le_of_ble_eq_true rfl) ?_
  intro p e s m args below meth c ls A ⟨hx, hb, hr, hts, hown, hlocks, hml⟩ hP hG hD hA hl hS hq
  have hl : lv_has ls 6 [(0, .ref this), (1, .int what)] := hl
  have h_25 : ∀ (n : Nat), ∀ (x2 : Int32) (x3 : Int32) (x4 : Int32) (u_this_ahead_weighs : Int32) (u_this_ahead_rounds : Int32) (u_this_ahead_flag : Int32) (u_this_ahead_state_date : Int32) (u_this_ahead_state_lacks_f : Nat → Int32) (u_this_ahead_state_feels_f : Nat → Int32) (u_this_ahead_next_f : Nat → Int32) (u_this_here_law_stack_f : Nat → Int32) (H : Heap) (locs : List Loc) (ls : Array Slot), va_P D vwCl (wd_X11_judged k this this_tape this_history this_seen this_measured this_marks this_standing this_now this_ahead this_ahead_state this_ahead_state_lacks u_this_ahead_state_lacks_f this_ahead_state_feels u_this_ahead_state_feels_f u_this_ahead_state_date this_ahead_next u_this_ahead_next_f (.ref this_here) u_this_ahead_weighs u_this_ahead_rounds u_this_ahead_flag this_here this_here_names this_here_kinds this_here_kinds_f this_here_begin this_here_begin_lacks this_here_begin_lacks_f this_here_begin_feels this_here_begin_feels_f this_here_begin_date this_here_law this_here_law_steps this_here_law_steps_f this_here_law_stack u_this_here_law_stack_f this_here_law_size this_here_persons this_here_mast this_here_weighs this_here_rounds this_here_toldOnce this_townDraft this_told this_told_deeds this_told_deeds_f this_told_persons this_told_persons_f this_told_seconds this_told_seconds_f this_told_lines this_yearDraft this_drawn) H → va_D A (wd_X11_judged k this this_tape this_history this_seen this_measured this_marks this_standing this_now this_ahead this_ahead_state this_ahead_state_lacks u_this_ahead_state_lacks_f this_ahead_state_feels u_this_ahead_state_feels_f u_this_ahead_state_date this_ahead_next u_this_ahead_next_f (.ref this_here) u_this_ahead_weighs u_this_ahead_rounds u_this_ahead_flag this_here this_here_names this_here_kinds this_here_kinds_f this_here_begin this_here_begin_lacks this_here_begin_lacks_f this_here_begin_feels this_here_begin_feels_f this_here_begin_date this_here_law this_here_law_steps this_here_law_steps_f this_here_law_stack u_this_here_law_stack_f this_here_law_size this_here_persons this_here_mast this_here_weighs this_here_rounds this_here_toldOnce this_townDraft this_told this_told_deeds this_told_deeds_f this_told_persons this_told_persons_f this_told_seconds this_told_seconds_f this_told_lines this_yearDraft this_drawn) → va_S A s.heap H locs → lv_has ls 6 [(0, .ref this), (1, .int what), (2, .int x2), (3, .int x3), (4, .int x4)] → m_X11_judged_25 this_here_kinds_f this_here_begin_lacks_f this_here_begin_feels_f this_here_begin_date this_here_law_steps_f this_here_law_size this_here_persons this_here_mast this_here_weighs this_here_rounds this_told_deeds_f this_told_persons_f this_told_seconds_f this_told_lines what n x2 x3 x4 u_this_ahead_weighs u_this_ahead_rounds u_this_ahead_flag u_this_ahead_state_date u_this_ahead_state_lacks_f u_this_ahead_state_feels_f u_this_ahead_next_f u_this_here_law_stack_f = some R0 → W p l e (Rm 7 153) s m args below meth c H locs 0 0 (MQ below (QW D (some (.int R0.1)) (wd_X11_judged k this this_tape this_history this_seen this_measured this_marks this_standing this_now this_ahead this_ahead_state this_ahead_state_lacks this_ahead_state_lacks_f this_ahead_state_feels this_ahead_state_feels_f this_ahead_state_date this_ahead_next this_ahead_next_f this_ahead_town this_ahead_weighs this_ahead_rounds this_ahead_flag this_here this_here_names this_here_kinds this_here_kinds_f this_here_begin this_here_begin_lacks this_here_begin_lacks_f this_here_begin_feels this_here_begin_feels_f this_here_begin_date this_here_law this_here_law_steps this_here_law_steps_f this_here_law_stack this_here_law_stack_f this_here_law_size this_here_persons this_here_mast this_here_weighs this_here_rounds this_here_toldOnce this_townDraft this_told this_told_deeds this_told_deeds_f this_told_persons this_told_persons_f this_told_seconds this_told_seconds_f this_told_lines this_yearDraft this_drawn) (wd_X11_judged k this this_tape this_history this_seen this_measured this_marks this_standing this_now this_ahead this_ahead_state this_ahead_state_lacks R0.2.2.2.2.2.1 this_ahead_state_feels R0.2.2.2.2.2.2.1 R0.2.2.2.2.1 this_ahead_next R0.2.2.2.2.2.2.2.1 (.ref this_here) R0.2.1 R0.2.2.1 R0.2.2.2.1 this_here this_here_names this_here_kinds this_here_kinds_f this_here_begin this_here_begin_lacks this_here_begin_lacks_f this_here_begin_feels this_here_begin_feels_f this_here_begin_date this_here_law this_here_law_steps this_here_law_steps_f this_here_law_stack R0.2.2.2.2.2.2.2.2 this_here_law_size this_here_persons this_here_mast this_here_weighs this_here_rounds this_here_toldOnce this_townDraft this_told this_told_deeds this_told_deeds_f this_told_persons this_told_persons_f this_told_seconds this_told_seconds_f this_told_lines this_yearDraft this_drawn) s.heap.size) args s 0 0 A) (F0 m 25 ls []) := by
    intro n
    induction n with
    | zero => intro x2 x3 x4 u_this_ahead_weighs u_this_ahead_rounds u_this_ahead_flag u_this_ahead_state_date u_this_ahead_state_lacks_f u_this_ahead_state_feels_f u_this_ahead_next_f u_this_here_law_stack_f H locs ls hP hD hS hl hm; cases hm
    | succ n ih =>
      intro x2 x3 x4 u_this_ahead_weighs u_this_ahead_rounds u_this_ahead_flag u_this_ahead_state_date u_this_ahead_state_lacks_f u_this_ahead_state_feels_f u_this_ahead_next_f u_this_here_law_stack_f H locs ls hP hD hS hl hm
      unfold m_X11_judged_25 at hm
      refine lv_iload (pc := 25) hx hb dX11_judged_25 (lv_at hl 4 rfl) ?_
      refine lv_aload_n (pc := 27) hx hb dX11_judged_27 rfl (lv_at hl 0 rfl) ?_
      refine va_get (pc := 28) (D := D) (ci := 9) (C := RX11) (T := TX11) (N := 13) hx hb hts hiX11 hown hG.1 hP 0 rfl rfl 10 (Nat.le_of_ble_eq_true rfl) (hts _ kw_354) (fun _ h9 => h9) rfl dX11_judged_28 ?_
      refine va_getN (pc := 31) (D := D) (ci := 8) (C := RX10) (T := TX10) (N := 4) hx hb hts hiX10 hown hG.1 hP 14 rfl rfl 3 (Nat.le_of_ble_eq_true rfl) (va_Nw.use rfl (hG.2 _ kn_243)) (fun _ h9 => h9) rfl dX11_judged_31 ?_
      refine lv_icmp_ge (tgt := 91) (pc := 34) hx hb dX11_judged_34 (by decide) (fun hc => ?_) (fun hc => ?_)
      · rw [if_pos hc] at hm
        refine lv_iload_n (pc := 91) hx hb dX11_judged_91 rfl (lv_at hl 1 rfl) ?_
        by_cases hs0 : what = 0
        · rw [if_pos hs0] at hm
          rw [hs0]
          refine lv_tableIn (tgt := 120) (pc := 92) hx hb dX11_judged_92 (by decide) (by decide) rfl (by decide) ?_
          refine lv_iload_n (pc := 120) hx hb dX11_judged_120 rfl (lv_at hl 2 rfl) ?_
          rw [← Option.some.inj hm]
          exact W.iret hx hb hr (fun t ht _ => hq _ _ H t ht hP hD locs hS) hS.2.2 dX11_judged_121 hlocks
        · rw [if_neg hs0] at hm
          by_cases hs1 : what = 1
          · rw [if_pos hs1] at hm
            rw [hs1]
            refine lv_tableIn (tgt := 122) (pc := 92) hx hb dX11_judged_92 (by decide) (by decide) rfl (by decide) ?_
            refine lv_iload_n (pc := 122) hx hb dX11_judged_122 rfl (lv_at hl 3 rfl) ?_
            rw [← Option.some.inj hm]
            exact W.iret hx hb hr (fun t ht _ => hq _ _ H t ht hP hD locs hS) hS.2.2 dX11_judged_123 hlocks
          · rw [if_neg hs1] at hm
            by_cases hs2 : what = 2
            · rw [if_pos hs2] at hm
              rw [hs2]
              refine lv_tableIn (tgt := 124) (pc := 92) hx hb dX11_judged_92 (by decide) (by decide) rfl (by decide) ?_
              refine lv_aload_n (pc := 124) hx hb dX11_judged_124 rfl (lv_at hl 0 rfl) ?_
              refine va_get (pc := 125) (D := D) (ci := 9) (C := RX11) (T := TX11) (N := 13) hx hb hts hiX11 hown hG.1 hP 0 rfl rfl 7 (Nat.le_of_ble_eq_true rfl) (hts _ kw_351) (fun _ h9 => h9) rfl dX11_judged_125 ?_
              refine va_getN (pc := 128) (D := D) (ci := 0) (C := RX1) (T := TX1) (N := 6) hx hb hts hiX1 hown hG.1 hP 1 rfl rfl 5 (Nat.le_of_ble_eq_true rfl) (va_Nw.use rfl (hG.2 _ kn_156)) (fun _ h9 => h9) rfl dX11_judged_128 ?_
              rw [← Option.some.inj hm]
              exact W.iret hx hb hr (fun t ht _ => hq _ _ H t ht hP hD locs hS) hS.2.2 dX11_judged_131 hlocks
            · rw [if_neg hs2] at hm
              refine lv_tableOut (tgt := 132) (pc := 92) hx hb dX11_judged_92 (sw_out (by decide) (by decide) (by intro v h1 h2; rcases (show v = 0 ∨ v = 1 ∨ v = 2 by omega) with rfl | rfl | rfl <;> assumption)) (by decide) ?_
              refine lv_bipush (v := (-2)) (pc := 132) hx hb dX11_judged_132 (by decide) ?_
              rw [← Option.some.inj hm]
              exact W.iret hx hb hr (fun t ht _ => hq _ _ H t ht hP hD locs hS) hS.2.2 dX11_judged_134 hlocks
      · rw [if_neg hc] at hm
        refine lv_aload_n (pc := 37) hx hb dX11_judged_37 rfl (lv_at hl 0 rfl) ?_
        refine va_get (pc := 38) (D := D) (ci := 9) (C := RX11) (T := TX11) (N := 13) hx hb hts hiX11 hown hG.1 hP 0 rfl rfl 7 (Nat.le_of_ble_eq_true rfl) (hts _ kw_351) (fun _ h9 => h9) rfl dX11_judged_38 ?_
        refine va_getN (pc := 41) (D := D) (ci := 0) (C := RX1) (T := TX1) (N := 6) hx hb hts hiX1 hown hG.1 hP 1 rfl rfl 5 (Nat.le_of_ble_eq_true rfl) (va_Nw.use rfl (hG.2 _ kn_156)) (fun _ h9 => h9) rfl dX11_judged_41 ?_
        refine lv_istore (lv' := [(5, .int u_this_ahead_flag), (0, .ref this), (1, .int what), (2, .int x2), (3, .int x3), (4, .int x4)]) (pc := 44) hx hb dX11_judged_44 hl (Nat.le_of_ble_eq_true rfl) rfl (fun ls hl => ?_)
        refine lv_aload_n (pc := 46) hx hb dX11_judged_46 rfl (lv_at hl 1 rfl) ?_
        refine va_get (pc := 47) (D := D) (ci := 9) (C := RX11) (T := TX11) (N := 13) hx hb hts hiX11 hown hG.1 hP 0 rfl rfl 10 (Nat.le_of_ble_eq_true rfl) (hts _ kw_354) (fun _ h9 => h9) rfl dX11_judged_47 ?_
        refine lv_iload (pc := 50) hx hb dX11_judged_50 (lv_at hl 5 rfl) ?_
        refine lv_aload_n (pc := 52) hx hb dX11_judged_52 rfl (lv_at hl 1 rfl) ?_
        refine va_get (pc := 53) (D := D) (ci := 9) (C := RX11) (T := TX11) (N := 13) hx hb hts hiX11 hown hG.1 hP 0 rfl rfl 7 (Nat.le_of_ble_eq_true rfl) (hts _ kw_351) (fun _ h9 => h9) rfl dX11_judged_53 ?_
        obtain ⟨r3, hcl, hm⟩ := bd hm
        refine cw_maskP (ws' := (wd_X11_judged k this this_tape this_history this_seen this_measured this_marks this_standing this_now this_ahead this_ahead_state this_ahead_state_lacks r3.2.2.1 this_ahead_state_feels r3.2.2.2.1 r3.2.1 this_ahead_next r3.2.2.2.2.1 (.ref this_here) u_this_ahead_weighs u_this_ahead_rounds r3.1 this_here this_here_names this_here_kinds this_here_kinds_f this_here_begin this_here_begin_lacks this_here_begin_lacks_f this_here_begin_feels this_here_begin_feels_f this_here_begin_date this_here_law this_here_law_steps this_here_law_steps_f this_here_law_stack r3.2.2.2.2.2 this_here_law_size this_here_persons this_here_mast this_here_weighs this_here_rounds this_here_toldOnce this_townDraft this_told this_told_deeds this_told_deeds_f this_told_persons this_told_persons_f this_told_seconds this_told_seconds_f this_told_lines this_yearDraft this_drawn)) (run_VN (pc := 56) (n := 2) (As := [.int x4, .ref this_ahead]) (rest := []) ⟨hx, hb, hml, hown, hts⟩ ((c_X10_carryOut l D k this_told this_told_deeds this_told_deeds_f this_told_persons this_told_persons_f this_told_seconds this_told_seconds_f this_told_lines this_ahead this_ahead_state this_ahead_state_lacks u_this_ahead_state_lacks_f this_ahead_state_feels u_this_ahead_state_feels_f u_this_ahead_state_date this_ahead_next u_this_ahead_next_f this_here this_here_names this_here_kinds this_here_kinds_f this_here_begin this_here_law this_here_law_steps this_here_law_steps_f this_here_law_stack u_this_here_law_stack_f this_here_law_size this_here_persons this_here_mast this_here_weighs this_here_rounds this_here_toldOnce u_this_ahead_weighs u_this_ahead_rounds u_this_ahead_flag x4 r3 hcl) H.size) ⟨kw_840, kw_11, by decide +kernel⟩ hG kn_837 kw_839 ks_65 ⟨Nat.le_of_ble_eq_true rfl, Nat.le_of_ble_eq_true rfl⟩ pw_blind (prW ((P_pick [false, true, true, true, true, true, true, true, false, false, false, true, true, true, true, true, true, true] rfl hP).sub [10, 11, 12, 13, 0, 1, 2, 3, 4, 5, 6, 7, 8, 9] rfl) hG ((D_pick [false, true, true, true, true, true, true, true, false, false, false, true, true, true, true, true, true, true] rfl hD).sub [10, 11, 12, 13, 0, 1, 2, 3, 4, 5, 6, 7, 8, 9] (by decide) rfl)) (va_recv hG.1 hP (ci := 8) (q0 := 14) rfl rfl) rfl hl.1 rfl (Nat.le_of_ble_eq_true rfl) dX11_judged_56 ⟨Nat.zero_le _, Nat.zero_le _⟩) hP hD hS hA [false, true, true, true, true, true, true, true, false, false, false, true, true, true, true, true, true, true] [10, 11, 12, 13, 0, 1, 2, 3, 4, 5, 6, 7, 8, 9] [4, 5, 6, 7, 8, 9, 10, 11, 12, 13, 0, 1, 2, 3] rfl rfl rfl rfl (fun H locs hP hD hS => ?_)
        refine lv_aload_n (pc := 59) hx hb dX11_judged_59 rfl (lv_at hl 1 rfl) ?_
        refine va_get (pc := 60) (D := D) (ci := 9) (C := RX11) (T := TX11) (N := 13) hx hb hts hiX11 hown hG.1 hP 0 rfl rfl 7 (Nat.le_of_ble_eq_true rfl) (hts _ kw_351) (fun _ h9 => h9) rfl dX11_judged_60 ?_
        refine va_getN (pc := 63) (D := D) (ci := 0) (C := RX1) (T := TX1) (N := 6) hx hb hts hiX1 hown hG.1 hP 1 rfl rfl 5 (Nat.le_of_ble_eq_true rfl) (va_Nw.use rfl (hG.2 _ kn_156)) (fun _ h9 => h9) rfl dX11_judged_63 ?_
        refine lv_iload (pc := 66) hx hb dX11_judged_66 (lv_at hl 0 rfl) ?_
        refine lv_icmp_eq (tgt := 85) (pc := 68) hx hb dX11_judged_68 (by decide) (fun hc => ?_) (fun hc => ?_)
        · rw [if_pos hc] at hm
          refine lv_iinc (k := 5) (v := x4 + 1) (lv' := [(4, .int (x4 + 1)), (5, .int u_this_ahead_flag), (0, .ref this), (1, .int what), (2, .int x2), (3, .int x3)]) (pc := 85) hx hb dX11_judged_85 hl rfl rfl (Nat.le_of_ble_eq_true rfl) rfl (fun ls hl => ?_)
          refine lv_goto (tgt := 25) (pc := 88) hx hb dX11_judged_88 (by decide) ?_
          exact ih x2 x3 (x4 + 1) u_this_ahead_weighs u_this_ahead_rounds r3.1 r3.2.1 r3.2.2.1 r3.2.2.2.1 r3.2.2.2.2.1 r3.2.2.2.2.2 H locs ls hP hD hS (lv_sub hl [2, 3, 4, 5, 0] rfl) hm
        · rw [if_neg hc] at hm
          refine lv_iload_n (pc := 71) hx hb dX11_judged_71 rfl (lv_at hl 4 rfl) ?_
          refine lv_if_ne (tgt := 80) (pc := 72) hx hb dX11_judged_72 (by decide) (fun hc => ?_) (fun hc => ?_)
          · rw [if_neg hc] at hm
            refine lv_iload_n (pc := 80) hx hb dX11_judged_80 rfl (lv_at hl 3 rfl) ?_
            refine lv_istore_n (lv' := [(2, .int x2), (5, .int u_this_ahead_flag), (0, .ref this), (1, .int what), (3, .int x3), (4, .int x4)]) (pc := 81) hx hb dX11_judged_81 rfl hl (Nat.le_of_ble_eq_true rfl) rfl (fun ls hl => ?_)
            refine lv_iinc (k := 4) (v := x3 + 1) (lv' := [(3, .int (x3 + 1)), (2, .int x2), (5, .int u_this_ahead_flag), (0, .ref this), (1, .int what), (4, .int x4)]) (pc := 82) hx hb dX11_judged_82 hl rfl rfl (Nat.le_of_ble_eq_true rfl) rfl (fun ls hl => ?_)
            refine lv_iinc (k := 5) (v := x4 + 1) (lv' := [(4, .int (x4 + 1)), (3, .int (x3 + 1)), (2, .int x2), (5, .int u_this_ahead_flag), (0, .ref this), (1, .int what)]) (pc := 85) hx hb dX11_judged_85 hl rfl rfl (Nat.le_of_ble_eq_true rfl) rfl (fun ls hl => ?_)
            refine lv_goto (tgt := 25) (pc := 88) hx hb dX11_judged_88 (by decide) ?_
            exact ih x2 (x3 + 1) (x4 + 1) u_this_ahead_weighs u_this_ahead_rounds r3.1 r3.2.1 r3.2.2.1 r3.2.2.2.1 r3.2.2.2.2.1 r3.2.2.2.2.2 H locs ls hP hD hS (lv_sub hl [4, 5, 2, 1, 0] rfl) hm
          · rw [if_pos hc] at hm
            refine lv_iload (pc := 75) hx hb dX11_judged_75 (lv_at hl 5 rfl) ?_
            refine lv_goto (tgt := 81) (pc := 77) hx hb dX11_judged_77 (by decide) ?_
            refine lv_istore_n (lv' := [(2, .int x4), (5, .int u_this_ahead_flag), (0, .ref this), (1, .int what), (3, .int x3), (4, .int x4)]) (pc := 81) hx hb dX11_judged_81 rfl hl (Nat.le_of_ble_eq_true rfl) rfl (fun ls hl => ?_)
            refine lv_iinc (k := 4) (v := x3 + 1) (lv' := [(3, .int (x3 + 1)), (2, .int x4), (5, .int u_this_ahead_flag), (0, .ref this), (1, .int what), (4, .int x4)]) (pc := 82) hx hb dX11_judged_82 hl rfl rfl (Nat.le_of_ble_eq_true rfl) rfl (fun ls hl => ?_)
            refine lv_iinc (k := 5) (v := x4 + 1) (lv' := [(4, .int (x4 + 1)), (3, .int (x3 + 1)), (2, .int x4), (5, .int u_this_ahead_flag), (0, .ref this), (1, .int what)]) (pc := 85) hx hb dX11_judged_85 hl rfl rfl (Nat.le_of_ble_eq_true rfl) rfl (fun ls hl => ?_)
            refine lv_goto (tgt := 25) (pc := 88) hx hb dX11_judged_88 (by decide) ?_
            exact ih x4 (x3 + 1) (x4 + 1) u_this_ahead_weighs u_this_ahead_rounds r3.1 r3.2.1 r3.2.2.1 r3.2.2.2.1 r3.2.2.2.2.1 r3.2.2.2.2.2 H locs ls hP hD hS (lv_sub hl [4, 5, 2, 1, 0] rfl) hm
  unfold m_X11_judged at hm
  suffices hgo : ∀ (H : Heap) (locs : List Loc), va_P D vwCl (wd_X11_judged k this this_tape this_history this_seen this_measured this_marks this_standing this_now this_ahead this_ahead_state this_ahead_state_lacks this_ahead_state_lacks_f this_ahead_state_feels this_ahead_state_feels_f this_ahead_state_date this_ahead_next this_ahead_next_f this_ahead_town this_ahead_weighs this_ahead_rounds this_ahead_flag this_here this_here_names this_here_kinds this_here_kinds_f this_here_begin this_here_begin_lacks this_here_begin_lacks_f this_here_begin_feels this_here_begin_feels_f this_here_begin_date this_here_law this_here_law_steps this_here_law_steps_f this_here_law_stack this_here_law_stack_f this_here_law_size this_here_persons this_here_mast this_here_weighs this_here_rounds this_here_toldOnce this_townDraft this_told this_told_deeds this_told_deeds_f this_told_persons this_told_persons_f this_told_seconds this_told_seconds_f this_told_lines this_yearDraft this_drawn) H → va_D A (wd_X11_judged k this this_tape this_history this_seen this_measured this_marks this_standing this_now this_ahead this_ahead_state this_ahead_state_lacks this_ahead_state_lacks_f this_ahead_state_feels this_ahead_state_feels_f this_ahead_state_date this_ahead_next this_ahead_next_f this_ahead_town this_ahead_weighs this_ahead_rounds this_ahead_flag this_here this_here_names this_here_kinds this_here_kinds_f this_here_begin this_here_begin_lacks this_here_begin_lacks_f this_here_begin_feels this_here_begin_feels_f this_here_begin_date this_here_law this_here_law_steps this_here_law_steps_f this_here_law_stack this_here_law_stack_f this_here_law_size this_here_persons this_here_mast this_here_weighs this_here_rounds this_here_toldOnce this_townDraft this_told this_told_deeds this_told_deeds_f this_told_persons this_told_persons_f this_told_seconds this_told_seconds_f this_told_lines this_yearDraft this_drawn) → va_S A s.heap H locs → W p l e (Rm 7 153) s m args below meth c H locs 0 0 (MQ below (QW D (some (.int R0.1)) (wd_X11_judged k this this_tape this_history this_seen this_measured this_marks this_standing this_now this_ahead this_ahead_state this_ahead_state_lacks this_ahead_state_lacks_f this_ahead_state_feels this_ahead_state_feels_f this_ahead_state_date this_ahead_next this_ahead_next_f this_ahead_town this_ahead_weighs this_ahead_rounds this_ahead_flag this_here this_here_names this_here_kinds this_here_kinds_f this_here_begin this_here_begin_lacks this_here_begin_lacks_f this_here_begin_feels this_here_begin_feels_f this_here_begin_date this_here_law this_here_law_steps this_here_law_steps_f this_here_law_stack this_here_law_stack_f this_here_law_size this_here_persons this_here_mast this_here_weighs this_here_rounds this_here_toldOnce this_townDraft this_told this_told_deeds this_told_deeds_f this_told_persons this_told_persons_f this_told_seconds this_told_seconds_f this_told_lines this_yearDraft this_drawn) (wd_X11_judged k this this_tape this_history this_seen this_measured this_marks this_standing this_now this_ahead this_ahead_state this_ahead_state_lacks R0.2.2.2.2.2.1 this_ahead_state_feels R0.2.2.2.2.2.2.1 R0.2.2.2.2.1 this_ahead_next R0.2.2.2.2.2.2.2.1 (.ref this_here) R0.2.1 R0.2.2.1 R0.2.2.2.1 this_here this_here_names this_here_kinds this_here_kinds_f this_here_begin this_here_begin_lacks this_here_begin_lacks_f this_here_begin_feels this_here_begin_feels_f this_here_begin_date this_here_law this_here_law_steps this_here_law_steps_f this_here_law_stack R0.2.2.2.2.2.2.2.2 this_here_law_size this_here_persons this_here_mast this_here_weighs this_here_rounds this_here_toldOnce this_townDraft this_told this_told_deeds this_told_deeds_f this_told_persons this_told_persons_f this_told_seconds this_told_seconds_f this_told_lines this_yearDraft this_drawn) s.heap.size) args s 0 0 A) (F0 m 0 ls []) from hgo _ _ hP hD hS
  clear hP hD hS
  intro H locs hP hD hS
  refine lv_iconst (v := (-1)) (pc := 0) hx hb dX11_judged_0 (by decide) ?_
  refine lv_istore_n (lv' := [(2, .int (-1)), (0, .ref this), (1, .int what)]) (pc := 1) hx hb dX11_judged_1 rfl hl (Nat.le_of_ble_eq_true rfl) rfl (fun ls hl => ?_)
  refine lv_iconst (v := 0) (pc := 2) hx hb dX11_judged_2 (by decide) ?_
  refine lv_istore_n (lv' := [(3, .int 0), (2, .int (-1)), (0, .ref this), (1, .int what)]) (pc := 3) hx hb dX11_judged_3 rfl hl (Nat.le_of_ble_eq_true rfl) rfl (fun ls hl => ?_)
  refine lv_aload_n (pc := 4) hx hb dX11_judged_4 rfl (lv_at hl 2 rfl) ?_
  refine va_get (pc := 5) (D := D) (ci := 9) (C := RX11) (T := TX11) (N := 13) hx hb hts hiX11 hown hG.1 hP 0 rfl rfl 7 (Nat.le_of_ble_eq_true rfl) (hts _ kw_351) (fun _ h9 => h9) rfl dX11_judged_5 ?_
  refine lv_aload_n (pc := 8) hx hb dX11_judged_8 rfl (lv_at hl 2 rfl) ?_
  refine va_get (pc := 9) (D := D) (ci := 9) (C := RX11) (T := TX11) (N := 13) hx hb hts hiX11 hown hG.1 hP 0 rfl rfl 8 (Nat.le_of_ble_eq_true rfl) (hts _ kw_352) (fun _ h9 => h9) rfl dX11_judged_9 ?_
  refine lv_aload_n (pc := 12) hx hb dX11_judged_12 rfl (lv_at hl 2 rfl) ?_
  refine va_get (pc := 13) (D := D) (ci := 9) (C := RX11) (T := TX11) (N := 13) hx hb hts hiX11 hown hG.1 hP 0 rfl rfl 8 (Nat.le_of_ble_eq_true rfl) (hts _ kw_352) (fun _ h9 => h9) rfl dX11_judged_13 ?_
  refine va_getN (pc := 16) (D := D) (ci := 7) (C := RX8) (T := TX8) (N := 9) hx hb hts hiX8 hown hG.1 hP 6 rfl rfl 2 (Nat.le_of_ble_eq_true rfl) (va_Nw.use rfl (hG.2 _ kn_199)) (fun _ h9 => h9) rfl dX11_judged_16 ?_
  obtain ⟨r4, hcl, hm⟩ := bd hm
  refine cw_mask (ws' := (wd_X11_judged k this this_tape this_history this_seen this_measured this_marks this_standing this_now this_ahead this_ahead_state this_ahead_state_lacks r4.2.2.2.2.1 this_ahead_state_feels r4.2.2.2.2.2 r4.2.2.2.1 this_ahead_next this_ahead_next_f (.ref this_here) r4.1 r4.2.1 r4.2.2.1 this_here this_here_names this_here_kinds this_here_kinds_f this_here_begin this_here_begin_lacks this_here_begin_lacks_f this_here_begin_feels this_here_begin_feels_f this_here_begin_date this_here_law this_here_law_steps this_here_law_steps_f this_here_law_stack this_here_law_stack_f this_here_law_size this_here_persons this_here_mast this_here_weighs this_here_rounds this_here_toldOnce this_townDraft this_told this_told_deeds this_told_deeds_f this_told_persons this_told_persons_f this_told_seconds this_told_seconds_f this_told_lines this_yearDraft this_drawn)) (run_VN (pc := 19) (n := 2) (As := [.ref this_here, .ref this_here_begin]) (rest := []) ⟨hx, hb, hml, hown, hts⟩ ((c_X1_start l D k this_ahead this_ahead_state this_ahead_state_lacks this_ahead_state_lacks_f this_ahead_state_feels this_ahead_state_feels_f this_ahead_state_date this_ahead_next this_ahead_town this_ahead_weighs this_ahead_rounds this_ahead_flag this_here this_here_names this_here_kinds this_here_kinds_f this_here_begin this_here_law this_here_persons this_here_mast this_here_weighs this_here_rounds this_here_toldOnce this_here_begin this_here_begin_lacks this_here_begin_lacks_f this_here_begin_feels this_here_begin_feels_f this_here_begin_date r4 hcl) H.size) ⟨kw_307, kw_8, by decide +kernel⟩ hG kn_304 kw_306 ks_5 ⟨Nat.le_of_ble_eq_true rfl, Nat.le_of_ble_eq_true rfl⟩ pw_blind (prW (P_pick [false, true, true, true, true, false, true, true, true, true, true] rfl hP) hG (D_pick [false, true, true, true, true, false, true, true, true, true, true] rfl hD)) (va_recv hG.1 hP (ci := 0) (q0 := 1) rfl rfl) rfl hl.1 rfl (Nat.le_of_ble_eq_true rfl) dX11_judged_19 ⟨Nat.zero_le _, Nat.zero_le _⟩) hP hD hS hA [false, true, true, true, true, false, true, true, true, true, true] rfl rfl rfl (fun H locs hP hD hS => ?_)
  refine lv_iconst (v := 0) (pc := 22) hx hb dX11_judged_22 (by decide) ?_
  refine lv_istore (lv' := [(4, .int 0), (3, .int 0), (2, .int (-1)), (0, .ref this), (1, .int what)]) (pc := 23) hx hb dX11_judged_23 hl (Nat.le_of_ble_eq_true rfl) rfl (fun ls hl => ?_)
  exact h_25 FU (-1) 0 0 r4.1 r4.2.1 r4.2.2.1 r4.2.2.2.1 r4.2.2.2.2.1 r4.2.2.2.2.2 this_ahead_next_f this_here_law_stack_f H locs ls hP hD hS (lv_sub hl [3, 4, 2, 1, 0] rfl) hm
