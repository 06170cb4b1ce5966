theorem dX2_clear_0 : decode cX2_clear 0 = .ok (.aload_n 0, 1) := by decide +kernel
theorem dX2_clear_1 : decode cX2_clear 1 = .ok (.iconst 0, 1) := by decide +kernel
theorem dX2_clear_2 : decode cX2_clear 2 = .ok (.putfield 18, 3) := by decide +kernel
theorem dX2_clear_5 : decode cX2_clear 5 = .ok (.return_, 1) := by decide +kernel
abbrev wd_X2_clear (k : Nat → ClassId) (this : Nat) (this_states : Nat) (this_next : Int32) (this_many : Int32) : va_W := [(this, .inr (1, [.ref this_states, .int this_next, .int this_many]))]
set_option maxHeartbeats 4000000 in
set_option maxRecDepth 100000 in
theorem c_X2_clear (l : Launch) (D : va_G) (k : Nat → ClassId) (this : Nat) (this_states : Nat) (this_next : Int32) (this_many : Int32) (R0 : Int32) (hm : m_X2_clear = some R0) : CW l D (TY k) yX2_clear cX2_clear 1 none 0 0 [.ref this] (wd_X2_clear k this this_states this_next this_many) none (wd_X2_clear k this this_states this_next R0) := by
  refine CW.mk (by decide) (Nat.le_of_ble_eq_true rfl) ?_
  intro p e s m args below meth c ls A ⟨hx, hb, hr, hts, hown, hlocks, hml⟩ hP hG hD hA hl hS hq
  have hl : lv_has ls 1 [(0, .ref this)] := hl
  unfold m_X2_clear at hm
  suffices hgo : ∀ (H : Heap) (locs : List Loc), va_P D vwCl (wd_X2_clear k this this_states this_next this_many) H → va_D A (wd_X2_clear k this this_states this_next this_many) → va_S A s.heap H locs → W p l e (Rm 0 0) s m args below meth c H locs 0 0 (MQ below (QW D none (wd_X2_clear k this this_states this_next this_many) (wd_X2_clear k this this_states this_next R0) s.heap.size) args s 0 0 A) (F0 m 0 ls []) from hgo _ _ hP hD hS
  clear hP hD hS
  intro H locs hP hD hS
  refine lv_aload_n (pc := 0) hx hb dX2_clear_0 rfl (lv_at hl 0 rfl) ?_
  refine lv_iconst (v := 0) (pc := 1) hx hb dX2_clear_1 (by decide) ?_
  refine va_put (pc := 2) (D := D) (ci := 1) (v := .int 0) (ty := .int) (C := RX2) (T := TX2) (N := 3) hx hb hts hiX2 tyX2 tyX2_ok nmX2 hown hG.1 hP hD hS 0 rfl rfl 2 (Nat.le_of_ble_eq_true rfl) (hts _ kw_112) (fun _ h9 => h9) rfl (by decide +kernel) rfl rfl (Nat.le_of_ble_eq_true rfl) dX2_clear_2 (fun H locs hP hD hS => ?_)
  have hP : va_P D vwCl (wd_X2_clear k this this_states this_next 0) H := hP
  have hD : va_D A (wd_X2_clear k this this_states this_next 0) := hD
  rw [← Option.some.inj hm]
  exact W.vret hx hb hr (fun t ht _ => hq _ _ H t ht hP hD locs hS) hS.2.2 dX2_clear_5 hlocks
theorem dX2_stateAt_0 : decode cX2_stateAt 0 = .ok (.iload_n 1, 1) := by decide +kernel
theorem dX2_stateAt_1 : decode cX2_stateAt 1 = .ok (.ifCond .lt 21, 3) := by decide +kernel
theorem dX2_stateAt_4 : decode cX2_stateAt 4 = .ok (.iload_n 1, 1) := by decide +kernel
theorem dX2_stateAt_5 : decode cX2_stateAt 5 = .ok (.aload_n 0, 1) := by decide +kernel
theorem dX2_stateAt_6 : decode cX2_stateAt 6 = .ok (.getfield 11, 3) := by decide +kernel
theorem dX2_stateAt_9 : decode cX2_stateAt 9 = .ok (.arraylength, 1) := by decide +kernel
theorem dX2_stateAt_10 : decode cX2_stateAt 10 = .ok (.if_icmp .ge 12, 3) := by decide +kernel
theorem dX2_stateAt_13 : decode cX2_stateAt 13 = .ok (.aload_n 0, 1) := by decide +kernel
theorem dX2_stateAt_14 : decode cX2_stateAt 14 = .ok (.getfield 11, 3) := by decide +kernel
theorem dX2_stateAt_17 : decode cX2_stateAt 17 = .ok (.iload_n 1, 1) := by decide +kernel
theorem dX2_stateAt_18 : decode cX2_stateAt 18 = .ok (.aaload, 1) := by decide +kernel
theorem dX2_stateAt_19 : decode cX2_stateAt 19 = .ok (.goto 4, 3) := by decide +kernel
theorem dX2_stateAt_22 : decode cX2_stateAt 22 = .ok (.aconst_null, 1) := by decide +kernel
theorem dX2_stateAt_23 : decode cX2_stateAt 23 = .ok (.areturn, 1) := by decide +kernel
abbrev wd_X2_stateAt (k : Nat → ClassId) (this : Nat) (this_states : Nat) (this_states_a : Nat → Nat) (this_next : Int32) (this_many : Int32) : va_W := [(this, .inr (1, [.ref this_states, .int this_next, .int this_many])), (this_states, .inl (k 5, 16, .inr (.inr (.inr (.inr (fun j => some (this_states_a j)))))))]
set_option maxHeartbeats 4000000 in
set_option maxRecDepth 100000 in
theorem c_X2_stateAt (l : Launch) (D : va_G) (k : Nat → ClassId) (this : Nat) (this_states : Nat) (this_states_a : Nat → Nat) (this_next : Int32) (this_many : Int32) (i : Int32) (R0 : Option Nat) (hm : m_X2_stateAt i = some R0) : CR l D (TY k) yX2_stateAt cX2_stateAt 2 (some (.object "HalfMast$State")) 0 0 [.ref this, .int i] (wd_X2_stateAt k this this_states this_states_a this_next this_many) (some (va_re this_states_a R0)) := by
  refine CR.mk (by decide) (Nat.le_of_ble_eq_true rfl) ?_
  intro p e s m args below meth c ls ⟨hx, hb, hr, hts, hown, hlocks, hml⟩ hP hG hl
  have hl : lv_has ls 2 [(0, .ref this), (1, .int i)] := hl
  unfold m_X2_stateAt at hm
  refine lv_iload_n (pc := 0) hx hb dX2_stateAt_0 rfl (lv_at hl 1 rfl) ?_
  refine lv_if_lt (tgt := 22) (pc := 1) hx hb dX2_stateAt_1 (by decide) (fun hc => ?_) (fun hc => ?_)
  · rw [if_pos hc] at hm
    refine lv_null (pc := 22) hx hb dX2_stateAt_22 ?_
    rw [← Option.some.inj hm]
    exact W.aret hx hb hr (Or.inl ⟨_, rfl⟩) (Or.inl rfl) (fun t ht _ => ⟨rfl, ht⟩) (fun _ h => by cases h) dX2_stateAt_23 hlocks
  · rw [if_neg hc] at hm
    refine lv_iload_n (pc := 4) hx hb dX2_stateAt_4 rfl (lv_at hl 1 rfl) ?_
    refine lv_aload_n (pc := 5) hx hb dX2_stateAt_5 rfl (lv_at hl 0 rfl) ?_
    refine va_get (pc := 6) (D := D) (ci := 1) (C := RX2) (T := TX2) (N := 3) hx hb hts hiX2 hown hG.1 hP 0 rfl rfl 0 (Nat.le_of_ble_eq_true rfl) (hts _ kw_110) (fun _ h9 => h9) rfl dX2_stateAt_6 ?_
    refine va_alen (pc := 9) (D := D) (v := 16) hx hb hG.1 hP 1 5 rfl rfl rfl dX2_stateAt_9 ?_
    refine lv_icmp_ge (tgt := 22) (pc := 10) hx hb dX2_stateAt_10 (by decide) (fun hc => ?_) (fun hc => ?_)
    · rw [if_pos hc] at hm
      refine lv_null (pc := 22) hx hb dX2_stateAt_22 ?_
      rw [← Option.some.inj hm]
      exact W.aret hx hb hr (Or.inl ⟨_, rfl⟩) (Or.inl rfl) (fun t ht _ => ⟨rfl, ht⟩) (fun _ h => by cases h) dX2_stateAt_23 hlocks
    · rw [if_neg hc] at hm
      refine lv_aload_n (pc := 13) hx hb dX2_stateAt_13 rfl (lv_at hl 0 rfl) ?_
      refine va_get (pc := 14) (D := D) (ci := 1) (C := RX2) (T := TX2) (N := 3) hx hb hts hiX2 hown hG.1 hP 0 rfl rfl 0 (Nat.le_of_ble_eq_true rfl) (hts _ kw_110) (fun _ h9 => h9) rfl dX2_stateAt_14 ?_
      refine lv_iload_n (pc := 17) hx hb dX2_stateAt_17 rfl (lv_at hl 1 rfl) ?_
      obtain ⟨hin, hm⟩ := gd hm
      refine va_aldq (pc := 18) (D := D) hx hb hG.1 hP 1 5 rfl rfl hin dX2_stateAt_18 ?_
      refine lv_goto (tgt := 23) (pc := 19) hx hb dX2_stateAt_19 (by decide) ?_
      rw [← Option.some.inj hm]
      exact W.aret hx hb hr (Or.inl ⟨_, rfl⟩) (Or.inr ⟨_, rfl⟩) (fun t ht _ => ⟨rfl, ht⟩) (fun _ h => by cases h) dX2_stateAt_23 hlocks
theorem dX2_keep_0 : decode cX2_keep 0 = .ok (.aload_n 0, 1) := by decide +kernel
theorem dX2_keep_1 : decode cX2_keep 1 = .ok (.aload_n 0, 1) := by decide +kernel
theorem dX2_keep_2 : decode cX2_keep 2 = .ok (.getfield 22, 3) := by decide +kernel
theorem dX2_keep_5 : decode cX2_keep 5 = .ok (.invokevirtual 25, 3) := by decide +kernel
theorem dX2_keep_8 : decode cX2_keep 8 = .ok (.astore_n 2, 1) := by decide +kernel
theorem dX2_keep_9 : decode cX2_keep 9 = .ok (.aload_n 2, 1) := by decide +kernel
theorem dX2_keep_10 : decode cX2_keep 10 = .ok (.ifnull 8, 3) := by decide +kernel
theorem dX2_keep_13 : decode cX2_keep 13 = .ok (.aload_n 2, 1) := by decide +kernel
theorem dX2_keep_14 : decode cX2_keep 14 = .ok (.aload_n 1, 1) := by decide +kernel
theorem dX2_keep_15 : decode cX2_keep 15 = .ok (.invokevirtual 29, 3) := by decide +kernel
theorem dX2_keep_18 : decode cX2_keep 18 = .ok (.aload_n 0, 1) := by decide +kernel
theorem dX2_keep_19 : decode cX2_keep 19 = .ok (.aload_n 0, 1) := by decide +kernel
theorem dX2_keep_20 : decode cX2_keep 20 = .ok (.getfield 22, 3) := by decide +kernel
theorem dX2_keep_23 : decode cX2_keep 23 = .ok (.iconst 1, 1) := by decide +kernel
theorem dX2_keep_24 : decode cX2_keep 24 = .ok (.iadd, 1) := by decide +kernel
theorem dX2_keep_25 : decode cX2_keep 25 = .ok (.bipush 16, 2) := by decide +kernel
theorem dX2_keep_27 : decode cX2_keep 27 = .ok (.irem, 1) := by decide +kernel
theorem dX2_keep_28 : decode cX2_keep 28 = .ok (.putfield 22, 3) := by decide +kernel
theorem dX2_keep_31 : decode cX2_keep 31 = .ok (.aload_n 0, 1) := by decide +kernel
theorem dX2_keep_32 : decode cX2_keep 32 = .ok (.aload_n 0, 1) := by decide +kernel
theorem dX2_keep_33 : decode cX2_keep 33 = .ok (.getfield 18, 3) := by decide +kernel
theorem dX2_keep_36 : decode cX2_keep 36 = .ok (.iconst 1, 1) := by decide +kernel
theorem dX2_keep_37 : decode cX2_keep 37 = .ok (.iadd, 1) := by decide +kernel
theorem dX2_keep_38 : decode cX2_keep 38 = .ok (.bipush 16, 2) := by decide +kernel
theorem dX2_keep_40 : decode cX2_keep 40 = .ok (.invokestatic 33, 3) := by decide +kernel
theorem dX2_keep_43 : decode cX2_keep 43 = .ok (.putfield 18, 3) := by decide +kernel
theorem dX2_keep_46 : decode cX2_keep 46 = .ok (.return_, 1) := by decide +kernel
abbrev wd_X2_keep (k : Nat → ClassId) (this : Nat) (this_states : Nat) (this_states_a : Nat → Nat) (this_states_e_lacks : Nat → Nat) (this_states_e_lacks_f : Nat → Nat → Int32) (this_states_e_feels : Nat → Nat) (this_states_e_feels_f : Nat → Nat → Int32) (this_states_e_date : Nat → Int32) (this_next : Int32) (this_many : Int32) (state : Nat) (state_lacks : Nat) (state_lacks_f : Nat → Int32) (state_feels : Nat) (state_feels_f : Nat → Int32) (state_date : Int32) : va_W := [(this, .inr (1, [.ref this_states, .int this_next, .int this_many])), (this_states, .inl (k 5, 16, .inr (.inr (.inr (.inr (fun j => some (this_states_a j))))))), (state, .inr (5, [.ref state_lacks, .ref state_feels, .int state_date])), (state_lacks, .inl (k 0, 6, .inl state_lacks_f)), (state_feels, .inl (k 0, 6, .inl state_feels_f)), ((this_states_a 0), .inr (5, [.ref (this_states_e_lacks 0), .ref (this_states_e_feels 0), .int (this_states_e_date 0)])), ((this_states_e_lacks 0), .inl (k 0, 6, .inl (this_states_e_lacks_f 0))), ((this_states_e_feels 0), .inl (k 0, 6, .inl (this_states_e_feels_f 0))), ((this_states_a 1), .inr (5, [.ref (this_states_e_lacks 1), .ref (this_states_e_feels 1), .int (this_states_e_date 1)])), ((this_states_e_lacks 1), .inl (k 0, 6, .inl (this_states_e_lacks_f 1))), ((this_states_e_feels 1), .inl (k 0, 6, .inl (this_states_e_feels_f 1))), ((this_states_a 2), .inr (5, [.ref (this_states_e_lacks 2), .ref (this_states_e_feels 2), .int (this_states_e_date 2)])), ((this_states_e_lacks 2), .inl (k 0, 6, .inl (this_states_e_lacks_f 2))), ((this_states_e_feels 2), .inl (k 0, 6, .inl (this_states_e_feels_f 2))), ((this_states_a 3), .inr (5, [.ref (this_states_e_lacks 3), .ref (this_states_e_feels 3), .int (this_states_e_date 3)])), ((this_states_e_lacks 3), .inl (k 0, 6, .inl (this_states_e_lacks_f 3))), ((this_states_e_feels 3), .inl (k 0, 6, .inl (this_states_e_feels_f 3))), ((this_states_a 4), .inr (5, [.ref (this_states_e_lacks 4), .ref (this_states_e_feels 4), .int (this_states_e_date 4)])), ((this_states_e_lacks 4), .inl (k 0, 6, .inl (this_states_e_lacks_f 4))), ((this_states_e_feels 4), .inl (k 0, 6, .inl (this_states_e_feels_f 4))), ((this_states_a 5), .inr (5, [.ref (this_states_e_lacks 5), .ref (this_states_e_feels 5), .int (this_states_e_date 5)])), ((this_states_e_lacks 5), .inl (k 0, 6, .inl (this_states_e_lacks_f 5))), ((this_states_e_feels 5), .inl (k 0, 6, .inl (this_states_e_feels_f 5))), ((this_states_a 6), .inr (5, [.ref (this_states_e_lacks 6), .ref (this_states_e_feels 6), .int (this_states_e_date 6)])), ((this_states_e_lacks 6), .inl (k 0, 6, .inl (this_states_e_lacks_f 6))), ((this_states_e_feels 6), .inl (k 0, 6, .inl (this_states_e_feels_f 6))), ((this_states_a 7), .inr (5, [.ref (this_states_e_lacks 7), .ref (this_states_e_feels 7), .int (this_states_e_date 7)])), ((this_states_e_lacks 7), .inl (k 0, 6, .inl (this_states_e_lacks_f 7))), ((this_states_e_feels 7), .inl (k 0, 6, .inl (this_states_e_feels_f 7))), ((this_states_a 8), .inr (5, [.ref (this_states_e_lacks 8), .ref (this_states_e_feels 8), .int (this_states_e_date 8)])), ((this_states_e_lacks 8), .inl (k 0, 6, .inl (this_states_e_lacks_f 8))), ((this_states_e_feels 8), .inl (k 0, 6, .inl (this_states_e_feels_f 8))), ((this_states_a 9), .inr (5, [.ref (this_states_e_lacks 9), .ref (this_states_e_feels 9), .int (this_states_e_date 9)])), ((this_states_e_lacks 9), .inl (k 0, 6, .inl (this_states_e_lacks_f 9))), ((this_states_e_feels 9), .inl (k 0, 6, .inl (this_states_e_feels_f 9))), ((this_states_a 10), .inr (5, [.ref (this_states_e_lacks 10), .ref (this_states_e_feels 10), .int (this_states_e_date 10)])), ((this_states_e_lacks 10), .inl (k 0, 6, .inl (this_states_e_lacks_f 10))), ((this_states_e_feels 10), .inl (k 0, 6, .inl (this_states_e_feels_f 10))), ((this_states_a 11), .inr (5, [.ref (this_states_e_lacks 11), .ref (this_states_e_feels 11), .int (this_states_e_date 11)])), ((this_states_e_lacks 11), .inl (k 0, 6, .inl (this_states_e_lacks_f 11))), ((this_states_e_feels 11), .inl (k 0, 6, .inl (this_states_e_feels_f 11))), ((this_states_a 12), .inr (5, [.ref (this_states_e_lacks 12), .ref (this_states_e_feels 12), .int (this_states_e_date 12)])), ((this_states_e_lacks 12), .inl (k 0, 6, .inl (this_states_e_lacks_f 12))), ((this_states_e_feels 12), .inl (k 0, 6, .inl (this_states_e_feels_f 12))), ((this_states_a 13), .inr (5, [.ref (this_states_e_lacks 13), .ref (this_states_e_feels 13), .int (this_states_e_date 13)])), ((this_states_e_lacks 13), .inl (k 0, 6, .inl (this_states_e_lacks_f 13))), ((this_states_e_feels 13), .inl (k 0, 6, .inl (this_states_e_feels_f 13))), ((this_states_a 14), .inr (5, [.ref (this_states_e_lacks 14), .ref (this_states_e_feels 14), .int (this_states_e_date 14)])), ((this_states_e_lacks 14), .inl (k 0, 6, .inl (this_states_e_lacks_f 14))), ((this_states_e_feels 14), .inl (k 0, 6, .inl (this_states_e_feels_f 14))), ((this_states_a 15), .inr (5, [.ref (this_states_e_lacks 15), .ref (this_states_e_feels 15), .int (this_states_e_date 15)])), ((this_states_e_lacks 15), .inl (k 0, 6, .inl (this_states_e_lacks_f 15))), ((this_states_e_feels 15), .inl (k 0, 6, .inl (this_states_e_feels_f 15)))]
set_option maxHeartbeats 4000000 in
set_option maxRecDepth 100000 in
theorem c_X2_keep (l : Launch) (D : va_G) (k : Nat → ClassId) (this : Nat) (this_states : Nat) (this_states_a : Nat → Nat) (this_states_e_lacks : Nat → Nat) (this_states_e_lacks_f : Nat → Nat → Int32) (this_states_e_feels : Nat → Nat) (this_states_e_feels_f : Nat → Nat → Int32) (this_states_e_date : Nat → Int32) (this_next : Int32) (this_many : Int32) (state : Nat) (state_lacks : Nat) (state_lacks_f : Nat → Int32) (state_feels : Nat) (state_feels_f : Nat → Int32) (state_date : Int32) (R0 : Int32 × Int32 × (Nat → Int32) × (Nat → Nat → Int32) × (Nat → Nat → Int32)) (hm : m_X2_keep this_states_e_lacks_f this_states_e_feels_f this_states_e_date this_next this_many state_lacks_f state_feels_f state_date = some R0) : CW l D (TY k) yX2_keep cX2_keep 3 none 2 81 [.ref this, .ref state] (wd_X2_keep k this this_states this_states_a this_states_e_lacks this_states_e_lacks_f this_states_e_feels this_states_e_feels_f this_states_e_date this_next this_many state state_lacks state_lacks_f state_feels state_feels_f state_date) none (wd_X2_keep k this this_states this_states_a this_states_e_lacks R0.2.2.2.1 this_states_e_feels R0.2.2.2.2 R0.2.2.1 R0.1 R0.2.1 state state_lacks state_lacks_f state_feels state_feels_f state_date) := by
  refine CW.mk (by decide) (Nat.le_of_ble_eq_true rfl) ?_
  intro p e s m args below meth c ls A ⟨hx, hb, hr, hts, hown, hlocks, hml⟩ hP hG hD hA hl hS hq
  have hl : lv_has ls 3 [(0, .ref this), (1, .ref state)] := hl
  have h_18 : ∀ (u_this_next : Int32) (u_this_many : Int32) (u_this_states_e_date : Nat → Int32) (u_this_states_e_lacks_f : Nat → Nat → Int32) (u_this_states_e_feels_f : Nat → Nat → Int32) (H : Heap) (locs : List Loc) (ls : Array Slot), va_P D vwCl (wd_X2_keep k this this_states this_states_a this_states_e_lacks u_this_states_e_lacks_f this_states_e_feels u_this_states_e_feels_f u_this_states_e_date u_this_next u_this_many state state_lacks state_lacks_f state_feels state_feels_f state_date) H → va_D A (wd_X2_keep k this this_states this_states_a this_states_e_lacks u_this_states_e_lacks_f this_states_e_feels u_this_states_e_feels_f u_this_states_e_date u_this_next u_this_many state state_lacks state_lacks_f state_feels state_feels_f state_date) → va_S A s.heap H locs → lv_has ls 3 [(0, .ref this)] → m_X2_keep_18 state_lacks_f state_feels_f state_date u_this_next u_this_many u_this_states_e_date u_this_states_e_lacks_f u_this_states_e_feels_f = some R0 → W p l e (Rm 2 81) s m args below meth c H locs 0 0 (MQ below (QW D none (wd_X2_keep k this this_states this_states_a this_states_e_lacks this_states_e_lacks_f this_states_e_feels this_states_e_feels_f this_states_e_date this_next this_many state state_lacks state_lacks_f state_feels state_feels_f state_date) (wd_X2_keep k this this_states this_states_a this_states_e_lacks R0.2.2.2.1 this_states_e_feels R0.2.2.2.2 R0.2.2.1 R0.1 R0.2.1 state state_lacks state_lacks_f state_feels state_feels_f state_date) s.heap.size) args s 0 0 A) (F0 m 18 ls []) := by
    intro  u_this_next u_this_many u_this_states_e_date u_this_states_e_lacks_f u_this_states_e_feels_f H locs ls hP hD hS hl hm
    unfold m_X2_keep_18 at hm
    refine lv_aload_n (pc := 18) hx hb dX2_keep_18 rfl (lv_at hl 0 rfl) ?_
    refine lv_aload_n (pc := 19) hx hb dX2_keep_19 rfl (lv_at hl 0 rfl) ?_
    refine va_get (pc := 20) (D := D) (ci := 1) (C := RX2) (T := TX2) (N := 3) hx hb hts hiX2 hown hG.1 hP 0 rfl rfl 1 (Nat.le_of_ble_eq_true rfl) (hts _ kw_111) (fun _ h9 => h9) rfl dX2_keep_20 ?_
    refine lv_iconst (v := 1) (pc := 23) hx hb dX2_keep_23 (by decide) ?_
    refine lv_iadd (pc := 24) hx hb dX2_keep_24 ?_
    refine lv_bipush (v := 16) (pc := 25) hx hb dX2_keep_25 (by decide) ?_
    refine lv_irem (pc := 27) hx hb dX2_keep_27 (by decide) ?_
    refine va_put (pc := 28) (D := D) (ci := 1) (v := .int ((u_this_next + 1) - (u_this_next + 1) / 16 * 16)) (ty := .int) (C := RX2) (T := TX2) (N := 3) hx hb hts hiX2 tyX2 tyX2_ok nmX2 hown hG.1 hP hD hS 0 rfl rfl 1 (Nat.le_of_ble_eq_true rfl) (hts _ kw_111) (fun _ h9 => h9) rfl (by decide +kernel) rfl rfl (Nat.le_of_ble_eq_true rfl) dX2_keep_28 (fun H locs hP hD hS => ?_)
    have hP : va_P D vwCl (wd_X2_keep k this this_states this_states_a this_states_e_lacks u_this_states_e_lacks_f this_states_e_feels u_this_states_e_feels_f u_this_states_e_date ((u_this_next + 1) - (u_this_next + 1) / 16 * 16) u_this_many state state_lacks state_lacks_f state_feels state_feels_f state_date) H := hP
    have hD : va_D A (wd_X2_keep k this this_states this_states_a this_states_e_lacks u_this_states_e_lacks_f this_states_e_feels u_this_states_e_feels_f u_this_states_e_date ((u_this_next + 1) - (u_this_next + 1) / 16 * 16) u_this_many state state_lacks state_lacks_f state_feels state_feels_f state_date) := hD
    refine lv_aload_n (pc := 31) hx hb dX2_keep_31 rfl (lv_at hl 0 rfl) ?_
    refine lv_aload_n (pc := 32) hx hb dX2_keep_32 rfl (lv_at hl 0 rfl) ?_
    refine va_get (pc := 33) (D := D) (ci := 1) (C := RX2) (T := TX2) (N := 3) hx hb hts hiX2 hown hG.1 hP 0 rfl rfl 2 (Nat.le_of_ble_eq_true rfl) (hts _ kw_112) (fun _ h9 => h9) rfl dX2_keep_33 ?_
    refine lv_iconst (v := 1) (pc := 36) hx hb dX2_keep_36 (by decide) ?_
    refine lv_iadd (pc := 37) hx hb dX2_keep_37 ?_
    refine lv_bipush (v := 16) (pc := 38) hx hb dX2_keep_38 (by decide) ?_
    refine va_mmin (pc := 40) hx hb (hml.trans hl.1.symm) (own := RX2) hown (hts _ kw_769) (hts _ kw_468) (hts _ kw_15) (hts _ kw_469) (Nat.le_of_ble_eq_true rfl) (Nat.le_of_ble_eq_true rfl) (Nat.zero_le _) (Nat.zero_le _) dX2_keep_40 ?_
    refine va_put (pc := 43) (D := D) (ci := 1) (v := .int (if 16 < (u_this_many + 1) then 16 else (u_this_many + 1))) (ty := .int) (C := RX2) (T := TX2) (N := 3) hx hb hts hiX2 tyX2 tyX2_ok nmX2 hown hG.1 hP hD hS 0 rfl rfl 2 (Nat.le_of_ble_eq_true rfl) (hts _ kw_112) (fun _ h9 => h9) rfl (by decide +kernel) rfl rfl (Nat.le_of_ble_eq_true rfl) dX2_keep_43 (fun H locs hP hD hS => ?_)
    have hP : va_P D vwCl (wd_X2_keep k this this_states this_states_a this_states_e_lacks u_this_states_e_lacks_f this_states_e_feels u_this_states_e_feels_f u_this_states_e_date ((u_this_next + 1) - (u_this_next + 1) / 16 * 16) (if 16 < (u_this_many + 1) then 16 else (u_this_many + 1)) state state_lacks state_lacks_f state_feels state_feels_f state_date) H := hP
    have hD : va_D A (wd_X2_keep k this this_states this_states_a this_states_e_lacks u_this_states_e_lacks_f this_states_e_feels u_this_states_e_feels_f u_this_states_e_date ((u_this_next + 1) - (u_this_next + 1) / 16 * 16) (if 16 < (u_this_many + 1) then 16 else (u_this_many + 1)) state state_lacks state_lacks_f state_feels state_feels_f state_date) := hD
    rw [← Option.some.inj hm]
    exact W.vret hx hb hr (fun t ht _ => hq _ _ H t ht hP hD locs hS) hS.2.2 dX2_keep_46 hlocks
  unfold m_X2_keep at hm
  suffices hgo : ∀ (H : Heap) (locs : List Loc), va_P D vwCl (wd_X2_keep k this this_states this_states_a this_states_e_lacks this_states_e_lacks_f this_states_e_feels this_states_e_feels_f this_states_e_date this_next this_many state state_lacks state_lacks_f state_feels state_feels_f state_date) H → va_D A (wd_X2_keep k this this_states this_states_a this_states_e_lacks this_states_e_lacks_f this_states_e_feels this_states_e_feels_f this_states_e_date this_next this_many state state_lacks state_lacks_f state_feels state_feels_f state_date) → va_S A s.heap H locs → W p l e (Rm 2 81) s m args below meth c H locs 0 0 (MQ below (QW D none (wd_X2_keep k this this_states this_states_a this_states_e_lacks this_states_e_lacks_f this_states_e_feels this_states_e_feels_f this_states_e_date this_next this_many state state_lacks state_lacks_f state_feels state_feels_f state_date) (wd_X2_keep k this this_states this_states_a this_states_e_lacks R0.2.2.2.1 this_states_e_feels R0.2.2.2.2 R0.2.2.1 R0.1 R0.2.1 state state_lacks state_lacks_f state_feels state_feels_f state_date) s.heap.size) args s 0 0 A) (F0 m 0 ls []) from hgo _ _ hP hD hS
  clear hP hD hS
  intro H locs hP hD hS
  refine lv_aload_n (pc := 0) hx hb dX2_keep_0 rfl (lv_at hl 0 rfl) ?_
  refine lv_aload_n (pc := 1) hx hb dX2_keep_1 rfl (lv_at hl 0 rfl) ?_
  refine va_get (pc := 2) (D := D) (ci := 1) (C := RX2) (T := TX2) (N := 3) hx hb hts hiX2 hown hG.1 hP 0 rfl rfl 1 (Nat.le_of_ble_eq_true rfl) (hts _ kw_111) (fun _ h9 => h9) rfl dX2_keep_2 ?_
  obtain ⟨r18, hcl, hm⟩ := bd hm
  refine cr_back (run_V (pc := 5) (n := 1) (As := [.int this_next]) (rest := []) ⟨hx, hb, hml, hown, hts⟩ (c_X2_stateAt l D k this this_states this_states_a this_next this_many this_next r18 hcl) ⟨kw_767, kw_5, by decide +kernel⟩ kw_764 kw_766 ks_57 ⟨Nat.le_of_ble_eq_true rfl, Nat.le_of_ble_eq_true rfl⟩ pr_blind (prR (hP.sub [0, 1] rfl) hG) (va_recv hG.1 hP (ci := 1) (q0 := 0) rfl rfl) rfl hl.1 rfl (Nat.le_of_ble_eq_true rfl) dX2_keep_5 ⟨Nat.zero_le _, Nat.zero_le _⟩) ?_
  by_cases hn : r18 = none
  · rw [if_pos hn] at hm
    rw [hn]
    refine lv_astore_nN (lv' := [(2, .null), (0, .ref this), (1, .ref state)]) (pc := 8) hx hb dX2_keep_8 rfl hl (Nat.le_of_ble_eq_true rfl) rfl (fun ls hl => ?_)
    refine lv_aload_nN (pc := 9) hx hb dX2_keep_9 rfl (lv_at hl 0 rfl) ?_
    refine lv_ifnullN (tgt := 18) (pc := 10) hx hb dX2_keep_10 (by decide) ?_
    exact h_18 this_next this_many this_states_e_date this_states_e_lacks_f this_states_e_feels_f H locs ls hP hD hS (lv_sub hl [1] rfl) hm
  · rw [if_neg hn] at hm
    by_cases hn0 : r18 = some 0
    · rw [if_pos hn0] at hm
      rw [hn0]
      refine lv_astore_n (lv' := [(2, .ref (this_states_a 0)), (0, .ref this), (1, .ref state)]) (pc := 8) hx hb dX2_keep_8 rfl hl (Nat.le_of_ble_eq_true rfl) rfl (fun ls hl => ?_)
      refine lv_aload_n (pc := 9) hx hb dX2_keep_9 rfl (lv_at hl 0 rfl) ?_
      refine lv_ifnull (pc := 10) hx hb dX2_keep_10 ?_
      refine lv_aload_n (pc := 13) hx hb dX2_keep_13 rfl (lv_at hl 0 rfl) ?_
      refine lv_aload_n (pc := 14) hx hb dX2_keep_14 rfl (lv_at hl 2 rfl) ?_
      obtain ⟨r19, hcl, hm⟩ := bd hm
      refine cw_maskP (ws' := (wd_X2_keep k this this_states this_states_a this_states_e_lacks (va_up this_states_e_lacks_f 0 r19.2.1) this_states_e_feels (va_up this_states_e_feels_f 0 r19.2.2) (va_up this_states_e_date 0 r19.1) this_next this_many state state_lacks state_lacks_f state_feels state_feels_f state_date)) (run_VN (pc := 15) (n := 1) (As := [.ref state]) (rest := []) ⟨hx, hb, hml, hown, hts⟩ ((c_X6_copy l D k (this_states_a 0) (this_states_e_lacks 0) (this_states_e_lacks_f 0) (this_states_e_feels 0) (this_states_e_feels_f 0) (this_states_e_date 0) state state_lacks state_lacks_f state_feels state_feels_f state_date r19 hcl) H.size) ⟨kw_315, kw_6, by decide +kernel⟩ hG kn_768 kw_314 ks_7 ⟨Nat.le_of_ble_eq_true rfl, Nat.le_of_ble_eq_true rfl⟩ pw_blind (prW ((P_pick [false, false, true, true, true, true, true, true] rfl hP).sub [3, 4, 5, 0, 1, 2] rfl) hG ((D_pick [false, false, true, true, true, true, true, true] rfl hD).sub [3, 4, 5, 0, 1, 2] (by decide) rfl)) (va_recv hG.1 hP (ci := 5) (q0 := 5) rfl rfl) rfl hl.1 rfl (Nat.le_of_ble_eq_true rfl) dX2_keep_15 ⟨Nat.zero_le _, Nat.zero_le _⟩) hP hD hS hA [false, false, true, true, true, true, true, true] [3, 4, 5, 0, 1, 2] [3, 4, 5, 0, 1, 2] rfl rfl rfl rfl (fun H locs hP hD hS => ?_)
      exact h_18 this_next this_many (va_up this_states_e_date 0 r19.1) (va_up this_states_e_lacks_f 0 r19.2.1) (va_up this_states_e_feels_f 0 r19.2.2) H locs ls hP hD hS (lv_sub hl [1] rfl) hm
    · rw [if_neg hn0] at hm
      by_cases hn1 : r18 = some 1
      · rw [if_pos hn1] at hm
        rw [hn1]
        refine lv_astore_n (lv' := [(2, .ref (this_states_a 1)), (0, .ref this), (1, .ref state)]) (pc := 8) hx hb dX2_keep_8 rfl hl (Nat.le_of_ble_eq_true rfl) rfl (fun ls hl => ?_)
        refine lv_aload_n (pc := 9) hx hb dX2_keep_9 rfl (lv_at hl 0 rfl) ?_
        refine lv_ifnull (pc := 10) hx hb dX2_keep_10 ?_
        refine lv_aload_n (pc := 13) hx hb dX2_keep_13 rfl (lv_at hl 0 rfl) ?_
        refine lv_aload_n (pc := 14) hx hb dX2_keep_14 rfl (lv_at hl 2 rfl) ?_
        obtain ⟨r20, hcl, hm⟩ := bd hm
        refine cw_maskP (ws' := (wd_X2_keep k this this_states this_states_a this_states_e_lacks (va_up this_states_e_lacks_f 1 r20.2.1) this_states_e_feels (va_up this_states_e_feels_f 1 r20.2.2) (va_up this_states_e_date 1 r20.1) this_next this_many state state_lacks state_lacks_f state_feels state_feels_f state_date)) (run_VN (pc := 15) (n := 1) (As := [.ref state]) (rest := []) ⟨hx, hb, hml, hown, hts⟩ ((c_X6_copy l D k (this_states_a 1) (this_states_e_lacks 1) (this_states_e_lacks_f 1) (this_states_e_feels 1) (this_states_e_feels_f 1) (this_states_e_date 1) state state_lacks state_lacks_f state_feels state_feels_f state_date r20 hcl) H.size) ⟨kw_315, kw_6, by decide +kernel⟩ hG kn_768 kw_314 ks_7 ⟨Nat.le_of_ble_eq_true rfl, Nat.le_of_ble_eq_true rfl⟩ pw_blind (prW ((P_pick [false, false, true, true, true, false, false, false, true, true, true] rfl hP).sub [3, 4, 5, 0, 1, 2] rfl) hG ((D_pick [false, false, true, true, true, false, false, false, true, true, true] rfl hD).sub [3, 4, 5, 0, 1, 2] (by decide) rfl)) (va_recv hG.1 hP (ci := 5) (q0 := 8) rfl rfl) rfl hl.1 rfl (Nat.le_of_ble_eq_true rfl) dX2_keep_15 ⟨Nat.zero_le _, Nat.zero_le _⟩) hP hD hS hA [false, false, true, true, true, false, false, false, true, true, true] [3, 4, 5, 0, 1, 2] [3, 4, 5, 0, 1, 2] rfl rfl rfl rfl (fun H locs hP hD hS => ?_)
        exact h_18 this_next this_many (va_up this_states_e_date 1 r20.1) (va_up this_states_e_lacks_f 1 r20.2.1) (va_up this_states_e_feels_f 1 r20.2.2) H locs ls hP hD hS (lv_sub hl [1] rfl) hm
      · rw [if_neg hn1] at hm
        by_cases hn2 : r18 = some 2
        · rw [if_pos hn2] at hm
          rw [hn2]
          refine lv_astore_n (lv' := [(2, .ref (this_states_a 2)), (0, .ref this), (1, .ref state)]) (pc := 8) hx hb dX2_keep_8 rfl hl (Nat.le_of_ble_eq_true rfl) rfl (fun ls hl => ?_)
          refine lv_aload_n (pc := 9) hx hb dX2_keep_9 rfl (lv_at hl 0 rfl) ?_
          refine lv_ifnull (pc := 10) hx hb dX2_keep_10 ?_
          refine lv_aload_n (pc := 13) hx hb dX2_keep_13 rfl (lv_at hl 0 rfl) ?_
          refine lv_aload_n (pc := 14) hx hb dX2_keep_14 rfl (lv_at hl 2 rfl) ?_
          obtain ⟨r21, hcl, hm⟩ := bd hm
          refine cw_maskP (ws' := (wd_X2_keep k this this_states this_states_a this_states_e_lacks (va_up this_states_e_lacks_f 2 r21.2.1) this_states_e_feels (va_up this_states_e_feels_f 2 r21.2.2) (va_up this_states_e_date 2 r21.1) this_next this_many state state_lacks state_lacks_f state_feels state_feels_f state_date)) (run_VN (pc := 15) (n := 1) (As := [.ref state]) (rest := []) ⟨hx, hb, hml, hown, hts⟩ ((c_X6_copy l D k (this_states_a 2) (this_states_e_lacks 2) (this_states_e_lacks_f 2) (this_states_e_feels 2) (this_states_e_feels_f 2) (this_states_e_date 2) state state_lacks state_lacks_f state_feels state_feels_f state_date r21 hcl) H.size) ⟨kw_315, kw_6, by decide +kernel⟩ hG kn_768 kw_314 ks_7 ⟨Nat.le_of_ble_eq_true rfl, Nat.le_of_ble_eq_true rfl⟩ pw_blind (prW ((P_pick [false, false, true, true, true, false, false, false, false, false, false, true, true, true] rfl hP).sub [3, 4, 5, 0, 1, 2] rfl) hG ((D_pick [false, false, true, true, true, false, false, false, false, false, false, true, true, true] rfl hD).sub [3, 4, 5, 0, 1, 2] (by decide) rfl)) (va_recv hG.1 hP (ci := 5) (q0 := 11) rfl rfl) rfl hl.1 rfl (Nat.le_of_ble_eq_true rfl) dX2_keep_15 ⟨Nat.zero_le _, Nat.zero_le _⟩) hP hD hS hA [false, false, true, true, true, false, false, false, false, false, false, true, true, true] [3, 4, 5, 0, 1, 2] [3, 4, 5, 0, 1, 2] rfl rfl rfl rfl (fun H locs hP hD hS => ?_)
          exact h_18 this_next this_many (va_up this_states_e_date 2 r21.1) (va_up this_states_e_lacks_f 2 r21.2.1) (va_up this_states_e_feels_f 2 r21.2.2) H locs ls hP hD hS (lv_sub hl [1] rfl) hm
        · rw [if_neg hn2] at hm
          by_cases hn3 : r18 = some 3
          · rw [if_pos hn3] at hm
            rw [hn3]
            refine lv_astore_n (lv' := [(2, .ref (this_states_a 3)), (0, .ref this), (1, .ref state)]) (pc := 8) hx hb dX2_keep_8 rfl hl (Nat.le_of_ble_eq_true rfl) rfl (fun ls hl => ?_)
            refine lv_aload_n (pc := 9) hx hb dX2_keep_9 rfl (lv_at hl 0 rfl) ?_
            refine lv_ifnull (pc := 10) hx hb dX2_keep_10 ?_
            refine lv_aload_n (pc := 13) hx hb dX2_keep_13 rfl (lv_at hl 0 rfl) ?_
            refine lv_aload_n (pc := 14) hx hb dX2_keep_14 rfl (lv_at hl 2 rfl) ?_
            obtain ⟨r22, hcl, hm⟩ := bd hm
            refine cw_maskP (ws' := (wd_X2_keep k this this_states this_states_a this_states_e_lacks (va_up this_states_e_lacks_f 3 r22.2.1) this_states_e_feels (va_up this_states_e_feels_f 3 r22.2.2) (va_up this_states_e_date 3 r22.1) this_next this_many state state_lacks state_lacks_f state_feels state_feels_f state_date)) (run_VN (pc := 15) (n := 1) (As := [.ref state]) (rest := []) ⟨hx, hb, hml, hown, hts⟩ ((c_X6_copy l D k (this_states_a 3) (this_states_e_lacks 3) (this_states_e_lacks_f 3) (this_states_e_feels 3) (this_states_e_feels_f 3) (this_states_e_date 3) state state_lacks state_lacks_f state_feels state_feels_f state_date r22 hcl) H.size) ⟨kw_315, kw_6, by decide +kernel⟩ hG kn_768 kw_314 ks_7 ⟨Nat.le_of_ble_eq_true rfl, Nat.le_of_ble_eq_true rfl⟩ pw_blind (prW ((P_pick [false, false, true, true, true, false, false, false, false, false, false, false, false, false, true, true, true] rfl hP).sub [3, 4, 5, 0, 1, 2] rfl) hG ((D_pick [false, false, true, true, true, false, false, false, false, false, false, false, false, false, true, true, true] rfl hD).sub [3, 4, 5, 0, 1, 2] (by decide) rfl)) (va_recv hG.1 hP (ci := 5) (q0 := 14) rfl rfl) rfl hl.1 rfl (Nat.le_of_ble_eq_true rfl) dX2_keep_15 ⟨Nat.zero_le _, Nat.zero_le _⟩) hP hD hS hA [false, false, true, true, true, false, false, false, false, false, false, false, false, false, true, true, true] [3, 4, 5, 0, 1, 2] [3, 4, 5, 0, 1, 2] rfl rfl rfl rfl (fun H locs hP hD hS => ?_)
            exact h_18 this_next this_many (va_up this_states_e_date 3 r22.1) (va_up this_states_e_lacks_f 3 r22.2.1) (va_up this_states_e_feels_f 3 r22.2.2) H locs ls hP hD hS (lv_sub hl [1] rfl) hm
          · rw [if_neg hn3] at hm
            by_cases hn4 : r18 = some 4
            · rw [if_pos hn4] at hm
              rw [hn4]
              refine lv_astore_n (lv' := [(2, .ref (this_states_a 4)), (0, .ref this), (1, .ref state)]) (pc := 8) hx hb dX2_keep_8 rfl hl (Nat.le_of_ble_eq_true rfl) rfl (fun ls hl => ?_)
              refine lv_aload_n (pc := 9) hx hb dX2_keep_9 rfl (lv_at hl 0 rfl) ?_
              refine lv_ifnull (pc := 10) hx hb dX2_keep_10 ?_
              refine lv_aload_n (pc := 13) hx hb dX2_keep_13 rfl (lv_at hl 0 rfl) ?_
              refine lv_aload_n (pc := 14) hx hb dX2_keep_14 rfl (lv_at hl 2 rfl) ?_
              obtain ⟨r23, hcl, hm⟩ := bd hm
              refine cw_maskP (ws' := (wd_X2_keep k this this_states this_states_a this_states_e_lacks (va_up this_states_e_lacks_f 4 r23.2.1) this_states_e_feels (va_up this_states_e_feels_f 4 r23.2.2) (va_up this_states_e_date 4 r23.1) this_next this_many state state_lacks state_lacks_f state_feels state_feels_f state_date)) (run_VN (pc := 15) (n := 1) (As := [.ref state]) (rest := []) ⟨hx, hb, hml, hown, hts⟩ ((c_X6_copy l D k (this_states_a 4) (this_states_e_lacks 4) (this_states_e_lacks_f 4) (this_states_e_feels 4) (this_states_e_feels_f 4) (this_states_e_date 4) state state_lacks state_lacks_f state_feels state_feels_f state_date r23 hcl) H.size) ⟨kw_315, kw_6, by decide +kernel⟩ hG kn_768 kw_314 ks_7 ⟨Nat.le_of_ble_eq_true rfl, Nat.le_of_ble_eq_true rfl⟩ pw_blind (prW ((P_pick [false, false, true, true, true, false, false, false, false, false, false, false, false, false, false, false, false, true, true, true] rfl hP).sub [3, 4, 5, 0, 1, 2] rfl) hG ((D_pick [false, false, true, true, true, false, false, false, false, false, false, false, false, false, false, false, false, true, true, true] rfl hD).sub [3, 4, 5, 0, 1, 2] (by decide) rfl)) (va_recv hG.1 hP (ci := 5) (q0 := 17) rfl rfl) rfl hl.1 rfl (Nat.le_of_ble_eq_true rfl) dX2_keep_15 ⟨Nat.zero_le _, Nat.zero_le _⟩) hP hD hS hA [false, false, true, true, true, false, false, false, false, false, false, false, false, false, false, false, false, true, true, true] [3, 4, 5, 0, 1, 2] [3, 4, 5, 0, 1, 2] rfl rfl rfl rfl (fun H locs hP hD hS => ?_)
              exact h_18 this_next this_many (va_up this_states_e_date 4 r23.1) (va_up this_states_e_lacks_f 4 r23.2.1) (va_up this_states_e_feels_f 4 r23.2.2) H locs ls hP hD hS (lv_sub hl [1] rfl) hm
            · rw [if_neg hn4] at hm
              by_cases hn5 : r18 = some 5
              · rw [if_pos hn5] at hm
                rw [hn5]
                refine lv_astore_n (lv' := [(2, .ref (this_states_a 5)), (0, .ref this), (1, .ref state)]) (pc := 8) hx hb dX2_keep_8 rfl hl (Nat.le_of_ble_eq_true rfl) rfl (fun ls hl => ?_)
                refine lv_aload_n (pc := 9) hx hb dX2_keep_9 rfl (lv_at hl 0 rfl) ?_
                refine lv_ifnull (pc := 10) hx hb dX2_keep_10 ?_
                refine lv_aload_n (pc := 13) hx hb dX2_keep_13 rfl (lv_at hl 0 rfl) ?_
                refine lv_aload_n (pc := 14) hx hb dX2_keep_14 rfl (lv_at hl 2 rfl) ?_
                obtain ⟨r24, hcl, hm⟩ := bd hm
                refine cw_maskP (ws' := (wd_X2_keep k this this_states this_states_a this_states_e_lacks (va_up this_states_e_lacks_f 5 r24.2.1) this_states_e_feels (va_up this_states_e_feels_f 5 r24.2.2) (va_up this_states_e_date 5 r24.1) this_next this_many state state_lacks state_lacks_f state_feels state_feels_f state_date)) (run_VN (pc := 15) (n := 1) (As := [.ref state]) (rest := []) ⟨hx, hb, hml, hown, hts⟩ ((c_X6_copy l D k (this_states_a 5) (this_states_e_lacks 5) (this_states_e_lacks_f 5) (this_states_e_feels 5) (this_states_e_feels_f 5) (this_states_e_date 5) state state_lacks state_lacks_f state_feels state_feels_f state_date r24 hcl) H.size) ⟨kw_315, kw_6, by decide +kernel⟩ hG kn_768 kw_314 ks_7 ⟨Nat.le_of_ble_eq_true rfl, Nat.le_of_ble_eq_true rfl⟩ pw_blind (prW ((P_pick [false, false, true, true, true, false, false, false, false, false, false, false, false, false, false, false, false, false, false, false, true, true, true] rfl hP).sub [3, 4, 5, 0, 1, 2] rfl) hG ((D_pick [false, false, true, true, true, false, false, false, false, false, false, false, false, false, false, false, false, false, false, false, true, true, true] rfl hD).sub [3, 4, 5, 0, 1, 2] (by decide) rfl)) (va_recv hG.1 hP (ci := 5) (q0 := 20) rfl rfl) rfl hl.1 rfl (Nat.le_of_ble_eq_true rfl) dX2_keep_15 ⟨Nat.zero_le _, Nat.zero_le _⟩) hP hD hS hA [false, false, true, true, true, false, false, false, false, false, false, false, false, false, false, false, false, false, false, false, true, true, true] [3, 4, 5, 0, 1, 2] [3, 4, 5, 0, 1, 2] rfl rfl rfl rfl (fun H locs hP hD hS => ?_)
                exact h_18 this_next this_many (va_up this_states_e_date 5 r24.1) (va_up this_states_e_lacks_f 5 r24.2.1) (va_up this_states_e_feels_f 5 r24.2.2) H locs ls hP hD hS (lv_sub hl [1] rfl) hm
              · rw [if_neg hn5] at hm
                by_cases hn6 : r18 = some 6
                · rw [if_pos hn6] at hm
                  rw [hn6]
                  refine lv_astore_n (lv' := [(2, .ref (this_states_a 6)), (0, .ref this), (1, .ref state)]) (pc := 8) hx hb dX2_keep_8 rfl hl (Nat.le_of_ble_eq_true rfl) rfl (fun ls hl => ?_)
                  refine lv_aload_n (pc := 9) hx hb dX2_keep_9 rfl (lv_at hl 0 rfl) ?_
                  refine lv_ifnull (pc := 10) hx hb dX2_keep_10 ?_
                  refine lv_aload_n (pc := 13) hx hb dX2_keep_13 rfl (lv_at hl 0 rfl) ?_
                  refine lv_aload_n (pc := 14) hx hb dX2_keep_14 rfl (lv_at hl 2 rfl) ?_
                  obtain ⟨r25, hcl, hm⟩ := bd hm
                  refine cw_maskP (ws' := (wd_X2_keep k this this_states this_states_a this_states_e_lacks (va_up this_states_e_lacks_f 6 r25.2.1) this_states_e_feels (va_up this_states_e_feels_f 6 r25.2.2) (va_up this_states_e_date 6 r25.1) this_next this_many state state_lacks state_lacks_f state_feels state_feels_f state_date)) (run_VN (pc := 15) (n := 1) (As := [.ref state]) (rest := []) ⟨hx, hb, hml, hown, hts⟩ ((c_X6_copy l D k (this_states_a 6) (this_states_e_lacks 6) (this_states_e_lacks_f 6) (this_states_e_feels 6) (this_states_e_feels_f 6) (this_states_e_date 6) state state_lacks state_lacks_f state_feels state_feels_f state_date r25 hcl) H.size) ⟨kw_315, kw_6, by decide +kernel⟩ hG kn_768 kw_314 ks_7 ⟨Nat.le_of_ble_eq_true rfl, Nat.le_of_ble_eq_true rfl⟩ pw_blind (prW ((P_pick [false, false, true, true, true, false, false, false, false, false, false, false, false, false, false, false, false, false, false, false, false, false, false, true, true, true] rfl hP).sub [3, 4, 5, 0, 1, 2] rfl) hG ((D_pick [false, false, true, true, true, false, false, false, false, false, false, false, false, false, false, false, false, false, false, false, false, false, false, true, true, true] rfl hD).sub [3, 4, 5, 0, 1, 2] (by decide) rfl)) (va_recv hG.1 hP (ci := 5) (q0 := 23) rfl rfl) rfl hl.1 rfl (Nat.le_of_ble_eq_true rfl) dX2_keep_15 ⟨Nat.zero_le _, Nat.zero_le _⟩) hP hD hS hA [false, false, true, true, true, false, false, false, false, false, false, false, false, false, false, false, false, false, false, false, false, false, false, true, true, true] [3, 4, 5, 0, 1, 2] [3, 4, 5, 0, 1, 2] rfl rfl rfl rfl (fun H locs hP hD hS => ?_)
                  exact h_18 this_next this_many (va_up this_states_e_date 6 r25.1) (va_up this_states_e_lacks_f 6 r25.2.1) (va_up this_states_e_feels_f 6 r25.2.2) H locs ls hP hD hS (lv_sub hl [1] rfl) hm
                · rw [if_neg hn6] at hm
                  by_cases hn7 : r18 = some 7
                  · rw [if_pos hn7] at hm
                    rw [hn7]
                    refine lv_astore_n (lv' := [(2, .ref (this_states_a 7)), (0, .ref this), (1, .ref state)]) (pc := 8) hx hb dX2_keep_8 rfl hl (Nat.le_of_ble_eq_true rfl) rfl (fun ls hl => ?_)
                    refine lv_aload_n (pc := 9) hx hb dX2_keep_9 rfl (lv_at hl 0 rfl) ?_
                    refine lv_ifnull (pc := 10) hx hb dX2_keep_10 ?_
                    refine lv_aload_n (pc := 13) hx hb dX2_keep_13 rfl (lv_at hl 0 rfl) ?_
                    refine lv_aload_n (pc := 14) hx hb dX2_keep_14 rfl (lv_at hl 2 rfl) ?_
                    obtain ⟨r26, hcl, hm⟩ := bd hm
                    refine cw_maskP (ws' := (wd_X2_keep k this this_states this_states_a this_states_e_lacks (va_up this_states_e_lacks_f 7 r26.2.1) this_states_e_feels (va_up this_states_e_feels_f 7 r26.2.2) (va_up this_states_e_date 7 r26.1) this_next this_many state state_lacks state_lacks_f state_feels state_feels_f state_date)) (run_VN (pc := 15) (n := 1) (As := [.ref state]) (rest := []) ⟨hx, hb, hml, hown, hts⟩ ((c_X6_copy l D k (this_states_a 7) (this_states_e_lacks 7) (this_states_e_lacks_f 7) (this_states_e_feels 7) (this_states_e_feels_f 7) (this_states_e_date 7) state state_lacks state_lacks_f state_feels state_feels_f state_date r26 hcl) H.size) ⟨kw_315, kw_6, by decide +kernel⟩ hG kn_768 kw_314 ks_7 ⟨Nat.le_of_ble_eq_true rfl, Nat.le_of_ble_eq_true rfl⟩ pw_blind (prW ((P_pick [false, false, true, true, true, false, false, false, false, false, false, false, false, false, false, false, false, false, false, false, false, false, false, false, false, false, true, true, true] rfl hP).sub [3, 4, 5, 0, 1, 2] rfl) hG ((D_pick [false, false, true, true, true, false, false, false, false, false, false, false, false, false, false, false, false, false, false, false, false, false, false, false, false, false, true, true, true] rfl hD).sub [3, 4, 5, 0, 1, 2] (by decide) rfl)) (va_recv hG.1 hP (ci := 5) (q0 := 26) rfl rfl) rfl hl.1 rfl (Nat.le_of_ble_eq_true rfl) dX2_keep_15 ⟨Nat.zero_le _, Nat.zero_le _⟩) hP hD hS hA [false, false, true, true, true, false, false, false, false, false, false, false, false, false, false, false, false, false, false, false, false, false, false, false, false, false, true, true, true] [3, 4, 5, 0, 1, 2] [3, 4, 5, 0, 1, 2] rfl rfl rfl rfl (fun H locs hP hD hS => ?_)
                    exact h_18 this_next this_many (va_up this_states_e_date 7 r26.1) (va_up this_states_e_lacks_f 7 r26.2.1) (va_up this_states_e_feels_f 7 r26.2.2) H locs ls hP hD hS (lv_sub hl [1] rfl) hm
                  · rw [if_neg hn7] at hm
                    by_cases hn8 : r18 = some 8
                    · rw [if_pos hn8] at hm
                      rw [hn8]
                      refine lv_astore_n (lv' := [(2, .ref (this_states_a 8)), (0, .ref this), (1, .ref state)]) (pc := 8) hx hb dX2_keep_8 rfl hl (Nat.le_of_ble_eq_true rfl) rfl (fun ls hl => ?_)
                      refine lv_aload_n (pc := 9) hx hb dX2_keep_9 rfl (lv_at hl 0 rfl) ?_
                      refine lv_ifnull (pc := 10) hx hb dX2_keep_10 ?_
                      refine lv_aload_n (pc := 13) hx hb dX2_keep_13 rfl (lv_at hl 0 rfl) ?_
                      refine lv_aload_n (pc := 14) hx hb dX2_keep_14 rfl (lv_at hl 2 rfl) ?_
                      obtain ⟨r27, hcl, hm⟩ := bd hm
                      refine cw_maskP (ws' := (wd_X2_keep k this this_states this_states_a this_states_e_lacks (va_up this_states_e_lacks_f 8 r27.2.1) this_states_e_feels (va_up this_states_e_feels_f 8 r27.2.2) (va_up this_states_e_date 8 r27.1) this_next this_many state state_lacks state_lacks_f state_feels state_feels_f state_date)) (run_VN (pc := 15) (n := 1) (As := [.ref state]) (rest := []) ⟨hx, hb, hml, hown, hts⟩ ((c_X6_copy l D k (this_states_a 8) (this_states_e_lacks 8) (this_states_e_lacks_f 8) (this_states_e_feels 8) (this_states_e_feels_f 8) (this_states_e_date 8) state state_lacks state_lacks_f state_feels state_feels_f state_date r27 hcl) H.size) ⟨kw_315, kw_6, by decide +kernel⟩ hG kn_768 kw_314 ks_7 ⟨Nat.le_of_ble_eq_true rfl, Nat.le_of_ble_eq_true rfl⟩ pw_blind (prW ((P_pick [false, false, true, true, true, false, false, false, false, false, false, false, false, false, false, false, false, false, false, false, false, false, false, false, false, false, false, false, false, true, true, true] rfl hP).sub [3, 4, 5, 0, 1, 2] rfl) hG ((D_pick [false, false, true, true, true, false, false, false, false, false, false, false, false, false, false, false, false, false, false, false, false, false, false, false, false, false, false, false, false, true, true, true] rfl hD).sub [3, 4, 5, 0, 1, 2] (by decide) rfl)) (va_recv hG.1 hP (ci := 5) (q0 := 29) rfl rfl) rfl hl.1 rfl (Nat.le_of_ble_eq_true rfl) dX2_keep_15 ⟨Nat.zero_le _, Nat.zero_le _⟩) hP hD hS hA [false, false, true, true, true, false, false, false, false, false, false, false, false, false, false, false, false, false, false, false, false, false, false, false, false, false, false, false, false, true, true, true] [3, 4, 5, 0, 1, 2] [3, 4, 5, 0, 1, 2] rfl rfl rfl rfl (fun H locs hP hD hS => ?_)
                      exact h_18 this_next this_many (va_up this_states_e_date 8 r27.1) (va_up this_states_e_lacks_f 8 r27.2.1) (va_up this_states_e_feels_f 8 r27.2.2) H locs ls hP hD hS (lv_sub hl [1] rfl) hm
                    · rw [if_neg hn8] at hm
                      by_cases hn9 : r18 = some 9
                      · rw [if_pos hn9] at hm
                        rw [hn9]
                        refine lv_astore_n (lv' := [(2, .ref (this_states_a 9)), (0, .ref this), (1, .ref state)]) (pc := 8) hx hb dX2_keep_8 rfl hl (Nat.le_of_ble_eq_true rfl) rfl (fun ls hl => ?_)
                        refine lv_aload_n (pc := 9) hx hb dX2_keep_9 rfl (lv_at hl 0 rfl) ?_
                        refine lv_ifnull (pc := 10) hx hb dX2_keep_10 ?_
                        refine lv_aload_n (pc := 13) hx hb dX2_keep_13 rfl (lv_at hl 0 rfl) ?_
                        refine lv_aload_n (pc := 14) hx hb dX2_keep_14 rfl (lv_at hl 2 rfl) ?_
                        obtain ⟨r28, hcl, hm⟩ := bd hm
                        refine cw_maskP (ws' := (wd_X2_keep k this this_states this_states_a this_states_e_lacks (va_up this_states_e_lacks_f 9 r28.2.1) this_states_e_feels (va_up this_states_e_feels_f 9 r28.2.2) (va_up this_states_e_date 9 r28.1) this_next this_many state state_lacks state_lacks_f state_feels state_feels_f state_date)) (run_VN (pc := 15) (n := 1) (As := [.ref state]) (rest := []) ⟨hx, hb, hml, hown, hts⟩ ((c_X6_copy l D k (this_states_a 9) (this_states_e_lacks 9) (this_states_e_lacks_f 9) (this_states_e_feels 9) (this_states_e_feels_f 9) (this_states_e_date 9) state state_lacks state_lacks_f state_feels state_feels_f state_date r28 hcl) H.size) ⟨kw_315, kw_6, by decide +kernel⟩ hG kn_768 kw_314 ks_7 ⟨Nat.le_of_ble_eq_true rfl, Nat.le_of_ble_eq_true rfl⟩ pw_blind (prW ((P_pick [false, false, true, true, true, false, false, false, false, false, false, false, false, false, false, false, false, false, false, false, false, false, false, false, false, false, false, false, false, false, false, false, true, true, true] rfl hP).sub [3, 4, 5, 0, 1, 2] rfl) hG ((D_pick [false, false, true, true, true, false, false, false, false, false, false, false, false, false, false, false, false, false, false, false, false, false, false, false, false, false, false, false, false, false, false, false, true, true, true] rfl hD).sub [3, 4, 5, 0, 1, 2] (by decide) rfl)) (va_recv hG.1 hP (ci := 5) (q0 := 32) rfl rfl) rfl hl.1 rfl (Nat.le_of_ble_eq_true rfl) dX2_keep_15 ⟨Nat.zero_le _, Nat.zero_le _⟩) hP hD hS hA [false, false, true, true, true, false, false, false, false, false, false, false, false, false, false, false, false, false, false, false, false, false, false, false, false, false, false, false, false, false, false, false, true, true, true] [3, 4, 5, 0, 1, 2] [3, 4, 5, 0, 1, 2] rfl rfl rfl rfl (fun H locs hP hD hS => ?_)
                        exact h_18 this_next this_many (va_up this_states_e_date 9 r28.1) (va_up this_states_e_lacks_f 9 r28.2.1) (va_up this_states_e_feels_f 9 r28.2.2) H locs ls hP hD hS (lv_sub hl [1] rfl) hm
                      · rw [if_neg hn9] at hm
                        by_cases hn10 : r18 = some 10
                        · rw [if_pos hn10] at hm
                          rw [hn10]
                          refine lv_astore_n (lv' := [(2, .ref (this_states_a 10)), (0, .ref this), (1, .ref state)]) (pc := 8) hx hb dX2_keep_8 rfl hl (Nat.le_of_ble_eq_true rfl) rfl (fun ls hl => ?_)
                          refine lv_aload_n (pc := 9) hx hb dX2_keep_9 rfl (lv_at hl 0 rfl) ?_
                          refine lv_ifnull (pc := 10) hx hb dX2_keep_10 ?_
                          refine lv_aload_n (pc := 13) hx hb dX2_keep_13 rfl (lv_at hl 0 rfl) ?_
                          refine lv_aload_n (pc := 14) hx hb dX2_keep_14 rfl (lv_at hl 2 rfl) ?_
                          obtain ⟨r29, hcl, hm⟩ := bd hm
                          refine cw_maskP (ws' := (wd_X2_keep k this this_states this_states_a this_states_e_lacks (va_up this_states_e_lacks_f 10 r29.2.1) this_states_e_feels (va_up this_states_e_feels_f 10 r29.2.2) (va_up this_states_e_date 10 r29.1) this_next this_many state state_lacks state_lacks_f state_feels state_feels_f state_date)) (run_VN (pc := 15) (n := 1) (As := [.ref state]) (rest := []) ⟨hx, hb, hml, hown, hts⟩ ((c_X6_copy l D k (this_states_a 10) (this_states_e_lacks 10) (this_states_e_lacks_f 10) (this_states_e_feels 10) (this_states_e_feels_f 10) (this_states_e_date 10) state state_lacks state_lacks_f state_feels state_feels_f state_date r29 hcl) H.size) ⟨kw_315, kw_6, by decide +kernel⟩ hG kn_768 kw_314 ks_7 ⟨Nat.le_of_ble_eq_true rfl, Nat.le_of_ble_eq_true rfl⟩ pw_blind (prW ((P_pick [false, false, true, true, true, false, false, false, false, false, false, false, false, false, false, false, false, false, false, false, false, false, false, false, false, false, false, false, false, false, false, false, false, false, false, true, true, true] rfl hP).sub [3, 4, 5, 0, 1, 2] rfl) hG ((D_pick [false, false, true, true, true, false, false, false, false, false, false, false, false, false, false, false, false, false, false, false, false, false, false, false, false, false, false, false, false, false, false, false, false, false, false, true, true, true] rfl hD).sub [3, 4, 5, 0, 1, 2] (by decide) rfl)) (va_recv hG.1 hP (ci := 5) (q0 := 35) rfl rfl) rfl hl.1 rfl (Nat.le_of_ble_eq_true rfl) dX2_keep_15 ⟨Nat.zero_le _, Nat.zero_le _⟩) hP hD hS hA [false, false, true, true, true, false, false, false, false, false, false, false, false, false, false, false, false, false, false, false, false, false, false, false, false, false, false, false, false, false, false, false, false, false, false, true, true, true] [3, 4, 5, 0, 1, 2] [3, 4, 5, 0, 1, 2] rfl rfl rfl rfl (fun H locs hP hD hS => ?_)
                          exact h_18 this_next this_many (va_up this_states_e_date 10 r29.1) (va_up this_states_e_lacks_f 10 r29.2.1) (va_up this_states_e_feels_f 10 r29.2.2) H locs ls hP hD hS (lv_sub hl [1] rfl) hm
                        · rw [if_neg hn10] at hm
                          by_cases hn11 : r18 = some 11
                          · rw [if_pos hn11] at hm
                            rw [hn11]
                            refine lv_astore_n (lv' := [(2, .ref (this_states_a 11)), (0, .ref this), (1, .ref state)]) (pc := 8) hx hb dX2_keep_8 rfl hl (Nat.le_of_ble_eq_true rfl) rfl (fun ls hl => ?_)
                            refine lv_aload_n (pc := 9) hx hb dX2_keep_9 rfl (lv_at hl 0 rfl) ?_
                            refine lv_ifnull (pc := 10) hx hb dX2_keep_10 ?_
                            refine lv_aload_n (pc := 13) hx hb dX2_keep_13 rfl (lv_at hl 0 rfl) ?_
                            refine lv_aload_n (pc := 14) hx hb dX2_keep_14 rfl (lv_at hl 2 rfl) ?_
                            obtain ⟨r30, hcl, hm⟩ := bd hm
                            refine cw_maskP (ws' := (wd_X2_keep k this this_states this_states_a this_states_e_lacks (va_up this_states_e_lacks_f 11 r30.2.1) this_states_e_feels (va_up this_states_e_feels_f 11 r30.2.2) (va_up this_states_e_date 11 r30.1) this_next this_many state state_lacks state_lacks_f state_feels state_feels_f state_date)) (run_VN (pc := 15) (n := 1) (As := [.ref state]) (rest := []) ⟨hx, hb, hml, hown, hts⟩ ((c_X6_copy l D k (this_states_a 11) (this_states_e_lacks 11) (this_states_e_lacks_f 11) (this_states_e_feels 11) (this_states_e_feels_f 11) (this_states_e_date 11) state state_lacks state_lacks_f state_feels state_feels_f state_date r30 hcl) H.size) ⟨kw_315, kw_6, by decide +kernel⟩ hG kn_768 kw_314 ks_7 ⟨Nat.le_of_ble_eq_true rfl, Nat.le_of_ble_eq_true rfl⟩ pw_blind (prW ((P_pick [false, false, true, true, true, false, false, false, false, false, false, false, false, false, false, false, false, false, false, false, false, false, false, false, false, false, false, false, false, false, false, false, false, false, false, false, false, false, true, true, true] rfl hP).sub [3, 4, 5, 0, 1, 2] rfl) hG ((D_pick [false, false, true, true, true, false, false, false, false, false, false, false, false, false, false, false, false, false, false, false, false, false, false, false, false, false, false, false, false, false, false, false, false, false, false, false, false, false, true, true, true] rfl hD).sub [3, 4, 5, 0, 1, 2] (by decide) rfl)) (va_recv hG.1 hP (ci := 5) (q0 := 38) rfl rfl) rfl hl.1 rfl (Nat.le_of_ble_eq_true rfl) dX2_keep_15 ⟨Nat.zero_le _, Nat.zero_le _⟩) hP hD hS hA [false, false, true, true, true, false, false, false, false, false, false, false, false, false, false, false, false, false, false, false, false, false, false, false, false, false, false, false, false, false, false, false, false, false, false, false, false, false, true, true, true] [3, 4, 5, 0, 1, 2] [3, 4, 5, 0, 1, 2] rfl rfl rfl rfl (fun H locs hP hD hS => ?_)
                            exact h_18 this_next this_many (va_up this_states_e_date 11 r30.1) (va_up this_states_e_lacks_f 11 r30.2.1) (va_up this_states_e_feels_f 11 r30.2.2) H locs ls hP hD hS (lv_sub hl [1] rfl) hm
                          · rw [if_neg hn11] at hm
                            by_cases hn12 : r18 = some 12
                            · rw [if_pos hn12] at hm
                              rw [hn12]
                              refine lv_astore_n (lv' := [(2, .ref (this_states_a 12)), (0, .ref this), (1, .ref state)]) (pc := 8) hx hb dX2_keep_8 rfl hl (Nat.le_of_ble_eq_true rfl) rfl (fun ls hl => ?_)
                              refine lv_aload_n (pc := 9) hx hb dX2_keep_9 rfl (lv_at hl 0 rfl) ?_
                              refine lv_ifnull (pc := 10) hx hb dX2_keep_10 ?_
                              refine lv_aload_n (pc := 13) hx hb dX2_keep_13 rfl (lv_at hl 0 rfl) ?_
                              refine lv_aload_n (pc := 14) hx hb dX2_keep_14 rfl (lv_at hl 2 rfl) ?_
                              obtain ⟨r31, hcl, hm⟩ := bd hm
                              refine cw_maskP (ws' := (wd_X2_keep k this this_states this_states_a this_states_e_lacks (va_up this_states_e_lacks_f 12 r31.2.1) this_states_e_feels (va_up this_states_e_feels_f 12 r31.2.2) (va_up this_states_e_date 12 r31.1) this_next this_many state state_lacks state_lacks_f state_feels state_feels_f state_date)) (run_VN (pc := 15) (n := 1) (As := [.ref state]) (rest := []) ⟨hx, hb, hml, hown, hts⟩ ((c_X6_copy l D k (this_states_a 12) (this_states_e_lacks 12) (this_states_e_lacks_f 12) (this_states_e_feels 12) (this_states_e_feels_f 12) (this_states_e_date 12) state state_lacks state_lacks_f state_feels state_feels_f state_date r31 hcl) H.size) ⟨kw_315, kw_6, by decide +kernel⟩ hG kn_768 kw_314 ks_7 ⟨Nat.le_of_ble_eq_true rfl, Nat.le_of_ble_eq_true rfl⟩ pw_blind (prW ((P_pick [false, false, true, true, true, false, false, false, false, false, false, false, false, false, false, false, false, false, false, false, false, false, false, false, false, false, false, false, false, false, false, false, false, false, false, false, false, false, false, false, false, true, true, true] rfl hP).sub [3, 4, 5, 0, 1, 2] rfl) hG ((D_pick [false, false, true, true, true, false, false, false, false, false, false, false, false, false, false, false, false, false, false, false, false, false, false, false, false, false, false, false, false, false, false, false, false, false, false, false, false, false, false, false, false, true, true, true] rfl hD).sub [3, 4, 5, 0, 1, 2] (by decide) rfl)) (va_recv hG.1 hP (ci := 5) (q0 := 41) rfl rfl) rfl hl.1 rfl (Nat.le_of_ble_eq_true rfl) dX2_keep_15 ⟨Nat.zero_le _, Nat.zero_le _⟩) hP hD hS hA [false, false, true, true, true, false, false, false, false, false, false, false, false, false, false, false, false, false, false, false, false, false, false, false, false, false, false, false, false, false, false, false, false, false, false, false, false, false, false, false, false, true, true, true] [3, 4, 5, 0, 1, 2] [3, 4, 5, 0, 1, 2] rfl rfl rfl rfl (fun H locs hP hD hS => ?_)
                              exact h_18 this_next this_many (va_up this_states_e_date 12 r31.1) (va_up this_states_e_lacks_f 12 r31.2.1) (va_up this_states_e_feels_f 12 r31.2.2) H locs ls hP hD hS (lv_sub hl [1] rfl) hm
                            · rw [if_neg hn12] at hm
                              by_cases hn13 : r18 = some 13
                              · rw [if_pos hn13] at hm
                                rw [hn13]
                                refine lv_astore_n (lv' := [(2, .ref (this_states_a 13)), (0, .ref this), (1, .ref state)]) (pc := 8) hx hb dX2_keep_8 rfl hl (Nat.le_of_ble_eq_true rfl) rfl (fun ls hl => ?_)
                                refine lv_aload_n (pc := 9) hx hb dX2_keep_9 rfl (lv_at hl 0 rfl) ?_
                                refine lv_ifnull (pc := 10) hx hb dX2_keep_10 ?_
                                refine lv_aload_n (pc := 13) hx hb dX2_keep_13 rfl (lv_at hl 0 rfl) ?_
                                refine lv_aload_n (pc := 14) hx hb dX2_keep_14 rfl (lv_at hl 2 rfl) ?_
                                obtain ⟨r32, hcl, hm⟩ := bd hm
                                refine cw_maskP (ws' := (wd_X2_keep k this this_states this_states_a this_states_e_lacks (va_up this_states_e_lacks_f 13 r32.2.1) this_states_e_feels (va_up this_states_e_feels_f 13 r32.2.2) (va_up this_states_e_date 13 r32.1) this_next this_many state state_lacks state_lacks_f state_feels state_feels_f state_date)) (run_VN (pc := 15) (n := 1) (As := [.ref state]) (rest := []) ⟨hx, hb, hml, hown, hts⟩ ((c_X6_copy l D k (this_states_a 13) (this_states_e_lacks 13) (this_states_e_lacks_f 13) (this_states_e_feels 13) (this_states_e_feels_f 13) (this_states_e_date 13) state state_lacks state_lacks_f state_feels state_feels_f state_date r32 hcl) H.size) ⟨kw_315, kw_6, by decide +kernel⟩ hG kn_768 kw_314 ks_7 ⟨Nat.le_of_ble_eq_true rfl, Nat.le_of_ble_eq_true rfl⟩ pw_blind (prW ((P_pick [false, false, true, true, true, false, false, false, false, false, false, false, false, false, false, false, false, false, false, false, false, false, false, false, false, false, false, false, false, false, false, false, false, false, false, false, false, false, false, false, false, false, false, false, true, true, true] rfl hP).sub [3, 4, 5, 0, 1, 2] rfl) hG ((D_pick [false, false, true, true, true, false, false, false, false, false, false, false, false, false, false, false, false, false, false, false, false, false, false, false, false, false, false, false, false, false, false, false, false, false, false, false, false, false, false, false, false, false, false, false, true, true, true] rfl hD).sub [3, 4, 5, 0, 1, 2] (by decide) rfl)) (va_recv hG.1 hP (ci := 5) (q0 := 44) rfl rfl) rfl hl.1 rfl (Nat.le_of_ble_eq_true rfl) dX2_keep_15 ⟨Nat.zero_le _, Nat.zero_le _⟩) hP hD hS hA [false, false, true, true, true, false, false, false, false, false, false, false, false, false, false, false, false, false, false, false, false, false, false, false, false, false, false, false, false, false, false, false, false, false, false, false, false, false, false, false, false, false, false, false, true, true, true] [3, 4, 5, 0, 1, 2] [3, 4, 5, 0, 1, 2] rfl rfl rfl rfl (fun H locs hP hD hS => ?_)
                                exact h_18 this_next this_many (va_up this_states_e_date 13 r32.1) (va_up this_states_e_lacks_f 13 r32.2.1) (va_up this_states_e_feels_f 13 r32.2.2) H locs ls hP hD hS (lv_sub hl [1] rfl) hm
                              · rw [if_neg hn13] at hm
                                by_cases hn14 : r18 = some 14
                                · rw [if_pos hn14] at hm
                                  rw [hn14]
                                  refine lv_astore_n (lv' := [(2, .ref (this_states_a 14)), (0, .ref this), (1, .ref state)]) (pc := 8) hx hb dX2_keep_8 rfl hl (Nat.le_of_ble_eq_true rfl) rfl (fun ls hl => ?_)
                                  refine lv_aload_n (pc := 9) hx hb dX2_keep_9 rfl (lv_at hl 0 rfl) ?_
                                  refine lv_ifnull (pc := 10) hx hb dX2_keep_10 ?_
                                  refine lv_aload_n (pc := 13) hx hb dX2_keep_13 rfl (lv_at hl 0 rfl) ?_
                                  refine lv_aload_n (pc := 14) hx hb dX2_keep_14 rfl (lv_at hl 2 rfl) ?_
                                  obtain ⟨r33, hcl, hm⟩ := bd hm
                                  refine cw_maskP (ws' := (wd_X2_keep k this this_states this_states_a this_states_e_lacks (va_up this_states_e_lacks_f 14 r33.2.1) this_states_e_feels (va_up this_states_e_feels_f 14 r33.2.2) (va_up this_states_e_date 14 r33.1) this_next this_many state state_lacks state_lacks_f state_feels state_feels_f state_date)) (run_VN (pc := 15) (n := 1) (As := [.ref state]) (rest := []) ⟨hx, hb, hml, hown, hts⟩ ((c_X6_copy l D k (this_states_a 14) (this_states_e_lacks 14) (this_states_e_lacks_f 14) (this_states_e_feels 14) (this_states_e_feels_f 14) (this_states_e_date 14) state state_lacks state_lacks_f state_feels state_feels_f state_date r33 hcl) H.size) ⟨kw_315, kw_6, by decide +kernel⟩ hG kn_768 kw_314 ks_7 ⟨Nat.le_of_ble_eq_true rfl, Nat.le_of_ble_eq_true rfl⟩ pw_blind (prW ((P_pick [false, false, true, true, true, false, false, false, false, false, false, false, false, false, false, false, false, false, false, false, false, false, false, false, false, false, false, false, false, false, false, false, false, false, false, false, false, false, false, false, false, false, false, false, false, false, false, true, true, true] rfl hP).sub [3, 4, 5, 0, 1, 2] rfl) hG ((D_pick [false, false, true, true, true, false, false, false, false, false, false, false, false, false, false, false, false, false, false, false, false, false, false, false, false, false, false, false, false, false, false, false, false, false, false, false, false, false, false, false, false, false, false, false, false, false, false, true, true, true] rfl hD).sub [3, 4, 5, 0, 1, 2] (by decide) rfl)) (va_recv hG.1 hP (ci := 5) (q0 := 47) rfl rfl) rfl hl.1 rfl (Nat.le_of_ble_eq_true rfl) dX2_keep_15 ⟨Nat.zero_le _, Nat.zero_le _⟩) hP hD hS hA [false, false, true, true, true, false, false, false, false, false, false, false, false, false, false, false, false, false, false, false, false, false, false, false, false, false, false, false, false, false, false, false, false, false, false, false, false, false, false, false, false, false, false, false, false, false, false, true, true, true] [3, 4, 5, 0, 1, 2] [3, 4, 5, 0, 1, 2] rfl rfl rfl rfl (fun H locs hP hD hS => ?_)
                                  exact h_18 this_next this_many (va_up this_states_e_date 14 r33.1) (va_up this_states_e_lacks_f 14 r33.2.1) (va_up this_states_e_feels_f 14 r33.2.2) H locs ls hP hD hS (lv_sub hl [1] rfl) hm
                                · rw [if_neg hn14] at hm
                                  by_cases hn15 : r18 = some 15
                                  · rw [if_pos hn15] at hm
                                    rw [hn15]
                                    refine lv_astore_n (lv' := [(2, .ref (this_states_a 15)), (0, .ref this), (1, .ref state)]) (pc := 8) hx hb dX2_keep_8 rfl hl (Nat.le_of_ble_eq_true rfl) rfl (fun ls hl => ?_)
                                    refine lv_aload_n (pc := 9) hx hb dX2_keep_9 rfl (lv_at hl 0 rfl) ?_
                                    refine lv_ifnull (pc := 10) hx hb dX2_keep_10 ?_
                                    refine lv_aload_n (pc := 13) hx hb dX2_keep_13 rfl (lv_at hl 0 rfl) ?_
                                    refine lv_aload_n (pc := 14) hx hb dX2_keep_14 rfl (lv_at hl 2 rfl) ?_
                                    obtain ⟨r34, hcl, hm⟩ := bd hm
                                    refine cw_maskP (ws' := (wd_X2_keep k this this_states this_states_a this_states_e_lacks (va_up this_states_e_lacks_f 15 r34.2.1) this_states_e_feels (va_up this_states_e_feels_f 15 r34.2.2) (va_up this_states_e_date 15 r34.1) this_next this_many state state_lacks state_lacks_f state_feels state_feels_f state_date)) (run_VN (pc := 15) (n := 1) (As := [.ref state]) (rest := []) ⟨hx, hb, hml, hown, hts⟩ ((c_X6_copy l D k (this_states_a 15) (this_states_e_lacks 15) (this_states_e_lacks_f 15) (this_states_e_feels 15) (this_states_e_feels_f 15) (this_states_e_date 15) state state_lacks state_lacks_f state_feels state_feels_f state_date r34 hcl) H.size) ⟨kw_315, kw_6, by decide +kernel⟩ hG kn_768 kw_314 ks_7 ⟨Nat.le_of_ble_eq_true rfl, Nat.le_of_ble_eq_true rfl⟩ pw_blind (prW ((P_pick [false, false, true, true, true, false, false, false, false, false, false, false, false, false, false, false, false, false, false, false, false, false, false, false, false, false, false, false, false, false, false, false, false, false, false, false, false, false, false, false, false, false, false, false, false, false, false, false, false, false, true, true, true] rfl hP).sub [3, 4, 5, 0, 1, 2] rfl) hG ((D_pick [false, false, true, true, true, false, false, false, false, false, false, false, false, false, false, false, false, false, false, false, false, false, false, false, false, false, false, false, false, false, false, false, false, false, false, false, false, false, false, false, false, false, false, false, false, false, false, false, false, false, true, true, true] rfl hD).sub [3, 4, 5, 0, 1, 2] (by decide) rfl)) (va_recv hG.1 hP (ci := 5) (q0 := 50) rfl rfl) rfl hl.1 rfl (Nat.le_of_ble_eq_true rfl) dX2_keep_15 ⟨Nat.zero_le _, Nat.zero_le _⟩) hP hD hS hA [false, false, true, true, true, false, false, false, false, false, false, false, false, false, false, false, false, false, false, false, false, false, false, false, false, false, false, false, false, false, false, false, false, false, false, false, false, false, false, false, false, false, false, false, false, false, false, false, false, false, true, true, true] [3, 4, 5, 0, 1, 2] [3, 4, 5, 0, 1, 2] rfl rfl rfl rfl (fun H locs hP hD hS => ?_)
                                    exact h_18 this_next this_many (va_up this_states_e_date 15 r34.1) (va_up this_states_e_lacks_f 15 r34.2.1) (va_up this_states_e_feels_f 15 r34.2.2) H locs ls hP hD hS (lv_sub hl [1] rfl) hm
                                  · rw [if_neg hn15] at hm
                                    cases hm
theorem dX2_takeLast_0 : decode cX2_takeLast 0 = .ok (.aload_n 0, 1) := by decide +kernel
theorem dX2_takeLast_1 : decode cX2_takeLast 1 = .ok (.getfield 18, 3) := by decide +kernel
theorem dX2_takeLast_4 : decode cX2_takeLast 4 = .ok (.ifCond .ne 5, 3) := by decide +kernel
theorem dX2_takeLast_7 : decode cX2_takeLast 7 = .ok (.aconst_null, 1) := by decide +kernel
theorem dX2_takeLast_8 : decode cX2_takeLast 8 = .ok (.areturn, 1) := by decide +kernel
theorem dX2_takeLast_9 : decode cX2_takeLast 9 = .ok (.aload_n 0, 1) := by decide +kernel
theorem dX2_takeLast_10 : decode cX2_takeLast 10 = .ok (.dup, 1) := by decide +kernel
theorem dX2_takeLast_11 : decode cX2_takeLast 11 = .ok (.getfield 18, 3) := by decide +kernel
theorem dX2_takeLast_14 : decode cX2_takeLast 14 = .ok (.iconst 1, 1) := by decide +kernel
theorem dX2_takeLast_15 : decode cX2_takeLast 15 = .ok (.isub, 1) := by decide +kernel
theorem dX2_takeLast_16 : decode cX2_takeLast 16 = .ok (.putfield 18, 3) := by decide +kernel
theorem dX2_takeLast_19 : decode cX2_takeLast 19 = .ok (.aload_n 0, 1) := by decide +kernel
theorem dX2_takeLast_20 : decode cX2_takeLast 20 = .ok (.aload_n 0, 1) := by decide +kernel
theorem dX2_takeLast_21 : decode cX2_takeLast 21 = .ok (.getfield 22, 3) := by decide +kernel
theorem dX2_takeLast_24 : decode cX2_takeLast 24 = .ok (.bipush 16, 2) := by decide +kernel
theorem dX2_takeLast_26 : decode cX2_takeLast 26 = .ok (.iadd, 1) := by decide +kernel
theorem dX2_takeLast_27 : decode cX2_takeLast 27 = .ok (.iconst 1, 1) := by decide +kernel
theorem dX2_takeLast_28 : decode cX2_takeLast 28 = .ok (.isub, 1) := by decide +kernel
theorem dX2_takeLast_29 : decode cX2_takeLast 29 = .ok (.bipush 16, 2) := by decide +kernel
theorem dX2_takeLast_31 : decode cX2_takeLast 31 = .ok (.irem, 1) := by decide +kernel
theorem dX2_takeLast_32 : decode cX2_takeLast 32 = .ok (.putfield 22, 3) := by decide +kernel
theorem dX2_takeLast_35 : decode cX2_takeLast 35 = .ok (.aload_n 0, 1) := by decide +kernel
theorem dX2_takeLast_36 : decode cX2_takeLast 36 = .ok (.aload_n 0, 1) := by decide +kernel
theorem dX2_takeLast_37 : decode cX2_takeLast 37 = .ok (.getfield 22, 3) := by decide +kernel
theorem dX2_takeLast_40 : decode cX2_takeLast 40 = .ok (.invokevirtual 25, 3) := by decide +kernel
theorem dX2_takeLast_43 : decode cX2_takeLast 43 = .ok (.areturn, 1) := by decide +kernel
abbrev wd_X2_takeLast (k : Nat → ClassId) (this : Nat) (this_states : Nat) (this_states_a : Nat → Nat) (this_next : Int32) (this_many : Int32) : va_W := [(this, .inr (1, [.ref this_states, .int this_next, .int this_many])), (this_states, .inl (k 5, 16, .inr (.inr (.inr (.inr (fun j => some (this_states_a j)))))))]
set_option maxHeartbeats 4000000 in
set_option maxRecDepth 100000 in
theorem c_X2_takeLast (l : Launch) (D : va_G) (k : Nat → ClassId) (this : Nat) (this_states : Nat) (this_states_a : Nat → Nat) (this_next : Int32) (this_many : Int32) (R0 : Option Nat × Int32 × Int32) (hm : m_X2_takeLast this_next this_many = some R0) : CW l D (TY k) yX2_takeLast cX2_takeLast 1 (some (.object "HalfMast$State")) 1 21 [.ref this] (wd_X2_takeLast k this this_states this_states_a this_next this_many) (some (va_re this_states_a R0.1)) (wd_X2_takeLast k this this_states this_states_a R0.2.1 R0.2.2) := by
  refine CW.mk (by decide) (Nat.le_of_ble_eq_true rfl) ?_
  intro p e s m args below meth c ls A ⟨hx, hb, hr, hts, hown, hlocks, hml⟩ hP hG hD hA hl hS hq
  have hl : lv_has ls 1 [(0, .ref this)] := hl
  unfold m_X2_takeLast at hm
  suffices hgo : ∀ (H : Heap) (locs : List Loc), va_P D vwCl (wd_X2_takeLast k this this_states this_states_a this_next this_many) H → va_D A (wd_X2_takeLast k this this_states this_states_a this_next this_many) → va_S A s.heap H locs → W p l e (Rm 1 21) s m args below meth c H locs 0 0 (MQ below (QW D (some (va_re this_states_a R0.1)) (wd_X2_takeLast k this this_states this_states_a this_next this_many) (wd_X2_takeLast k this this_states this_states_a R0.2.1 R0.2.2) s.heap.size) args s 0 0 A) (F0 m 0 ls []) from hgo _ _ hP hD hS
  clear hP hD hS
  intro H locs hP hD hS
  refine lv_aload_n (pc := 0) hx hb dX2_takeLast_0 rfl (lv_at hl 0 rfl) ?_
  refine va_get (pc := 1) (D := D) (ci := 1) (C := RX2) (T := TX2) (N := 3) hx hb hts hiX2 hown hG.1 hP 0 rfl rfl 2 (Nat.le_of_ble_eq_true rfl) (hts _ kw_112) (fun _ h9 => h9) rfl dX2_takeLast_1 ?_
  refine lv_if_ne (tgt := 9) (pc := 4) hx hb dX2_takeLast_4 (by decide) (fun hc => ?_) (fun hc => ?_)
  · rw [if_neg hc] at hm
    refine lv_aload_n (pc := 9) hx hb dX2_takeLast_9 rfl (lv_at hl 0 rfl) ?_
    refine lv_dup (pc := 10) hx hb dX2_takeLast_10 rfl ?_
    refine va_get (pc := 11) (D := D) (ci := 1) (C := RX2) (T := TX2) (N := 3) hx hb hts hiX2 hown hG.1 hP 0 rfl rfl 2 (Nat.le_of_ble_eq_true rfl) (hts _ kw_112) (fun _ h9 => h9) rfl dX2_takeLast_11 ?_
    refine lv_iconst (v := 1) (pc := 14) hx hb dX2_takeLast_14 (by decide) ?_
    refine lv_isub (pc := 15) hx hb dX2_takeLast_15 ?_
    refine va_put (pc := 16) (D := D) (ci := 1) (v := .int (this_many - 1)) (ty := .int) (C := RX2) (T := TX2) (N := 3) hx hb hts hiX2 tyX2 tyX2_ok nmX2 hown hG.1 hP hD hS 0 rfl rfl 2 (Nat.le_of_ble_eq_true rfl) (hts _ kw_112) (fun _ h9 => h9) rfl (by decide +kernel) rfl rfl (Nat.le_of_ble_eq_true rfl) dX2_takeLast_16 (fun H locs hP hD hS => ?_)
    have hP : va_P D vwCl (wd_X2_takeLast k this this_states this_states_a this_next (this_many - 1)) H := hP
    have hD : va_D A (wd_X2_takeLast k this this_states this_states_a this_next (this_many - 1)) := hD
    refine lv_aload_n (pc := 19) hx hb dX2_takeLast_19 rfl (lv_at hl 0 rfl) ?_
    refine lv_aload_n (pc := 20) hx hb dX2_takeLast_20 rfl (lv_at hl 0 rfl) ?_
    refine va_get (pc := 21) (D := D) (ci := 1) (C := RX2) (T := TX2) (N := 3) hx hb hts hiX2 hown hG.1 hP 0 rfl rfl 1 (Nat.le_of_ble_eq_true rfl) (hts _ kw_111) (fun _ h9 => h9) rfl dX2_takeLast_21 ?_
    refine lv_bipush (v := 16) (pc := 24) hx hb dX2_takeLast_24 (by decide) ?_
    refine lv_iadd (pc := 26) hx hb dX2_takeLast_26 ?_
    refine lv_iconst (v := 1) (pc := 27) hx hb dX2_takeLast_27 (by decide) ?_
    refine lv_isub (pc := 28) hx hb dX2_takeLast_28 ?_
    refine lv_bipush (v := 16) (pc := 29) hx hb dX2_takeLast_29 (by decide) ?_
    refine lv_irem (pc := 31) hx hb dX2_takeLast_31 (by decide) ?_
    refine va_put (pc := 32) (D := D) (ci := 1) (v := .int (((this_next + 16) - 1) - ((this_next + 16) - 1) / 16 * 16)) (ty := .int) (C := RX2) (T := TX2) (N := 3) hx hb hts hiX2 tyX2 tyX2_ok nmX2 hown hG.1 hP hD hS 0 rfl rfl 1 (Nat.le_of_ble_eq_true rfl) (hts _ kw_111) (fun _ h9 => h9) rfl (by decide +kernel) rfl rfl (Nat.le_of_ble_eq_true rfl) dX2_takeLast_32 (fun H locs hP hD hS => ?_)
    have hP : va_P D vwCl (wd_X2_takeLast k this this_states this_states_a (((this_next + 16) - 1) - ((this_next + 16) - 1) / 16 * 16) (this_many - 1)) H := hP
    have hD : va_D A (wd_X2_takeLast k this this_states this_states_a (((this_next + 16) - 1) - ((this_next + 16) - 1) / 16 * 16) (this_many - 1)) := hD
    refine lv_aload_n (pc := 35) hx hb dX2_takeLast_35 rfl (lv_at hl 0 rfl) ?_
    refine lv_aload_n (pc := 36) hx hb dX2_takeLast_36 rfl (lv_at hl 0 rfl) ?_
    refine va_get (pc := 37) (D := D) (ci := 1) (C := RX2) (T := TX2) (N := 3) hx hb hts hiX2 hown hG.1 hP 0 rfl rfl 1 (Nat.le_of_ble_eq_true rfl) (hts _ kw_111) (fun _ h9 => h9) rfl dX2_takeLast_37 ?_
    obtain ⟨r2, hcl, hm⟩ := bd hm
    refine cr_back (run_V (pc := 40) (n := 1) (As := [.int (((this_next + 16) - 1) - ((this_next + 16) - 1) / 16 * 16)]) (rest := []) ⟨hx, hb, hml, hown, hts⟩ (c_X2_stateAt l D k this this_states this_states_a (((this_next + 16) - 1) - ((this_next + 16) - 1) / 16 * 16) (this_many - 1) (((this_next + 16) - 1) - ((this_next + 16) - 1) / 16 * 16) r2 hcl) ⟨kw_767, kw_5, by decide +kernel⟩ kw_764 kw_766 ks_57 ⟨Nat.le_of_ble_eq_true rfl, Nat.le_of_ble_eq_true rfl⟩ pr_blind (prR (hP.sub [0, 1] rfl) hG) (va_recv hG.1 hP (ci := 1) (q0 := 0) rfl rfl) rfl hl.1 rfl (Nat.le_of_ble_eq_true rfl) dX2_takeLast_40 ⟨Nat.zero_le _, Nat.zero_le _⟩) ?_
    rw [← Option.some.inj hm]
    exact W.aret hx hb hr (Or.inl ⟨_, rfl⟩) (va_re_or _ _) (fun t ht _ => hq _ _ H t ht hP hD locs hS) hS.2.2 dX2_takeLast_43 hlocks
  · rw [if_pos hc] at hm
    refine lv_null (pc := 7) hx hb dX2_takeLast_7 ?_
    rw [← Option.some.inj hm]
    exact W.aret hx hb hr (Or.inl ⟨_, rfl⟩) (Or.inl rfl) (fun t ht _ => hq _ _ H t ht hP hD locs hS) hS.2.2 dX2_takeLast_8 hlocks
