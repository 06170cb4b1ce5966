theorem dX3_forget_0 : decode cX3_forget 0 = .ok (.aload_n 0, 1) := by decide +kernel
theorem dX3_forget_1 : decode cX3_forget 1 = .ok (.iconst 0, 1) := by decide +kernel
theorem dX3_forget_2 : decode cX3_forget 2 = .ok (.putfield 25, 3) := by decide +kernel
theorem dX3_forget_5 : decode cX3_forget 5 = .ok (.return_, 1) := by decide +kernel
abbrev wd_X3_forget (k : Nat → ClassId) (this : Nat) (this_steps : Nat) (this_steps_f : Nat → Int32) (this_stack : Nat) (this_stack_f : Nat → Int32) (this_size : Int32) : va_W := [(this, .inr (2, [.ref this_steps, .ref this_stack, .int this_size])), (this_steps, .inl (k 0, 1000, .inl this_steps_f)), (this_stack, .inl (k 0, 21, .inl this_stack_f))]
set_option maxHeartbeats 4000000 in
set_option maxRecDepth 100000 in
theorem c_X3_forget (l : Launch) (D : va_G) (k : Nat → ClassId) (this : Nat) (this_steps : Nat) (this_steps_f : Nat → Int32) (this_stack : Nat) (this_stack_f : Nat → Int32) (this_size : Int32) (R0 : Int32) (hm : m_X3_forget = some R0) : CW l D (TY k) yX3_forget cX3_forget 1 none 0 0 [.ref this] (wd_X3_forget k this this_steps this_steps_f this_stack this_stack_f this_size) none (wd_X3_forget k this this_steps this_steps_f this_stack this_stack_f R0) := by
  refine CW.mk (by decide) (Nat.le_of_ble_eq_true rfl) ?_
  intro p e s m args below meth c ls A ⟨hx, hb, hr, hts, hown, hlocks, hml⟩ hP hG hD hA hl hS hq
  have hl : lv_has ls 1 [(0, .ref this)] := hl
  unfold m_X3_forget at hm
  suffices hgo : ∀ (H : Heap) (locs : List Loc), va_P D vwCl (wd_X3_forget k this this_steps this_steps_f this_stack this_stack_f this_size) H → va_D A (wd_X3_forget k this this_steps this_steps_f this_stack this_stack_f this_size) → va_S A s.heap H locs → W p l e (Rm 0 0) s m args below meth c H locs 0 0 (MQ below (QW D none (wd_X3_forget k this this_steps this_steps_f this_stack this_stack_f this_size) (wd_X3_forget k this this_steps this_steps_f this_stack this_stack_f R0) s.heap.size) args s 0 0 A) (F0 m 0 ls []) from hgo _ _ hP hD hS
  clear hP hD hS
  intro H locs hP hD hS
  refine lv_aload_n (pc := 0) hx hb dX3_forget_0 rfl (lv_at hl 0 rfl) ?_
  refine lv_iconst (v := 0) (pc := 1) hx hb dX3_forget_1 (by decide) ?_
  refine va_put (pc := 2) (D := D) (ci := 2) (v := .int 0) (ty := .int) (C := RX3) (T := TX3) (N := 3) hx hb hts hiX3 tyX3 tyX3_ok nmX3 hown hG.1 hP hD hS 0 rfl rfl 2 (Nat.le_of_ble_eq_true rfl) (hts _ kw_186) (fun _ h9 => h9) rfl (by decide +kernel) rfl rfl (Nat.le_of_ble_eq_true rfl) dX3_forget_2 (fun H locs hP hD hS => ?_)
  have hP : va_P D vwCl (wd_X3_forget k this this_steps this_steps_f this_stack this_stack_f 0) H := hP
  have hD : va_D A (wd_X3_forget k this this_steps this_steps_f this_stack this_stack_f 0) := hD
  rw [← Option.some.inj hm]
  exact W.vret hx hb hr (fun t ht _ => hq _ _ H t ht hP hD locs hS) hS.2.2 dX3_forget_5 hlocks
theorem dX3_add_0 : decode cX3_add 0 = .ok (.aload_n 0, 1) := by decide +kernel
theorem dX3_add_1 : decode cX3_add 1 = .ok (.getfield 25, 3) := by decide +kernel
theorem dX3_add_4 : decode cX3_add 4 = .ok (.aload_n 0, 1) := by decide +kernel
theorem dX3_add_5 : decode cX3_add 5 = .ok (.getfield 11, 3) := by decide +kernel
theorem dX3_add_8 : decode cX3_add 8 = .ok (.arraylength, 1) := by decide +kernel
theorem dX3_add_9 : decode cX3_add 9 = .ok (.if_icmp .ge 25, 3) := by decide +kernel
theorem dX3_add_12 : decode cX3_add 12 = .ok (.aload_n 0, 1) := by decide +kernel
theorem dX3_add_13 : decode cX3_add 13 = .ok (.getfield 11, 3) := by decide +kernel
theorem dX3_add_16 : decode cX3_add 16 = .ok (.aload_n 0, 1) := by decide +kernel
theorem dX3_add_17 : decode cX3_add 17 = .ok (.getfield 25, 3) := by decide +kernel
theorem dX3_add_20 : decode cX3_add 20 = .ok (.iload_n 1, 1) := by decide +kernel
theorem dX3_add_21 : decode cX3_add 21 = .ok (.invokestatic 29, 3) := by decide +kernel
theorem dX3_add_24 : decode cX3_add 24 = .ok (.aload_n 0, 1) := by decide +kernel
theorem dX3_add_25 : decode cX3_add 25 = .ok (.dup, 1) := by decide +kernel
theorem dX3_add_26 : decode cX3_add 26 = .ok (.getfield 25, 3) := by decide +kernel
theorem dX3_add_29 : decode cX3_add 29 = .ok (.iconst 1, 1) := by decide +kernel
theorem dX3_add_30 : decode cX3_add 30 = .ok (.iadd, 1) := by decide +kernel
theorem dX3_add_31 : decode cX3_add 31 = .ok (.putfield 25, 3) := by decide +kernel
theorem dX3_add_34 : decode cX3_add 34 = .ok (.return_, 1) := by decide +kernel
abbrev wd_X3_add (k : Nat → ClassId) (this : Nat) (this_steps : Nat) (this_steps_f : Nat → Int32) (this_stack : Nat) (this_stack_f : Nat → Int32) (this_size : Int32) : va_W := [(this, .inr (2, [.ref this_steps, .ref this_stack, .int this_size])), (this_steps, .inl (k 0, 1000, .inl this_steps_f)), (this_stack, .inl (k 0, 21, .inl this_stack_f))]
set_option maxHeartbeats 4000000 in
set_option maxRecDepth 100000 in
theorem c_X3_add (l : Launch) (D : va_G) (k : Nat → ClassId) (this : Nat) (this_steps : Nat) (this_steps_f : Nat → Int32) (this_stack : Nat) (this_stack_f : Nat → Int32) (this_size : Int32) (step : Int32) (R0 : Int32 × (Nat → Int32)) (hm : m_X3_add this_steps_f this_size step = some R0) : CW l D (TY k) yX3_add cX3_add 2 none 1 22 [.ref this, .int step] (wd_X3_add k this this_steps this_steps_f this_stack this_stack_f this_size) none (wd_X3_add k this this_steps R0.2 this_stack this_stack_f R0.1) := by
  refine CW.mk (by decide) (Nat.le_of_ble_eq_true rfl) ?_
  intro p e s m args below meth c ls A ⟨hx, hb, hr, hts, hown, hlocks, hml⟩ hP hG hD hA hl hS hq
  have hl : lv_has ls 2 [(0, .ref this), (1, .int step)] := hl
  unfold m_X3_add at hm
  suffices hgo : ∀ (H : Heap) (locs : List Loc), va_P D vwCl (wd_X3_add k this this_steps this_steps_f this_stack this_stack_f this_size) H → va_D A (wd_X3_add k this this_steps this_steps_f this_stack this_stack_f this_size) → va_S A s.heap H locs → W p l e (Rm 1 22) s m args below meth c H locs 0 0 (MQ below (QW D none (wd_X3_add k this this_steps this_steps_f this_stack this_stack_f this_size) (wd_X3_add k this this_steps R0.2 this_stack this_stack_f R0.1) s.heap.size) args s 0 0 A) (F0 m 0 ls []) from hgo _ _ hP hD hS
  clear hP hD hS
  intro H locs hP hD hS
  refine lv_aload_n (pc := 0) hx hb dX3_add_0 rfl (lv_at hl 0 rfl) ?_
  refine va_get (pc := 1) (D := D) (ci := 2) (C := RX3) (T := TX3) (N := 3) hx hb hts hiX3 hown hG.1 hP 0 rfl rfl 2 (Nat.le_of_ble_eq_true rfl) (hts _ kw_186) (fun _ h9 => h9) rfl dX3_add_1 ?_
  refine lv_aload_n (pc := 4) hx hb dX3_add_4 rfl (lv_at hl 0 rfl) ?_
  refine va_get (pc := 5) (D := D) (ci := 2) (C := RX3) (T := TX3) (N := 3) hx hb hts hiX3 hown hG.1 hP 0 rfl rfl 0 (Nat.le_of_ble_eq_true rfl) (hts _ kw_184) (fun _ h9 => h9) rfl dX3_add_5 ?_
  refine va_alen (pc := 8) (D := D) (v := 1000) hx hb hG.1 hP 1 0 rfl rfl rfl dX3_add_8 ?_
  refine lv_icmp_ge (tgt := 34) (pc := 9) hx hb dX3_add_9 (by decide) (fun hc => ?_) (fun hc => ?_)
  · rw [if_pos hc] at hm
    rw [← Option.some.inj hm]
    exact W.vret hx hb hr (fun t ht _ => hq _ _ H t ht hP hD locs hS) hS.2.2 dX3_add_34 hlocks
  · rw [if_neg hc] at hm
    refine lv_aload_n (pc := 12) hx hb dX3_add_12 rfl (lv_at hl 0 rfl) ?_
    refine va_get (pc := 13) (D := D) (ci := 2) (C := RX3) (T := TX3) (N := 3) hx hb hts hiX3 hown hG.1 hP 0 rfl rfl 0 (Nat.le_of_ble_eq_true rfl) (hts _ kw_184) (fun _ h9 => h9) rfl dX3_add_13 ?_
    refine lv_aload_n (pc := 16) hx hb dX3_add_16 rfl (lv_at hl 0 rfl) ?_
    refine va_get (pc := 17) (D := D) (ci := 2) (C := RX3) (T := TX3) (N := 3) hx hb hts hiX3 hown hG.1 hP 0 rfl rfl 2 (Nat.le_of_ble_eq_true rfl) (hts _ kw_186) (fun _ h9 => h9) rfl dX3_add_17 ?_
    refine lv_iload_n (pc := 20) hx hb dX3_add_20 rfl (lv_at hl 1 rfl) ?_
    obtain ⟨r2, hcl, hm⟩ := bd hm
    refine cw_mask (ws' := (wd_X3_add k this this_steps r2 this_stack this_stack_f this_size)) (run_SN (pc := 21) (n := 3) (As := [.ref this_steps, .int this_size, .int step]) (rest := []) ⟨hx, hb, hml, hown, hts⟩ ((c_X11_put l D k this_steps 1000 this_steps_f this_size step r2 hcl) H.size) ⟨kw_303, kw_1, by decide +kernel⟩ hG kn_301 kw_302 ⟨Nat.le_of_ble_eq_true rfl, Nat.le_of_ble_eq_true rfl⟩ pw_blind (prW (P_pick [false, true] rfl hP) hG (D_pick [false, true] rfl hD)) rfl hl.1 rfl (Nat.le_of_ble_eq_true rfl) dX3_add_21 ⟨Nat.zero_le _, Nat.zero_le _⟩) hP hD hS hA [false, true] rfl rfl rfl (fun H locs hP hD hS => ?_)
    refine lv_aload_n (pc := 24) hx hb dX3_add_24 rfl (lv_at hl 0 rfl) ?_
    refine lv_dup (pc := 25) hx hb dX3_add_25 rfl ?_
    refine va_get (pc := 26) (D := D) (ci := 2) (C := RX3) (T := TX3) (N := 3) hx hb hts hiX3 hown hG.1 hP 0 rfl rfl 2 (Nat.le_of_ble_eq_true rfl) (hts _ kw_186) (fun _ h9 => h9) rfl dX3_add_26 ?_
    refine lv_iconst (v := 1) (pc := 29) hx hb dX3_add_29 (by decide) ?_
    refine lv_iadd (pc := 30) hx hb dX3_add_30 ?_
    refine va_put (pc := 31) (D := D) (ci := 2) (v := .int (this_size + 1)) (ty := .int) (C := RX3) (T := TX3) (N := 3) hx hb hts hiX3 tyX3 tyX3_ok nmX3 hown hG.1 hP hD hS 0 rfl rfl 2 (Nat.le_of_ble_eq_true rfl) (hts _ kw_186) (fun _ h9 => h9) rfl (by decide +kernel) rfl rfl (Nat.le_of_ble_eq_true rfl) dX3_add_31 (fun H locs hP hD hS => ?_)
    have hP : va_P D vwCl (wd_X3_add k this this_steps r2 this_stack this_stack_f (this_size + 1)) H := hP
    have hD : va_D A (wd_X3_add k this this_steps r2 this_stack this_stack_f (this_size + 1)) := hD
    rw [← Option.some.inj hm]
    exact W.vret hx hb hr (fun t ht _ => hq _ _ H t ht hP hD locs hS) hS.2.2 dX3_add_34 hlocks
theorem dX3_useOldLaw_0 : decode cX3_useOldLaw 0 = .ok (.aload_n 0, 1) := by decide +kernel
theorem dX3_useOldLaw_1 : decode cX3_useOldLaw 1 = .ok (.invokevirtual 18, 3) := by decide +kernel
theorem dX3_useOldLaw_4 : decode cX3_useOldLaw 4 = .ok (.aload_n 0, 1) := by decide +kernel
theorem dX3_useOldLaw_5 : decode cX3_useOldLaw 5 = .ok (.bipush (-3), 2) := by decide +kernel
theorem dX3_useOldLaw_7 : decode cX3_useOldLaw 7 = .ok (.invokevirtual 21, 3) := by decide +kernel
theorem dX3_useOldLaw_10 : decode cX3_useOldLaw 10 = .ok (.aload_n 0, 1) := by decide +kernel
theorem dX3_useOldLaw_11 : decode cX3_useOldLaw 11 = .ok (.iconst 1, 1) := by decide +kernel
theorem dX3_useOldLaw_12 : decode cX3_useOldLaw 12 = .ok (.invokevirtual 21, 3) := by decide +kernel
theorem dX3_useOldLaw_15 : decode cX3_useOldLaw 15 = .ok (.aload_n 0, 1) := by decide +kernel
theorem dX3_useOldLaw_16 : decode cX3_useOldLaw 16 = .ok (.bipush (-11), 2) := by decide +kernel
theorem dX3_useOldLaw_18 : decode cX3_useOldLaw 18 = .ok (.invokevirtual 21, 3) := by decide +kernel
theorem dX3_useOldLaw_21 : decode cX3_useOldLaw 21 = .ok (.return_, 1) := by decide +kernel
abbrev wd_X3_useOldLaw (k : Nat → ClassId) (this : Nat) (this_steps : Nat) (this_steps_f : Nat → Int32) (this_stack : Nat) (this_stack_f : Nat → Int32) (this_size : Int32) : va_W := [(this, .inr (2, [.ref this_steps, .ref this_stack, .int this_size])), (this_steps, .inl (k 0, 1000, .inl this_steps_f)), (this_stack, .inl (k 0, 21, .inl this_stack_f))]
set_option maxHeartbeats 4000000 in
set_option maxRecDepth 100000 in
theorem c_X3_useOldLaw (l : Launch) (D : va_G) (k : Nat → ClassId) (this : Nat) (this_steps : Nat) (this_steps_f : Nat → Int32) (this_stack : Nat) (this_stack_f : Nat → Int32) (this_size : Int32) (R0 : Int32 × (Nat → Int32)) (hm : m_X3_useOldLaw this_steps_f = some R0) : CW l D (TY k) yX3_useOldLaw cX3_useOldLaw 1 none 2 43 [.ref this] (wd_X3_useOldLaw k this this_steps this_steps_f this_stack this_stack_f this_size) none (wd_X3_useOldLaw k this this_steps R0.2 this_stack this_stack_f R0.1) := by
  refine CW.mk (by decide) (Nat.le_of_ble_eq_true rfl) ?_
  intro p e s m args below meth c ls A ⟨hx, hb, hr, hts, hown, hlocks, hml⟩ hP hG hD hA hl hS hq
  have hl : lv_has ls 1 [(0, .ref this)] := hl
  unfold m_X3_useOldLaw at hm
  suffices hgo : ∀ (H : Heap) (locs : List Loc), va_P D vwCl (wd_X3_useOldLaw k this this_steps this_steps_f this_stack this_stack_f this_size) H → va_D A (wd_X3_useOldLaw k this this_steps this_steps_f this_stack this_stack_f this_size) → va_S A s.heap H locs → W p l e (Rm 2 43) s m args below meth c H locs 0 0 (MQ below (QW D none (wd_X3_useOldLaw k this this_steps this_steps_f this_stack this_stack_f this_size) (wd_X3_useOldLaw k this this_steps R0.2 this_stack this_stack_f R0.1) s.heap.size) args s 0 0 A) (F0 m 0 ls []) from hgo _ _ hP hD hS
  clear hP hD hS
  intro H locs hP hD hS
  refine lv_aload_n (pc := 0) hx hb dX3_useOldLaw_0 rfl (lv_at hl 0 rfl) ?_
  obtain ⟨r5, hcl, hm⟩ := bd hm
  refine cw_mask (ws' := (wd_X3_useOldLaw k this this_steps this_steps_f this_stack this_stack_f r5)) (run_V (pc := 1) (n := 0) (As := []) (rest := []) ⟨hx, hb, hml, hown, hts⟩ ((c_X3_forget l D k this this_steps this_steps_f this_stack this_stack_f this_size r5 hcl) H.size) ⟨kw_296, kw_10, by decide +kernel⟩ kw_293 kw_295 ks_3 ⟨Nat.le_of_ble_eq_true rfl, Nat.le_of_ble_eq_true rfl⟩ pw_blind (prW (P_pick [true, true, true] rfl hP) hG (D_pick [true, true, true] rfl hD)) (va_recv hG.1 hP (ci := 2) (q0 := 0) rfl rfl) rfl hl.1 rfl (Nat.le_of_ble_eq_true rfl) dX3_useOldLaw_1 ⟨Nat.zero_le _, Nat.zero_le _⟩) hP hD hS hA [true, true, true] rfl rfl rfl (fun H locs hP hD hS => ?_)
  refine lv_aload_n (pc := 4) hx hb dX3_useOldLaw_4 rfl (lv_at hl 0 rfl) ?_
  refine lv_bipush (v := (-3)) (pc := 5) hx hb dX3_useOldLaw_5 (by decide) ?_
  obtain ⟨r6, hcl, hm⟩ := bd hm
  refine cw_mask (ws' := (wd_X3_useOldLaw k this this_steps r6.2 this_stack this_stack_f r6.1)) (run_V (pc := 7) (n := 1) (As := [.int (-3)]) (rest := []) ⟨hx, hb, hml, hown, hts⟩ ((c_X3_add l D k this this_steps this_steps_f this_stack this_stack_f r5 (-3) r6 hcl) H.size) ⟨kw_300, kw_10, by decide +kernel⟩ kw_297 kw_299 ks_4 ⟨Nat.le_of_ble_eq_true rfl, Nat.le_of_ble_eq_true rfl⟩ pw_blind (prW (P_pick [true, true, true] rfl hP) hG (D_pick [true, true, true] rfl hD)) (va_recv hG.1 hP (ci := 2) (q0 := 0) rfl rfl) rfl hl.1 rfl (Nat.le_of_ble_eq_true rfl) dX3_useOldLaw_7 ⟨Nat.zero_le _, Nat.zero_le _⟩) hP hD hS hA [true, true, true] rfl rfl rfl (fun H locs hP hD hS => ?_)
  refine lv_aload_n (pc := 10) hx hb dX3_useOldLaw_10 rfl (lv_at hl 0 rfl) ?_
  refine lv_iconst (v := 1) (pc := 11) hx hb dX3_useOldLaw_11 (by decide) ?_
  obtain ⟨r7, hcl, hm⟩ := bd hm
  refine cw_mask (ws' := (wd_X3_useOldLaw k this this_steps r7.2 this_stack this_stack_f r7.1)) (run_V (pc := 12) (n := 1) (As := [.int 1]) (rest := []) ⟨hx, hb, hml, hown, hts⟩ ((c_X3_add l D k this this_steps r6.2 this_stack this_stack_f r6.1 1 r7 hcl) H.size) ⟨kw_300, kw_10, by decide +kernel⟩ kw_297 kw_299 ks_4 ⟨Nat.le_of_ble_eq_true rfl, Nat.le_of_ble_eq_true rfl⟩ pw_blind (prW (P_pick [true, true, true] rfl hP) hG (D_pick [true, true, true] rfl hD)) (va_recv hG.1 hP (ci := 2) (q0 := 0) rfl rfl) rfl hl.1 rfl (Nat.le_of_ble_eq_true rfl) dX3_useOldLaw_12 ⟨Nat.zero_le _, Nat.zero_le _⟩) hP hD hS hA [true, true, true] rfl rfl rfl (fun H locs hP hD hS => ?_)
  refine lv_aload_n (pc := 15) hx hb dX3_useOldLaw_15 rfl (lv_at hl 0 rfl) ?_
  refine lv_bipush (v := (-11)) (pc := 16) hx hb dX3_useOldLaw_16 (by decide) ?_
  obtain ⟨r8, hcl, hm⟩ := bd hm
  refine cw_mask (ws' := (wd_X3_useOldLaw k this this_steps r8.2 this_stack this_stack_f r8.1)) (run_V (pc := 18) (n := 1) (As := [.int (-11)]) (rest := []) ⟨hx, hb, hml, hown, hts⟩ ((c_X3_add l D k this this_steps r7.2 this_stack this_stack_f r7.1 (-11) r8 hcl) H.size) ⟨kw_300, kw_10, by decide +kernel⟩ kw_297 kw_299 ks_4 ⟨Nat.le_of_ble_eq_true rfl, Nat.le_of_ble_eq_true rfl⟩ pw_blind (prW (P_pick [true, true, true] rfl hP) hG (D_pick [true, true, true] rfl hD)) (va_recv hG.1 hP (ci := 2) (q0 := 0) rfl rfl) rfl hl.1 rfl (Nat.le_of_ble_eq_true rfl) dX3_useOldLaw_18 ⟨Nat.zero_le _, Nat.zero_le _⟩) hP hD hS hA [true, true, true] rfl rfl rfl (fun H locs hP hD hS => ?_)
  rw [← Option.some.inj hm]
  exact W.vret hx hb hr (fun t ht _ => hq _ _ H t ht hP hD locs hS) hS.2.2 dX3_useOldLaw_21 hlocks
theorem dX3_factBy_0 : decode cX3_factBy 0 = .ok (.iload_n 0, 1) := by decide +kernel
theorem dX3_factBy_1 : decode cX3_factBy 1 = .ok (.tableswitch 33 (-3) (-1) #[31, 29, 27], 27) := by decide +kernel
theorem dX3_factBy_28 : decode cX3_factBy 28 = .ok (.iload_n 1, 1) := by decide +kernel
theorem dX3_factBy_29 : decode cX3_factBy 29 = .ok (.ireturn, 1) := by decide +kernel
theorem dX3_factBy_30 : decode cX3_factBy 30 = .ok (.iload_n 2, 1) := by decide +kernel
theorem dX3_factBy_31 : decode cX3_factBy 31 = .ok (.ireturn, 1) := by decide +kernel
theorem dX3_factBy_32 : decode cX3_factBy 32 = .ok (.iload_n 3, 1) := by decide +kernel
theorem dX3_factBy_33 : decode cX3_factBy 33 = .ok (.ireturn, 1) := by decide +kernel
theorem dX3_factBy_34 : decode cX3_factBy 34 = .ok (.iload 4, 2) := by decide +kernel
theorem dX3_factBy_36 : decode cX3_factBy 36 = .ok (.ireturn, 1) := by decide +kernel
abbrev wd_X3_factBy (k : Nat → ClassId) : va_W := []
set_option maxHeartbeats 4000000 in
set_option maxRecDepth 100000 in
theorem c_X3_factBy (l : Launch) (D : va_G) (k : Nat → ClassId) (step : Int32) (gone : Int32) (high : Int32) (felt : Int32) (date : Int32) (R0 : Int32) (hm : m_X3_factBy step gone high felt date = some R0) : CR l D (TY k) yX3_factBy cX3_factBy 5 (some .int) 0 0 [.int step, .int gone, .int high, .int felt, .int date] (wd_X3_factBy k ) (some (.int R0)) := by
  refine CR.mk (by decide) (Nat.le_of_ble_eq_true rfl) ?_
  intro p e s m args below meth c ls ⟨hx, hb, hr, hts, hown, hlocks, hml⟩ hP hG hl
  have hl : lv_has ls 5 [(0, .int step), (1, .int gone), (2, .int high), (3, .int felt), (4, .int date)] := hl
  unfold m_X3_factBy at hm
  refine lv_iload_n (pc := 0) hx hb dX3_factBy_0 rfl (lv_at hl 0 rfl) ?_
  by_cases hs0 : step = (-3)
  · rw [if_pos hs0] at hm
    rw [hs0]
    refine lv_tableIn (tgt := 32) (pc := 1) hx hb dX3_factBy_1 (by decide) (by decide) rfl (by decide) ?_
    refine lv_iload_n (pc := 32) hx hb dX3_factBy_32 rfl (lv_at hl 3 rfl) ?_
    rw [← Option.some.inj hm]
    exact W.iret hx hb hr (fun t ht _ => ⟨rfl, ht⟩) (fun _ h => by cases h) dX3_factBy_33 hlocks
  · rw [if_neg hs0] at hm
    by_cases hs1 : step = (-2)
    · rw [if_pos hs1] at hm
      rw [hs1]
      refine lv_tableIn (tgt := 30) (pc := 1) hx hb dX3_factBy_1 (by decide) (by decide) rfl (by decide) ?_
      refine lv_iload_n (pc := 30) hx hb dX3_factBy_30 rfl (lv_at hl 2 rfl) ?_
      rw [← Option.some.inj hm]
      exact W.iret hx hb hr (fun t ht _ => ⟨rfl, ht⟩) (fun _ h => by cases h) dX3_factBy_31 hlocks
    · rw [if_neg hs1] at hm
      by_cases hs2 : step = (-1)
      · rw [if_pos hs2] at hm
        rw [hs2]
        refine lv_tableIn (tgt := 28) (pc := 1) hx hb dX3_factBy_1 (by decide) (by decide) rfl (by decide) ?_
        refine lv_iload_n (pc := 28) hx hb dX3_factBy_28 rfl (lv_at hl 1 rfl) ?_
        rw [← Option.some.inj hm]
        exact W.iret hx hb hr (fun t ht _ => ⟨rfl, ht⟩) (fun _ h => by cases h) dX3_factBy_29 hlocks
      · rw [if_neg hs2] at hm
        refine lv_tableOut (tgt := 34) (pc := 1) hx hb dX3_factBy_1 (sw_out (by decide) (by decide) (by intro v h1 h2; rcases (show v = (-3) ∨ v = (-2) ∨ v = (-1) by omega) with rfl | rfl | rfl <;> assumption)) (by decide) ?_
        refine lv_iload (pc := 34) hx hb dX3_factBy_34 (lv_at hl 4 rfl) ?_
        rw [← Option.some.inj hm]
        exact W.iret hx hb hr (fun t ht _ => ⟨rfl, ht⟩) (fun _ h => by cases h) dX3_factBy_36 hlocks
theorem dX3_join_0 : decode cX3_join 0 = .ok (.iload_n 0, 1) := by decide +kernel
theorem dX3_join_1 : decode cX3_join 1 = .ok (.tableswitch 97 (-11) (-6) #[93, 89, 78, 67, 53, 39], 39) := by decide +kernel
theorem dX3_join_40 : decode cX3_join 40 = .ok (.iload_n 1, 1) := by decide +kernel
theorem dX3_join_41 : decode cX3_join 41 = .ok (.ifCond .eq 11, 3) := by decide +kernel
theorem dX3_join_44 : decode cX3_join 44 = .ok (.iload_n 2, 1) := by decide +kernel
theorem dX3_join_45 : decode cX3_join 45 = .ok (.ifCond .eq 7, 3) := by decide +kernel
theorem dX3_join_48 : decode cX3_join 48 = .ok (.iconst 1, 1) := by decide +kernel
theorem dX3_join_49 : decode cX3_join 49 = .ok (.goto 4, 3) := by decide +kernel
theorem dX3_join_52 : decode cX3_join 52 = .ok (.iconst 0, 1) := by decide +kernel
theorem dX3_join_53 : decode cX3_join 53 = .ok (.ireturn, 1) := by decide +kernel
theorem dX3_join_54 : decode cX3_join 54 = .ok (.iload_n 1, 1) := by decide +kernel
theorem dX3_join_55 : decode cX3_join 55 = .ok (.ifCond .ne 7, 3) := by decide +kernel
theorem dX3_join_58 : decode cX3_join 58 = .ok (.iload_n 2, 1) := by decide +kernel
theorem dX3_join_59 : decode cX3_join 59 = .ok (.ifCond .eq 7, 3) := by decide +kernel
theorem dX3_join_62 : decode cX3_join 62 = .ok (.iconst 1, 1) := by decide +kernel
theorem dX3_join_63 : decode cX3_join 63 = .ok (.goto 4, 3) := by decide +kernel
theorem dX3_join_66 : decode cX3_join 66 = .ok (.iconst 0, 1) := by decide +kernel
theorem dX3_join_67 : decode cX3_join 67 = .ok (.ireturn, 1) := by decide +kernel
theorem dX3_join_68 : decode cX3_join 68 = .ok (.iload_n 1, 1) := by decide +kernel
theorem dX3_join_69 : decode cX3_join 69 = .ok (.iload_n 2, 1) := by decide +kernel
theorem dX3_join_70 : decode cX3_join 70 = .ok (.if_icmp .ge 7, 3) := by decide +kernel
theorem dX3_join_73 : decode cX3_join 73 = .ok (.iconst 1, 1) := by decide +kernel
theorem dX3_join_74 : decode cX3_join 74 = .ok (.goto 4, 3) := by decide +kernel
theorem dX3_join_77 : decode cX3_join 77 = .ok (.iconst 0, 1) := by decide +kernel
theorem dX3_join_78 : decode cX3_join 78 = .ok (.ireturn, 1) := by decide +kernel
theorem dX3_join_79 : decode cX3_join 79 = .ok (.iload_n 1, 1) := by decide +kernel
theorem dX3_join_80 : decode cX3_join 80 = .ok (.iload_n 2, 1) := by decide +kernel
theorem dX3_join_81 : decode cX3_join 81 = .ok (.if_icmp .ne 7, 3) := by decide +kernel
theorem dX3_join_84 : decode cX3_join 84 = .ok (.iconst 1, 1) := by decide +kernel
theorem dX3_join_85 : decode cX3_join 85 = .ok (.goto 4, 3) := by decide +kernel
theorem dX3_join_88 : decode cX3_join 88 = .ok (.iconst 0, 1) := by decide +kernel
theorem dX3_join_89 : decode cX3_join 89 = .ok (.ireturn, 1) := by decide +kernel
theorem dX3_join_90 : decode cX3_join 90 = .ok (.iload_n 1, 1) := by decide +kernel
theorem dX3_join_91 : decode cX3_join 91 = .ok (.iload_n 2, 1) := by decide +kernel
theorem dX3_join_92 : decode cX3_join 92 = .ok (.iadd, 1) := by decide +kernel
theorem dX3_join_93 : decode cX3_join 93 = .ok (.ireturn, 1) := by decide +kernel
theorem dX3_join_94 : decode cX3_join 94 = .ok (.iload_n 1, 1) := by decide +kernel
theorem dX3_join_95 : decode cX3_join 95 = .ok (.iload_n 2, 1) := by decide +kernel
theorem dX3_join_96 : decode cX3_join 96 = .ok (.isub, 1) := by decide +kernel
theorem dX3_join_97 : decode cX3_join 97 = .ok (.ireturn, 1) := by decide +kernel
theorem dX3_join_98 : decode cX3_join 98 = .ok (.iload_n 1, 1) := by decide +kernel
theorem dX3_join_99 : decode cX3_join 99 = .ok (.iload_n 2, 1) := by decide +kernel
theorem dX3_join_100 : decode cX3_join 100 = .ok (.imul, 1) := by decide +kernel
theorem dX3_join_101 : decode cX3_join 101 = .ok (.ireturn, 1) := by decide +kernel
abbrev wd_X3_join (k : Nat → ClassId) : va_W := []
set_option maxHeartbeats 4000000 in
set_option maxRecDepth 100000 in
theorem c_X3_join (l : Launch) (D : va_G) (k : Nat → ClassId) (step : Int32) (left : Int32) (right : Int32) (R0 : Int32) (hm : m_X3_join step left right = some R0) : CR l D (TY k) yX3_join cX3_join 3 (some .int) 0 0 [.int step, .int left, .int right] (wd_X3_join k ) (some (.int R0)) := by
  refine CR.mk (by decide) (Nat.le_of_ble_eq_true rfl) ?_
  intro p e s m args below meth c ls ⟨hx, hb, hr, hts, hown, hlocks, hml⟩ hP hG hl
  have hl : lv_has ls 3 [(0, .int step), (1, .int left), (2, .int right)] := hl
  unfold m_X3_join at hm
  refine lv_iload_n (pc := 0) hx hb dX3_join_0 rfl (lv_at hl 0 rfl) ?_
  by_cases hs0 : step = (-11)
  · rw [if_pos hs0] at hm
    rw [hs0]
    refine lv_tableIn (tgt := 94) (pc := 1) hx hb dX3_join_1 (by decide) (by decide) rfl (by decide) ?_
    refine lv_iload_n (pc := 94) hx hb dX3_join_94 rfl (lv_at hl 1 rfl) ?_
    refine lv_iload_n (pc := 95) hx hb dX3_join_95 rfl (lv_at hl 2 rfl) ?_
    refine lv_isub (pc := 96) hx hb dX3_join_96 ?_
    rw [← Option.some.inj hm]
    exact W.iret hx hb hr (fun t ht _ => ⟨rfl, ht⟩) (fun _ h => by cases h) dX3_join_97 hlocks
  · rw [if_neg hs0] at hm
    by_cases hs1 : step = (-10)
    · rw [if_pos hs1] at hm
      rw [hs1]
      refine lv_tableIn (tgt := 90) (pc := 1) hx hb dX3_join_1 (by decide) (by decide) rfl (by decide) ?_
      refine lv_iload_n (pc := 90) hx hb dX3_join_90 rfl (lv_at hl 1 rfl) ?_
      refine lv_iload_n (pc := 91) hx hb dX3_join_91 rfl (lv_at hl 2 rfl) ?_
      refine lv_iadd (pc := 92) hx hb dX3_join_92 ?_
      rw [← Option.some.inj hm]
      exact W.iret hx hb hr (fun t ht _ => ⟨rfl, ht⟩) (fun _ h => by cases h) dX3_join_93 hlocks
    · rw [if_neg hs1] at hm
      by_cases hs2 : step = (-9)
      · rw [if_pos hs2] at hm
        rw [hs2]
        refine lv_tableIn (tgt := 79) (pc := 1) hx hb dX3_join_1 (by decide) (by decide) rfl (by decide) ?_
        refine lv_iload_n (pc := 79) hx hb dX3_join_79 rfl (lv_at hl 1 rfl) ?_
        refine lv_iload_n (pc := 80) hx hb dX3_join_80 rfl (lv_at hl 2 rfl) ?_
        refine lv_icmp_ne (tgt := 88) (pc := 81) hx hb dX3_join_81 (by decide) (fun hc => ?_) (fun hc => ?_)
        · rw [if_neg hc] at hm
          refine lv_iconst (v := 0) (pc := 88) hx hb dX3_join_88 (by decide) ?_
          rw [← Option.some.inj hm]
          exact W.iret hx hb hr (fun t ht _ => ⟨rfl, ht⟩) (fun _ h => by cases h) dX3_join_89 hlocks
        · rw [if_pos hc] at hm
          refine lv_iconst (v := 1) (pc := 84) hx hb dX3_join_84 (by decide) ?_
          refine lv_goto (tgt := 89) (pc := 85) hx hb dX3_join_85 (by decide) ?_
          rw [← Option.some.inj hm]
          exact W.iret hx hb hr (fun t ht _ => ⟨rfl, ht⟩) (fun _ h => by cases h) dX3_join_89 hlocks
      · rw [if_neg hs2] at hm
        by_cases hs3 : step = (-8)
        · rw [if_pos hs3] at hm
          rw [hs3]
          refine lv_tableIn (tgt := 68) (pc := 1) hx hb dX3_join_1 (by decide) (by decide) rfl (by decide) ?_
          refine lv_iload_n (pc := 68) hx hb dX3_join_68 rfl (lv_at hl 1 rfl) ?_
          refine lv_iload_n (pc := 69) hx hb dX3_join_69 rfl (lv_at hl 2 rfl) ?_
          refine lv_icmp_ge (tgt := 77) (pc := 70) hx hb dX3_join_70 (by decide) (fun hc => ?_) (fun hc => ?_)
          · rw [if_pos hc] at hm
            refine lv_iconst (v := 0) (pc := 77) hx hb dX3_join_77 (by decide) ?_
            rw [← Option.some.inj hm]
            exact W.iret hx hb hr (fun t ht _ => ⟨rfl, ht⟩) (fun _ h => by cases h) dX3_join_78 hlocks
          · rw [if_neg hc] at hm
            refine lv_iconst (v := 1) (pc := 73) hx hb dX3_join_73 (by decide) ?_
            refine lv_goto (tgt := 78) (pc := 74) hx hb dX3_join_74 (by decide) ?_
            rw [← Option.some.inj hm]
            exact W.iret hx hb hr (fun t ht _ => ⟨rfl, ht⟩) (fun _ h => by cases h) dX3_join_78 hlocks
        · rw [if_neg hs3] at hm
          by_cases hs4 : step = (-7)
          · rw [if_pos hs4] at hm
            rw [hs4]
            refine lv_tableIn (tgt := 54) (pc := 1) hx hb dX3_join_1 (by decide) (by decide) rfl (by decide) ?_
            refine lv_iload_n (pc := 54) hx hb dX3_join_54 rfl (lv_at hl 1 rfl) ?_
            refine lv_if_ne (tgt := 62) (pc := 55) hx hb dX3_join_55 (by decide) (fun hc => ?_) (fun hc => ?_)
            · rw [if_neg hc] at hm
              refine lv_iconst (v := 1) (pc := 62) hx hb dX3_join_62 (by decide) ?_
              refine lv_goto (tgt := 67) (pc := 63) hx hb dX3_join_63 (by decide) ?_
              rw [← Option.some.inj hm]
              exact W.iret hx hb hr (fun t ht _ => ⟨rfl, ht⟩) (fun _ h => by cases h) dX3_join_67 hlocks
            · rw [if_pos hc] at hm
              refine lv_iload_n (pc := 58) hx hb dX3_join_58 rfl (lv_at hl 2 rfl) ?_
              refine lv_if_eq (tgt := 66) (pc := 59) hx hb dX3_join_59 (by decide) (fun hc => ?_) (fun hc => ?_)
              · rw [if_pos hc] at hm
                refine lv_iconst (v := 0) (pc := 66) hx hb dX3_join_66 (by decide) ?_
                rw [← Option.some.inj hm]
                exact W.iret hx hb hr (fun t ht _ => ⟨rfl, ht⟩) (fun _ h => by cases h) dX3_join_67 hlocks
              · rw [if_neg hc] at hm
                refine lv_iconst (v := 1) (pc := 62) hx hb dX3_join_62 (by decide) ?_
                refine lv_goto (tgt := 67) (pc := 63) hx hb dX3_join_63 (by decide) ?_
                rw [← Option.some.inj hm]
                exact W.iret hx hb hr (fun t ht _ => ⟨rfl, ht⟩) (fun _ h => by cases h) dX3_join_67 hlocks
          · rw [if_neg hs4] at hm
            by_cases hs5 : step = (-6)
            · rw [if_pos hs5] at hm
              rw [hs5]
              refine lv_tableIn (tgt := 40) (pc := 1) hx hb dX3_join_1 (by decide) (by decide) rfl (by decide) ?_
              refine lv_iload_n (pc := 40) hx hb dX3_join_40 rfl (lv_at hl 1 rfl) ?_
              refine lv_if_eq (tgt := 52) (pc := 41) hx hb dX3_join_41 (by decide) (fun hc => ?_) (fun hc => ?_)
              · rw [if_pos hc] at hm
                refine lv_iconst (v := 0) (pc := 52) hx hb dX3_join_52 (by decide) ?_
                rw [← Option.some.inj hm]
                exact W.iret hx hb hr (fun t ht _ => ⟨rfl, ht⟩) (fun _ h => by cases h) dX3_join_53 hlocks
              · rw [if_neg hc] at hm
                refine lv_iload_n (pc := 44) hx hb dX3_join_44 rfl (lv_at hl 2 rfl) ?_
                refine lv_if_eq (tgt := 52) (pc := 45) hx hb dX3_join_45 (by decide) (fun hc => ?_) (fun hc => ?_)
                · rw [if_pos hc] at hm
                  refine lv_iconst (v := 0) (pc := 52) hx hb dX3_join_52 (by decide) ?_
                  rw [← Option.some.inj hm]
                  exact W.iret hx hb hr (fun t ht _ => ⟨rfl, ht⟩) (fun _ h => by cases h) dX3_join_53 hlocks
                · rw [if_neg hc] at hm
                  refine lv_iconst (v := 1) (pc := 48) hx hb dX3_join_48 (by decide) ?_
                  refine lv_goto (tgt := 53) (pc := 49) hx hb dX3_join_49 (by decide) ?_
                  rw [← Option.some.inj hm]
                  exact W.iret hx hb hr (fun t ht _ => ⟨rfl, ht⟩) (fun _ h => by cases h) dX3_join_53 hlocks
            · rw [if_neg hs5] at hm
              refine lv_tableOut (tgt := 98) (pc := 1) hx hb dX3_join_1 (sw_out (by decide) (by decide) (by intro v h1 h2; rcases (show v = (-11) ∨ v = (-10) ∨ v = (-9) ∨ v = (-8) ∨ v = (-7) ∨ v = (-6) by omega) with rfl | rfl | rfl | rfl | rfl | rfl <;> assumption)) (by decide) ?_
              refine lv_iload_n (pc := 98) hx hb dX3_join_98 rfl (lv_at hl 1 rfl) ?_
              refine lv_iload_n (pc := 99) hx hb dX3_join_99 rfl (lv_at hl 2 rfl) ?_
              refine lv_imul (pc := 100) hx hb dX3_join_100 ?_
              rw [← Option.some.inj hm]
              exact W.iret hx hb hr (fun t ht _ => ⟨rfl, ht⟩) (fun _ h => by cases h) dX3_join_101 hlocks
theorem dX3_tell_0 : decode cX3_tell 0 = .ok (.iconst 0, 1) := by decide +kernel
theorem dX3_tell_1 : decode cX3_tell 1 = .ok (.istore 5, 2) := by decide +kernel
theorem dX3_tell_3 : decode cX3_tell 3 = .ok (.iconst 0, 1) := by decide +kernel
theorem dX3_tell_4 : decode cX3_tell 4 = .ok (.istore 6, 2) := by decide +kernel
theorem dX3_tell_6 : decode cX3_tell 6 = .ok (.iload 6, 2) := by decide +kernel
theorem dX3_tell_8 : decode cX3_tell 8 = .ok (.aload_n 0, 1) := by decide +kernel
theorem dX3_tell_9 : decode cX3_tell 9 = .ok (.getfield 25, 3) := by decide +kernel
theorem dX3_tell_12 : decode cX3_tell 12 = .ok (.if_icmp .ge 186, 3) := by decide +kernel
theorem dX3_tell_15 : decode cX3_tell 15 = .ok (.iload 6, 2) := by decide +kernel
theorem dX3_tell_17 : decode cX3_tell 17 = .ok (.aload_n 0, 1) := by decide +kernel
theorem dX3_tell_18 : decode cX3_tell 18 = .ok (.getfield 11, 3) := by decide +kernel
theorem dX3_tell_21 : decode cX3_tell 21 = .ok (.arraylength, 1) := by decide +kernel
theorem dX3_tell_22 : decode cX3_tell 22 = .ok (.if_icmp .ge 176, 3) := by decide +kernel
theorem dX3_tell_25 : decode cX3_tell 25 = .ok (.aload_n 0, 1) := by decide +kernel
theorem dX3_tell_26 : decode cX3_tell 26 = .ok (.getfield 11, 3) := by decide +kernel
theorem dX3_tell_29 : decode cX3_tell 29 = .ok (.iload 6, 2) := by decide +kernel
theorem dX3_tell_31 : decode cX3_tell 31 = .ok (.iaload, 1) := by decide +kernel
theorem dX3_tell_32 : decode cX3_tell 32 = .ok (.istore 7, 2) := by decide +kernel
theorem dX3_tell_34 : decode cX3_tell 34 = .ok (.iload 7, 2) := by decide +kernel
theorem dX3_tell_36 : decode cX3_tell 36 = .ok (.bipush (-5), 2) := by decide +kernel
theorem dX3_tell_38 : decode cX3_tell 38 = .ok (.if_icmp .le 46, 3) := by decide +kernel
theorem dX3_tell_41 : decode cX3_tell 41 = .ok (.iload 5, 2) := by decide +kernel
theorem dX3_tell_43 : decode cX3_tell 43 = .ok (.aload_n 0, 1) := by decide +kernel
theorem dX3_tell_44 : decode cX3_tell 44 = .ok (.getfield 15, 3) := by decide +kernel
theorem dX3_tell_47 : decode cX3_tell 47 = .ok (.arraylength, 1) := by decide +kernel
theorem dX3_tell_48 : decode cX3_tell 48 = .ok (.if_icmp .ge 36, 3) := by decide +kernel
theorem dX3_tell_51 : decode cX3_tell 51 = .ok (.aload_n 0, 1) := by decide +kernel
theorem dX3_tell_52 : decode cX3_tell 52 = .ok (.getfield 15, 3) := by decide +kernel
theorem dX3_tell_55 : decode cX3_tell 55 = .ok (.iload 5, 2) := by decide +kernel
theorem dX3_tell_57 : decode cX3_tell 57 = .ok (.iload 7, 2) := by decide +kernel
theorem dX3_tell_59 : decode cX3_tell 59 = .ok (.ifCond .lt 8, 3) := by decide +kernel
theorem dX3_tell_62 : decode cX3_tell 62 = .ok (.iload 7, 2) := by decide +kernel
theorem dX3_tell_64 : decode cX3_tell 64 = .ok (.goto 13, 3) := by decide +kernel
theorem dX3_tell_67 : decode cX3_tell 67 = .ok (.iload 7, 2) := by decide +kernel
theorem dX3_tell_69 : decode cX3_tell 69 = .ok (.iload_n 1, 1) := by decide +kernel
theorem dX3_tell_70 : decode cX3_tell 70 = .ok (.iload_n 2, 1) := by decide +kernel
theorem dX3_tell_71 : decode cX3_tell 71 = .ok (.iload_n 3, 1) := by decide +kernel
theorem dX3_tell_72 : decode cX3_tell 72 = .ok (.iload 4, 2) := by decide +kernel
theorem dX3_tell_74 : decode cX3_tell 74 = .ok (.invokestatic 104, 3) := by decide +kernel
theorem dX3_tell_77 : decode cX3_tell 77 = .ok (.iastore, 1) := by decide +kernel
theorem dX3_tell_78 : decode cX3_tell 78 = .ok (.iinc 5 1, 3) := by decide +kernel
theorem dX3_tell_81 : decode cX3_tell 81 = .ok (.goto 111, 3) := by decide +kernel
theorem dX3_tell_84 : decode cX3_tell 84 = .ok (.iload 7, 2) := by decide +kernel
theorem dX3_tell_86 : decode cX3_tell 86 = .ok (.bipush (-5), 2) := by decide +kernel
theorem dX3_tell_88 : decode cX3_tell 88 = .ok (.if_icmp .ne 48, 3) := by decide +kernel
theorem dX3_tell_91 : decode cX3_tell 91 = .ok (.iload 5, 2) := by decide +kernel
theorem dX3_tell_93 : decode cX3_tell 93 = .ok (.iconst 1, 1) := by decide +kernel
theorem dX3_tell_94 : decode cX3_tell 94 = .ok (.if_icmp .lt 42, 3) := by decide +kernel
theorem dX3_tell_97 : decode cX3_tell 97 = .ok (.iload 5, 2) := by decide +kernel
theorem dX3_tell_99 : decode cX3_tell 99 = .ok (.aload_n 0, 1) := by decide +kernel
theorem dX3_tell_100 : decode cX3_tell 100 = .ok (.getfield 15, 3) := by decide +kernel
theorem dX3_tell_103 : decode cX3_tell 103 = .ok (.arraylength, 1) := by decide +kernel
theorem dX3_tell_104 : decode cX3_tell 104 = .ok (.if_icmp .gt 32, 3) := by decide +kernel
theorem dX3_tell_107 : decode cX3_tell 107 = .ok (.aload_n 0, 1) := by decide +kernel
theorem dX3_tell_108 : decode cX3_tell 108 = .ok (.getfield 15, 3) := by decide +kernel
theorem dX3_tell_111 : decode cX3_tell 111 = .ok (.iload 5, 2) := by decide +kernel
theorem dX3_tell_113 : decode cX3_tell 113 = .ok (.iconst 1, 1) := by decide +kernel
theorem dX3_tell_114 : decode cX3_tell 114 = .ok (.isub, 1) := by decide +kernel
theorem dX3_tell_115 : decode cX3_tell 115 = .ok (.aload_n 0, 1) := by decide +kernel
theorem dX3_tell_116 : decode cX3_tell 116 = .ok (.getfield 15, 3) := by decide +kernel
theorem dX3_tell_119 : decode cX3_tell 119 = .ok (.iload 5, 2) := by decide +kernel
theorem dX3_tell_121 : decode cX3_tell 121 = .ok (.iconst 1, 1) := by decide +kernel
theorem dX3_tell_122 : decode cX3_tell 122 = .ok (.isub, 1) := by decide +kernel
theorem dX3_tell_123 : decode cX3_tell 123 = .ok (.iaload, 1) := by decide +kernel
theorem dX3_tell_124 : decode cX3_tell 124 = .ok (.ifCond .ne 7, 3) := by decide +kernel
theorem dX3_tell_127 : decode cX3_tell 127 = .ok (.iconst 1, 1) := by decide +kernel
theorem dX3_tell_128 : decode cX3_tell 128 = .ok (.goto 4, 3) := by decide +kernel
theorem dX3_tell_131 : decode cX3_tell 131 = .ok (.iconst 0, 1) := by decide +kernel
theorem dX3_tell_132 : decode cX3_tell 132 = .ok (.iastore, 1) := by decide +kernel
theorem dX3_tell_133 : decode cX3_tell 133 = .ok (.goto 59, 3) := by decide +kernel
theorem dX3_tell_136 : decode cX3_tell 136 = .ok (.iload 7, 2) := by decide +kernel
theorem dX3_tell_138 : decode cX3_tell 138 = .ok (.bipush (-5), 2) := by decide +kernel
theorem dX3_tell_140 : decode cX3_tell 140 = .ok (.if_icmp .ge 52, 3) := by decide +kernel
theorem dX3_tell_143 : decode cX3_tell 143 = .ok (.iload 5, 2) := by decide +kernel
theorem dX3_tell_145 : decode cX3_tell 145 = .ok (.iconst 2, 1) := by decide +kernel
theorem dX3_tell_146 : decode cX3_tell 146 = .ok (.if_icmp .lt 46, 3) := by decide +kernel
theorem dX3_tell_149 : decode cX3_tell 149 = .ok (.iload 5, 2) := by decide +kernel
theorem dX3_tell_151 : decode cX3_tell 151 = .ok (.aload_n 0, 1) := by decide +kernel
theorem dX3_tell_152 : decode cX3_tell 152 = .ok (.getfield 15, 3) := by decide +kernel
theorem dX3_tell_155 : decode cX3_tell 155 = .ok (.arraylength, 1) := by decide +kernel
theorem dX3_tell_156 : decode cX3_tell 156 = .ok (.if_icmp .gt 36, 3) := by decide +kernel
theorem dX3_tell_159 : decode cX3_tell 159 = .ok (.iinc 5 (-1), 3) := by decide +kernel
theorem dX3_tell_162 : decode cX3_tell 162 = .ok (.aload_n 0, 1) := by decide +kernel
theorem dX3_tell_163 : decode cX3_tell 163 = .ok (.getfield 15, 3) := by decide +kernel
theorem dX3_tell_166 : decode cX3_tell 166 = .ok (.iload 5, 2) := by decide +kernel
theorem dX3_tell_168 : decode cX3_tell 168 = .ok (.iconst 1, 1) := by decide +kernel
theorem dX3_tell_169 : decode cX3_tell 169 = .ok (.isub, 1) := by decide +kernel
theorem dX3_tell_170 : decode cX3_tell 170 = .ok (.iload 7, 2) := by decide +kernel
theorem dX3_tell_172 : decode cX3_tell 172 = .ok (.aload_n 0, 1) := by decide +kernel
theorem dX3_tell_173 : decode cX3_tell 173 = .ok (.getfield 15, 3) := by decide +kernel
theorem dX3_tell_176 : decode cX3_tell 176 = .ok (.iload 5, 2) := by decide +kernel
theorem dX3_tell_178 : decode cX3_tell 178 = .ok (.iconst 1, 1) := by decide +kernel
theorem dX3_tell_179 : decode cX3_tell 179 = .ok (.isub, 1) := by decide +kernel
theorem dX3_tell_180 : decode cX3_tell 180 = .ok (.iaload, 1) := by decide +kernel
theorem dX3_tell_181 : decode cX3_tell 181 = .ok (.aload_n 0, 1) := by decide +kernel
theorem dX3_tell_182 : decode cX3_tell 182 = .ok (.getfield 15, 3) := by decide +kernel
theorem dX3_tell_185 : decode cX3_tell 185 = .ok (.iload 5, 2) := by decide +kernel
theorem dX3_tell_187 : decode cX3_tell 187 = .ok (.iaload, 1) := by decide +kernel
theorem dX3_tell_188 : decode cX3_tell 188 = .ok (.invokestatic 108, 3) := by decide +kernel
theorem dX3_tell_191 : decode cX3_tell 191 = .ok (.iastore, 1) := by decide +kernel
theorem dX3_tell_192 : decode cX3_tell 192 = .ok (.iinc 6 1, 3) := by decide +kernel
theorem dX3_tell_195 : decode cX3_tell 195 = .ok (.goto (-189), 3) := by decide +kernel
theorem dX3_tell_198 : decode cX3_tell 198 = .ok (.aload_n 0, 1) := by decide +kernel
theorem dX3_tell_199 : decode cX3_tell 199 = .ok (.getfield 15, 3) := by decide +kernel
theorem dX3_tell_202 : decode cX3_tell 202 = .ok (.iconst 0, 1) := by decide +kernel
theorem dX3_tell_203 : decode cX3_tell 203 = .ok (.iaload, 1) := by decide +kernel
theorem dX3_tell_204 : decode cX3_tell 204 = .ok (.ireturn, 1) := by decide +kernel
abbrev wd_X3_tell (k : Nat → ClassId) (this : Nat) (this_steps : Nat) (this_steps_f : Nat → Int32) (this_stack : Nat) (this_stack_f : Nat → Int32) (this_size : Int32) : va_W := [(this, .inr (2, [.ref this_steps, .ref this_stack, .int this_size])), (this_steps, .inl (k 0, 1000, .inl this_steps_f)), (this_stack, .inl (k 0, 21, .inl this_stack_f))]
set_option maxHeartbeats 4000000 in
set_option maxRecDepth 100000 in
theorem c_X3_tell (l : Launch) (D : va_G) (k : Nat → ClassId) (this : Nat) (this_steps : Nat) (this_steps_f : Nat → Int32) (this_stack : Nat) (this_stack_f : Nat → Int32) (this_size : Int32) (gone : Int32) (high : Int32) (felt : Int32) (date : Int32) (R0 : Int32 × (Nat → Int32)) (hm : m_X3_tell this_steps_f this_stack_f this_size gone high felt date = some R0) : CW l D (TY k) yX3_tell cX3_tell 8 (some .int) 1 24 [.ref this, .int gone, .int high, .int felt, .int date] (wd_X3_tell k this this_steps this_steps_f this_stack this_stack_f this_size) (some (.int R0.1)) (wd_X3_tell k this this_steps this_steps_f this_stack R0.2 this_size) := by
  refine CW.mk (by decide) (Nat.le_of_ble_eq_true rfl) ?_
  intro p e s m args below meth c ls A ⟨hx, hb, hr, hts, hown, hlocks, hml⟩ hP hG hD hA hl hS hq
  have hl : lv_has ls 8 [(0, .ref this), (1, .int gone), (2, .int high), (3, .int felt), (4, .int date)] := hl
  have h_136 : ∀ (K6 : Int32 → Int32 → (Nat → Int32) → Option (Int32 × (Nat → Int32))) (hK6 : ∀ (x5 : Int32) (x6 : Int32) (u_this_stack_f : Nat → Int32) (H : Heap) (locs : List Loc) (ls : Array Slot), va_P D vwCl (wd_X3_tell k this this_steps this_steps_f this_stack u_this_stack_f this_size) H → va_D A (wd_X3_tell k this this_steps this_steps_f this_stack u_this_stack_f this_size) → va_S A s.heap H locs → lv_has ls 8 [(0, .ref this), (1, .int gone), (2, .int high), (3, .int felt), (4, .int date), (5, .int x5), (6, .int x6)] → K6 x5 x6 u_this_stack_f = some R0 → W p l e (Rm 1 24) s m args below meth c H locs 0 0 (MQ below (QW D (some (.int R0.1)) (wd_X3_tell k this this_steps this_steps_f this_stack this_stack_f this_size) (wd_X3_tell k this this_steps this_steps_f this_stack R0.2 this_size) s.heap.size) args s 0 0 A) (F0 m 6 ls [])), ∀ (x5 : Int32) (x6 : Int32) (x7 : Int32) (u_this_stack_f : Nat → Int32) (H : Heap) (locs : List Loc) (ls : Array Slot), va_P D vwCl (wd_X3_tell k this this_steps this_steps_f this_stack u_this_stack_f this_size) H → va_D A (wd_X3_tell k this this_steps this_steps_f this_stack u_this_stack_f this_size) → va_S A s.heap H locs → lv_has ls 8 [(0, .ref this), (1, .int gone), (2, .int high), (3, .int felt), (4, .int date), (5, .int x5), (6, .int x6), (7, .int x7)] → m_X3_tell_136 this_steps_f this_size gone high felt date K6 x5 x6 x7 u_this_stack_f = some R0 → W p l e (Rm 1 24) s m args below meth c H locs 0 0 (MQ below (QW D (some (.int R0.1)) (wd_X3_tell k this this_steps this_steps_f this_stack this_stack_f this_size) (wd_X3_tell k this this_steps this_steps_f this_stack R0.2 this_size) s.heap.size) args s 0 0 A) (F0 m 136 ls []) := by
    intro K6 hK6 x5 x6 x7 u_this_stack_f H locs ls hP hD hS hl hm
    unfold m_X3_tell_136 at hm
    refine lv_iload (pc := 136) hx hb dX3_tell_136 (lv_at hl 7 rfl) ?_
    refine lv_bipush (v := (-5)) (pc := 138) hx hb dX3_tell_138 (by decide) ?_
    refine lv_icmp_ge (tgt := 192) (pc := 140) hx hb dX3_tell_140 (by decide) (fun hc => ?_) (fun hc => ?_)
    · rw [if_pos hc] at hm
      refine lv_iinc (k := 6) (v := x6 + 1) (lv' := [(6, .int (x6 + 1)), (0, .ref this), (1, .int gone), (2, .int high), (3, .int felt), (4, .int date), (5, .int x5), (7, .int x7)]) (pc := 192) hx hb dX3_tell_192 hl rfl rfl (Nat.le_of_ble_eq_true rfl) rfl (fun ls hl => ?_)
      refine lv_goto (tgt := 6) (pc := 195) hx hb dX3_tell_195 (by decide) ?_
      exact hK6 x5 (x6 + 1) u_this_stack_f H locs ls hP hD hS (lv_sub hl [1, 2, 3, 4, 5, 6, 0] rfl) hm
    · rw [if_neg hc] at hm
      refine lv_iload (pc := 143) hx hb dX3_tell_143 (lv_at hl 5 rfl) ?_
      refine lv_iconst (v := 2) (pc := 145) hx hb dX3_tell_145 (by decide) ?_
      refine lv_icmp_lt (tgt := 192) (pc := 146) hx hb dX3_tell_146 (by decide) (fun hc => ?_) (fun hc => ?_)
      · rw [if_pos hc] at hm
        refine lv_iinc (k := 6) (v := x6 + 1) (lv' := [(6, .int (x6 + 1)), (0, .ref this), (1, .int gone), (2, .int high), (3, .int felt), (4, .int date), (5, .int x5), (7, .int x7)]) (pc := 192) hx hb dX3_tell_192 hl rfl rfl (Nat.le_of_ble_eq_true rfl) rfl (fun ls hl => ?_)
        refine lv_goto (tgt := 6) (pc := 195) hx hb dX3_tell_195 (by decide) ?_
        exact hK6 x5 (x6 + 1) u_this_stack_f H locs ls hP hD hS (lv_sub hl [1, 2, 3, 4, 5, 6, 0] rfl) hm
      · rw [if_neg hc] at hm
        refine lv_iload (pc := 149) hx hb dX3_tell_149 (lv_at hl 5 rfl) ?_
        refine lv_aload_n (pc := 151) hx hb dX3_tell_151 rfl (lv_at hl 0 rfl) ?_
        refine va_get (pc := 152) (D := D) (ci := 2) (C := RX3) (T := TX3) (N := 3) hx hb hts hiX3 hown hG.1 hP 0 rfl rfl 1 (Nat.le_of_ble_eq_true rfl) (hts _ kw_185) (fun _ h9 => h9) rfl dX3_tell_152 ?_
        refine va_alen (pc := 155) (D := D) (v := 21) hx hb hG.1 hP 2 0 rfl rfl rfl dX3_tell_155 ?_
        refine lv_icmp_gt (tgt := 192) (pc := 156) hx hb dX3_tell_156 (by decide) (fun hc => ?_) (fun hc => ?_)
        · rw [if_pos hc] at hm
          refine lv_iinc (k := 6) (v := x6 + 1) (lv' := [(6, .int (x6 + 1)), (0, .ref this), (1, .int gone), (2, .int high), (3, .int felt), (4, .int date), (5, .int x5), (7, .int x7)]) (pc := 192) hx hb dX3_tell_192 hl rfl rfl (Nat.le_of_ble_eq_true rfl) rfl (fun ls hl => ?_)
          refine lv_goto (tgt := 6) (pc := 195) hx hb dX3_tell_195 (by decide) ?_
          exact hK6 x5 (x6 + 1) u_this_stack_f H locs ls hP hD hS (lv_sub hl [1, 2, 3, 4, 5, 6, 0] rfl) hm
        · rw [if_neg hc] at hm
          refine lv_iinc (k := 5) (v := x5 + (-1)) (lv' := [(5, .int (x5 + (-1))), (0, .ref this), (1, .int gone), (2, .int high), (3, .int felt), (4, .int date), (6, .int x6), (7, .int x7)]) (pc := 159) hx hb dX3_tell_159 hl rfl rfl (Nat.le_of_ble_eq_true rfl) rfl (fun ls hl => ?_)
          refine lv_aload_n (pc := 162) hx hb dX3_tell_162 rfl (lv_at hl 1 rfl) ?_
          refine va_get (pc := 163) (D := D) (ci := 2) (C := RX3) (T := TX3) (N := 3) hx hb hts hiX3 hown hG.1 hP 0 rfl rfl 1 (Nat.le_of_ble_eq_true rfl) (hts _ kw_185) (fun _ h9 => h9) rfl dX3_tell_163 ?_
          refine lv_iload (pc := 166) hx hb dX3_tell_166 (lv_at hl 0 rfl) ?_
          refine lv_iconst (v := 1) (pc := 168) hx hb dX3_tell_168 (by decide) ?_
          refine lv_isub (pc := 169) hx hb dX3_tell_169 ?_
          refine lv_iload (pc := 170) hx hb dX3_tell_170 (lv_at hl 7 rfl) ?_
          refine lv_aload_n (pc := 172) hx hb dX3_tell_172 rfl (lv_at hl 1 rfl) ?_
          refine va_get (pc := 173) (D := D) (ci := 2) (C := RX3) (T := TX3) (N := 3) hx hb hts hiX3 hown hG.1 hP 0 rfl rfl 1 (Nat.le_of_ble_eq_true rfl) (hts _ kw_185) (fun _ h9 => h9) rfl dX3_tell_173 ?_
          refine lv_iload (pc := 176) hx hb dX3_tell_176 (lv_at hl 0 rfl) ?_
          refine lv_iconst (v := 1) (pc := 178) hx hb dX3_tell_178 (by decide) ?_
          refine lv_isub (pc := 179) hx hb dX3_tell_179 ?_
          obtain ⟨hin, hm⟩ := gd hm
          refine va_iald (pc := 180) (D := D) hx hb hG.1 hP 2 0 rfl rfl hin dX3_tell_180 ?_
          refine lv_aload_n (pc := 181) hx hb dX3_tell_181 rfl (lv_at hl 1 rfl) ?_
          refine va_get (pc := 182) (D := D) (ci := 2) (C := RX3) (T := TX3) (N := 3) hx hb hts hiX3 hown hG.1 hP 0 rfl rfl 1 (Nat.le_of_ble_eq_true rfl) (hts _ kw_185) (fun _ h9 => h9) rfl dX3_tell_182 ?_
          refine lv_iload (pc := 185) hx hb dX3_tell_185 (lv_at hl 0 rfl) ?_
          obtain ⟨hin, hm⟩ := gd hm
          refine va_iald (pc := 187) (D := D) hx hb hG.1 hP 2 0 rfl rfl hin dX3_tell_187 ?_
          obtain ⟨r3, hcl, hm⟩ := bd hm
          refine cr_back (run_S (pc := 188) (n := 3) (As := [.int x7, .int (u_this_stack_f ((x5 + (-1)) - 1).toNatClampNeg), .int (u_this_stack_f (x5 + (-1)).toNatClampNeg)]) (rest := [.int ((x5 + (-1)) - 1), .ref this_stack]) ⟨hx, hb, hml, hown, hts⟩ (c_X3_join l D k x7 (u_this_stack_f ((x5 + (-1)) - 1).toNatClampNeg) (u_this_stack_f (x5 + (-1)).toNatClampNeg) r3 hcl) ⟨kw_824, kw_10, by decide +kernel⟩ kw_822 kw_823 ⟨Nat.le_of_ble_eq_true rfl, Nat.le_of_ble_eq_true rfl⟩ pr_blind (prR (hP.sub [] rfl) hG) rfl hl.1 rfl (Nat.le_of_ble_eq_true rfl) dX3_tell_188 ⟨Nat.zero_le _, Nat.zero_le _⟩) ?_
          obtain ⟨hin, hm⟩ := gd hm
          refine va_iast (pc := 191) (D := D) hx hb hG.1 hP hD hS 2 0 rfl rfl hin dX3_tell_191 (fun H locs hP hD hS => ?_)
          have hP : va_P D vwCl (wd_X3_tell k this this_steps this_steps_f this_stack (upd u_this_stack_f ((x5 + (-1)) - 1).toNatClampNeg r3) this_size) H := hP
          have hD : va_D A (wd_X3_tell k this this_steps this_steps_f this_stack (upd u_this_stack_f ((x5 + (-1)) - 1).toNatClampNeg r3) this_size) := hD
          refine lv_iinc (k := 6) (v := x6 + 1) (lv' := [(6, .int (x6 + 1)), (5, .int (x5 + (-1))), (0, .ref this), (1, .int gone), (2, .int high), (3, .int felt), (4, .int date), (7, .int x7)]) (pc := 192) hx hb dX3_tell_192 hl rfl rfl (Nat.le_of_ble_eq_true rfl) rfl (fun ls hl => ?_)
          refine lv_goto (tgt := 6) (pc := 195) hx hb dX3_tell_195 (by decide) ?_
          exact hK6 (x5 + (-1)) (x6 + 1) (upd u_this_stack_f ((x5 + (-1)) - 1).toNatClampNeg r3) H locs ls hP hD hS (lv_sub hl [2, 3, 4, 5, 6, 1, 0] rfl) hm
  have h_132 : ∀ (K6 : Int32 → Int32 → (Nat → Int32) → Option (Int32 × (Nat → Int32))) (hK6 : ∀ (x5 : Int32) (x6 : Int32) (u_this_stack_f : Nat → Int32) (H : Heap) (locs : List Loc) (ls : Array Slot), va_P D vwCl (wd_X3_tell k this this_steps this_steps_f this_stack u_this_stack_f this_size) H → va_D A (wd_X3_tell k this this_steps this_steps_f this_stack u_this_stack_f this_size) → va_S A s.heap H locs → lv_has ls 8 [(0, .ref this), (1, .int gone), (2, .int high), (3, .int felt), (4, .int date), (5, .int x5), (6, .int x6)] → K6 x5 x6 u_this_stack_f = some R0 → W p l e (Rm 1 24) s m args below meth c H locs 0 0 (MQ below (QW D (some (.int R0.1)) (wd_X3_tell k this this_steps this_steps_f this_stack this_stack_f this_size) (wd_X3_tell k this this_steps this_steps_f this_stack R0.2 this_size) s.heap.size) args s 0 0 A) (F0 m 6 ls [])), ∀ (x5 : Int32) (x6 : Int32) (t0 : Int32) (t1 : Int32) (u_this_stack_f : Nat → Int32) (H : Heap) (locs : List Loc) (ls : Array Slot), va_P D vwCl (wd_X3_tell k this this_steps this_steps_f this_stack u_this_stack_f this_size) H → va_D A (wd_X3_tell k this this_steps this_steps_f this_stack u_this_stack_f this_size) → va_S A s.heap H locs → lv_has ls 8 [(0, .ref this), (1, .int gone), (2, .int high), (3, .int felt), (4, .int date), (5, .int x5), (6, .int x6)] → m_X3_tell_132 this_steps_f this_size gone high felt date K6 x5 x6 t0 t1 u_this_stack_f = some R0 → W p l e (Rm 1 24) s m args below meth c H locs 0 0 (MQ below (QW D (some (.int R0.1)) (wd_X3_tell k this this_steps this_steps_f this_stack this_stack_f this_size) (wd_X3_tell k this this_steps this_steps_f this_stack R0.2 this_size) s.heap.size) args s 0 0 A) (F0 m 132 ls [.int t0, .int t1, .ref this_stack]) := by
    intro K6 hK6 x5 x6 t0 t1 u_this_stack_f H locs ls hP hD hS hl hm
    unfold m_X3_tell_132 at hm
    obtain ⟨hin, hm⟩ := gd hm
    refine va_iast (pc := 132) (D := D) hx hb hG.1 hP hD hS 2 0 rfl rfl hin dX3_tell_132 (fun H locs hP hD hS => ?_)
    have hP : va_P D vwCl (wd_X3_tell k this this_steps this_steps_f this_stack (upd u_this_stack_f t1.toNatClampNeg t0) this_size) H := hP
    have hD : va_D A (wd_X3_tell k this this_steps this_steps_f this_stack (upd u_this_stack_f t1.toNatClampNeg t0) this_size) := hD
    refine lv_goto (tgt := 192) (pc := 133) hx hb dX3_tell_133 (by decide) ?_
    refine lv_iinc (k := 6) (v := x6 + 1) (lv' := [(6, .int (x6 + 1)), (0, .ref this), (1, .int gone), (2, .int high), (3, .int felt), (4, .int date), (5, .int x5)]) (pc := 192) hx hb dX3_tell_192 hl rfl rfl (Nat.le_of_ble_eq_true rfl) rfl (fun ls hl => ?_)
    refine lv_goto (tgt := 6) (pc := 195) hx hb dX3_tell_195 (by decide) ?_
    exact hK6 x5 (x6 + 1) (upd u_this_stack_f t1.toNatClampNeg t0) H locs ls hP hD hS (lv_sub hl [1, 2, 3, 4, 5, 6, 0] rfl) hm
  have h_84 : ∀ (K6 : Int32 → Int32 → (Nat → Int32) → Option (Int32 × (Nat → Int32))) (hK6 : ∀ (x5 : Int32) (x6 : Int32) (u_this_stack_f : Nat → Int32) (H : Heap) (locs : List Loc) (ls : Array Slot), va_P D vwCl (wd_X3_tell k this this_steps this_steps_f this_stack u_this_stack_f this_size) H → va_D A (wd_X3_tell k this this_steps this_steps_f this_stack u_this_stack_f this_size) → va_S A s.heap H locs → lv_has ls 8 [(0, .ref this), (1, .int gone), (2, .int high), (3, .int felt), (4, .int date), (5, .int x5), (6, .int x6)] → K6 x5 x6 u_this_stack_f = some R0 → W p l e (Rm 1 24) s m args below meth c H locs 0 0 (MQ below (QW D (some (.int R0.1)) (wd_X3_tell k this this_steps this_steps_f this_stack this_stack_f this_size) (wd_X3_tell k this this_steps this_steps_f this_stack R0.2 this_size) s.heap.size) args s 0 0 A) (F0 m 6 ls [])), ∀ (x5 : Int32) (x6 : Int32) (x7 : Int32) (u_this_stack_f : Nat → Int32) (H : Heap) (locs : List Loc) (ls : Array Slot), va_P D vwCl (wd_X3_tell k this this_steps this_steps_f this_stack u_this_stack_f this_size) H → va_D A (wd_X3_tell k this this_steps this_steps_f this_stack u_this_stack_f this_size) → va_S A s.heap H locs → lv_has ls 8 [(0, .ref this), (1, .int gone), (2, .int high), (3, .int felt), (4, .int date), (5, .int x5), (6, .int x6), (7, .int x7)] → m_X3_tell_84 this_steps_f this_size gone high felt date K6 x5 x6 x7 u_this_stack_f = some R0 → W p l e (Rm 1 24) s m args below meth c H locs 0 0 (MQ below (QW D (some (.int R0.1)) (wd_X3_tell k this this_steps this_steps_f this_stack this_stack_f this_size) (wd_X3_tell k this this_steps this_steps_f this_stack R0.2 this_size) s.heap.size) args s 0 0 A) (F0 m 84 ls []) := by
    intro K6 hK6 x5 x6 x7 u_this_stack_f H locs ls hP hD hS hl hm
    unfold m_X3_tell_84 at hm
    refine lv_iload (pc := 84) hx hb dX3_tell_84 (lv_at hl 7 rfl) ?_
    refine lv_bipush (v := (-5)) (pc := 86) hx hb dX3_tell_86 (by decide) ?_
    refine lv_icmp_ne (tgt := 136) (pc := 88) hx hb dX3_tell_88 (by decide) (fun hc => ?_) (fun hc => ?_)
    · rw [if_neg hc] at hm
      exact h_136 K6 hK6 x5 x6 x7 u_this_stack_f H locs ls hP hD hS (lv_sub hl [0, 1, 2, 3, 4, 5, 6, 7] rfl) hm
    · rw [if_pos hc] at hm
      refine lv_iload (pc := 91) hx hb dX3_tell_91 (lv_at hl 5 rfl) ?_
      refine lv_iconst (v := 1) (pc := 93) hx hb dX3_tell_93 (by decide) ?_
      refine lv_icmp_lt (tgt := 136) (pc := 94) hx hb dX3_tell_94 (by decide) (fun hc => ?_) (fun hc => ?_)
      · rw [if_pos hc] at hm
        exact h_136 K6 hK6 x5 x6 x7 u_this_stack_f H locs ls hP hD hS (lv_sub hl [0, 1, 2, 3, 4, 5, 6, 7] rfl) hm
      · rw [if_neg hc] at hm
        refine lv_iload (pc := 97) hx hb dX3_tell_97 (lv_at hl 5 rfl) ?_
        refine lv_aload_n (pc := 99) hx hb dX3_tell_99 rfl (lv_at hl 0 rfl) ?_
        refine va_get (pc := 100) (D := D) (ci := 2) (C := RX3) (T := TX3) (N := 3) hx hb hts hiX3 hown hG.1 hP 0 rfl rfl 1 (Nat.le_of_ble_eq_true rfl) (hts _ kw_185) (fun _ h9 => h9) rfl dX3_tell_100 ?_
        refine va_alen (pc := 103) (D := D) (v := 21) hx hb hG.1 hP 2 0 rfl rfl rfl dX3_tell_103 ?_
        refine lv_icmp_gt (tgt := 136) (pc := 104) hx hb dX3_tell_104 (by decide) (fun hc => ?_) (fun hc => ?_)
        · rw [if_pos hc] at hm
          exact h_136 K6 hK6 x5 x6 x7 u_this_stack_f H locs ls hP hD hS (lv_sub hl [0, 1, 2, 3, 4, 5, 6, 7] rfl) hm
        · rw [if_neg hc] at hm
          refine lv_aload_n (pc := 107) hx hb dX3_tell_107 rfl (lv_at hl 0 rfl) ?_
          refine va_get (pc := 108) (D := D) (ci := 2) (C := RX3) (T := TX3) (N := 3) hx hb hts hiX3 hown hG.1 hP 0 rfl rfl 1 (Nat.le_of_ble_eq_true rfl) (hts _ kw_185) (fun _ h9 => h9) rfl dX3_tell_108 ?_
          refine lv_iload (pc := 111) hx hb dX3_tell_111 (lv_at hl 5 rfl) ?_
          refine lv_iconst (v := 1) (pc := 113) hx hb dX3_tell_113 (by decide) ?_
          refine lv_isub (pc := 114) hx hb dX3_tell_114 ?_
          refine lv_aload_n (pc := 115) hx hb dX3_tell_115 rfl (lv_at hl 0 rfl) ?_
          refine va_get (pc := 116) (D := D) (ci := 2) (C := RX3) (T := TX3) (N := 3) hx hb hts hiX3 hown hG.1 hP 0 rfl rfl 1 (Nat.le_of_ble_eq_true rfl) (hts _ kw_185) (fun _ h9 => h9) rfl dX3_tell_116 ?_
          refine lv_iload (pc := 119) hx hb dX3_tell_119 (lv_at hl 5 rfl) ?_
          refine lv_iconst (v := 1) (pc := 121) hx hb dX3_tell_121 (by decide) ?_
          refine lv_isub (pc := 122) hx hb dX3_tell_122 ?_
          obtain ⟨hin, hm⟩ := gd hm
          refine va_iald (pc := 123) (D := D) hx hb hG.1 hP 2 0 rfl rfl hin dX3_tell_123 ?_
          refine lv_if_ne (tgt := 131) (pc := 124) hx hb dX3_tell_124 (by decide) (fun hc => ?_) (fun hc => ?_)
          · rw [if_neg hc] at hm
            refine lv_iconst (v := 0) (pc := 131) hx hb dX3_tell_131 (by decide) ?_
            exact h_132 K6 hK6 x5 x6 0 (x5 - 1) u_this_stack_f H locs ls hP hD hS (lv_sub hl [0, 1, 2, 3, 4, 5, 6] rfl) hm
          · rw [if_pos hc] at hm
            refine lv_iconst (v := 1) (pc := 127) hx hb dX3_tell_127 (by decide) ?_
            refine lv_goto (tgt := 132) (pc := 128) hx hb dX3_tell_128 (by decide) ?_
            exact h_132 K6 hK6 x5 x6 1 (x5 - 1) u_this_stack_f H locs ls hP hD hS (lv_sub hl [0, 1, 2, 3, 4, 5, 6] rfl) hm
  have h_77 : ∀ (K6 : Int32 → Int32 → (Nat → Int32) → Option (Int32 × (Nat → Int32))) (hK6 : ∀ (x5 : Int32) (x6 : Int32) (u_this_stack_f : Nat → Int32) (H : Heap) (locs : List Loc) (ls : Array Slot), va_P D vwCl (wd_X3_tell k this this_steps this_steps_f this_stack u_this_stack_f this_size) H → va_D A (wd_X3_tell k this this_steps this_steps_f this_stack u_this_stack_f this_size) → va_S A s.heap H locs → lv_has ls 8 [(0, .ref this), (1, .int gone), (2, .int high), (3, .int felt), (4, .int date), (5, .int x5), (6, .int x6)] → K6 x5 x6 u_this_stack_f = some R0 → W p l e (Rm 1 24) s m args below meth c H locs 0 0 (MQ below (QW D (some (.int R0.1)) (wd_X3_tell k this this_steps this_steps_f this_stack this_stack_f this_size) (wd_X3_tell k this this_steps this_steps_f this_stack R0.2 this_size) s.heap.size) args s 0 0 A) (F0 m 6 ls [])), ∀ (x5 : Int32) (x6 : Int32) (t0 : Int32) (t1 : Int32) (u_this_stack_f : Nat → Int32) (H : Heap) (locs : List Loc) (ls : Array Slot), va_P D vwCl (wd_X3_tell k this this_steps this_steps_f this_stack u_this_stack_f this_size) H → va_D A (wd_X3_tell k this this_steps this_steps_f this_stack u_this_stack_f this_size) → va_S A s.heap H locs → lv_has ls 8 [(0, .ref this), (1, .int gone), (2, .int high), (3, .int felt), (4, .int date), (5, .int x5), (6, .int x6)] → m_X3_tell_77 this_steps_f this_size gone high felt date K6 x5 x6 t0 t1 u_this_stack_f = some R0 → W p l e (Rm 1 24) s m args below meth c H locs 0 0 (MQ below (QW D (some (.int R0.1)) (wd_X3_tell k this this_steps this_steps_f this_stack this_stack_f this_size) (wd_X3_tell k this this_steps this_steps_f this_stack R0.2 this_size) s.heap.size) args s 0 0 A) (F0 m 77 ls [.int t0, .int t1, .ref this_stack]) := by
    intro K6 hK6 x5 x6 t0 t1 u_this_stack_f H locs ls hP hD hS hl hm
    unfold m_X3_tell_77 at hm
    obtain ⟨hin, hm⟩ := gd hm
    refine va_iast (pc := 77) (D := D) hx hb hG.1 hP hD hS 2 0 rfl rfl hin dX3_tell_77 (fun H locs hP hD hS => ?_)
    have hP : va_P D vwCl (wd_X3_tell k this this_steps this_steps_f this_stack (upd u_this_stack_f t1.toNatClampNeg t0) this_size) H := hP
    have hD : va_D A (wd_X3_tell k this this_steps this_steps_f this_stack (upd u_this_stack_f t1.toNatClampNeg t0) this_size) := hD
    refine lv_iinc (k := 5) (v := x5 + 1) (lv' := [(5, .int (x5 + 1)), (0, .ref this), (1, .int gone), (2, .int high), (3, .int felt), (4, .int date), (6, .int x6)]) (pc := 78) hx hb dX3_tell_78 hl rfl rfl (Nat.le_of_ble_eq_true rfl) rfl (fun ls hl => ?_)
    refine lv_goto (tgt := 192) (pc := 81) hx hb dX3_tell_81 (by decide) ?_
    refine lv_iinc (k := 6) (v := x6 + 1) (lv' := [(6, .int (x6 + 1)), (5, .int (x5 + 1)), (0, .ref this), (1, .int gone), (2, .int high), (3, .int felt), (4, .int date)]) (pc := 192) hx hb dX3_tell_192 hl rfl rfl (Nat.le_of_ble_eq_true rfl) rfl (fun ls hl => ?_)
    refine lv_goto (tgt := 6) (pc := 195) hx hb dX3_tell_195 (by decide) ?_
    exact hK6 (x5 + 1) (x6 + 1) (upd u_this_stack_f t1.toNatClampNeg t0) H locs ls hP hD hS (lv_sub hl [2, 3, 4, 5, 6, 1, 0] rfl) hm
  have h_6 : ∀ (n : Nat), ∀ (x5 : Int32) (x6 : Int32) (u_this_stack_f : Nat → Int32) (H : Heap) (locs : List Loc) (ls : Array Slot), va_P D vwCl (wd_X3_tell k this this_steps this_steps_f this_stack u_this_stack_f this_size) H → va_D A (wd_X3_tell k this this_steps this_steps_f this_stack u_this_stack_f this_size) → va_S A s.heap H locs → lv_has ls 8 [(0, .ref this), (1, .int gone), (2, .int high), (3, .int felt), (4, .int date), (5, .int x5), (6, .int x6)] → m_X3_tell_6 this_steps_f this_size gone high felt date n x5 x6 u_this_stack_f = some R0 → W p l e (Rm 1 24) s m args below meth c H locs 0 0 (MQ below (QW D (some (.int R0.1)) (wd_X3_tell k this this_steps this_steps_f this_stack this_stack_f this_size) (wd_X3_tell k this this_steps this_steps_f this_stack R0.2 this_size) s.heap.size) args s 0 0 A) (F0 m 6 ls []) := by
    intro n
    induction n with
    | zero => intro x5 x6 u_this_stack_f H locs ls hP hD hS hl hm; cases hm
    | succ n ih =>
      intro x5 x6 u_this_stack_f H locs ls hP hD hS hl hm
      unfold m_X3_tell_6 at hm
      refine lv_iload (pc := 6) hx hb dX3_tell_6 (lv_at hl 6 rfl) ?_
      refine lv_aload_n (pc := 8) hx hb dX3_tell_8 rfl (lv_at hl 0 rfl) ?_
      refine va_get (pc := 9) (D := D) (ci := 2) (C := RX3) (T := TX3) (N := 3) hx hb hts hiX3 hown hG.1 hP 0 rfl rfl 2 (Nat.le_of_ble_eq_true rfl) (hts _ kw_186) (fun _ h9 => h9) rfl dX3_tell_9 ?_
      refine lv_icmp_ge (tgt := 198) (pc := 12) hx hb dX3_tell_12 (by decide) (fun hc => ?_) (fun hc => ?_)
      · rw [if_pos hc] at hm
        refine lv_aload_n (pc := 198) hx hb dX3_tell_198 rfl (lv_at hl 0 rfl) ?_
        refine va_get (pc := 199) (D := D) (ci := 2) (C := RX3) (T := TX3) (N := 3) hx hb hts hiX3 hown hG.1 hP 0 rfl rfl 1 (Nat.le_of_ble_eq_true rfl) (hts _ kw_185) (fun _ h9 => h9) rfl dX3_tell_199 ?_
        refine lv_iconst (v := 0) (pc := 202) hx hb dX3_tell_202 (by decide) ?_
        refine va_iald (pc := 203) (D := D) hx hb hG.1 hP 2 0 rfl rfl (pn_in (Nat.le_of_ble_eq_true rfl) (Nat.le_of_ble_eq_true rfl)) dX3_tell_203 ?_
        rw [← Option.some.inj hm]
        exact W.iret hx hb hr (fun t ht _ => hq _ _ H t ht hP hD locs hS) hS.2.2 dX3_tell_204 hlocks
      · rw [if_neg hc] at hm
        refine lv_iload (pc := 15) hx hb dX3_tell_15 (lv_at hl 6 rfl) ?_
        refine lv_aload_n (pc := 17) hx hb dX3_tell_17 rfl (lv_at hl 0 rfl) ?_
        refine va_get (pc := 18) (D := D) (ci := 2) (C := RX3) (T := TX3) (N := 3) hx hb hts hiX3 hown hG.1 hP 0 rfl rfl 0 (Nat.le_of_ble_eq_true rfl) (hts _ kw_184) (fun _ h9 => h9) rfl dX3_tell_18 ?_
        refine va_alen (pc := 21) (D := D) (v := 1000) hx hb hG.1 hP 1 0 rfl rfl rfl dX3_tell_21 ?_
        refine lv_icmp_ge (tgt := 198) (pc := 22) hx hb dX3_tell_22 (by decide) (fun hc => ?_) (fun hc => ?_)
        · rw [if_pos hc] at hm
          refine lv_aload_n (pc := 198) hx hb dX3_tell_198 rfl (lv_at hl 0 rfl) ?_
          refine va_get (pc := 199) (D := D) (ci := 2) (C := RX3) (T := TX3) (N := 3) hx hb hts hiX3 hown hG.1 hP 0 rfl rfl 1 (Nat.le_of_ble_eq_true rfl) (hts _ kw_185) (fun _ h9 => h9) rfl dX3_tell_199 ?_
          refine lv_iconst (v := 0) (pc := 202) hx hb dX3_tell_202 (by decide) ?_
          refine va_iald (pc := 203) (D := D) hx hb hG.1 hP 2 0 rfl rfl (pn_in (Nat.le_of_ble_eq_true rfl) (Nat.le_of_ble_eq_true rfl)) dX3_tell_203 ?_
          rw [← Option.some.inj hm]
          exact W.iret hx hb hr (fun t ht _ => hq _ _ H t ht hP hD locs hS) hS.2.2 dX3_tell_204 hlocks
        · rw [if_neg hc] at hm
          refine lv_aload_n (pc := 25) hx hb dX3_tell_25 rfl (lv_at hl 0 rfl) ?_
          refine va_get (pc := 26) (D := D) (ci := 2) (C := RX3) (T := TX3) (N := 3) hx hb hts hiX3 hown hG.1 hP 0 rfl rfl 0 (Nat.le_of_ble_eq_true rfl) (hts _ kw_184) (fun _ h9 => h9) rfl dX3_tell_26 ?_
          refine lv_iload (pc := 29) hx hb dX3_tell_29 (lv_at hl 6 rfl) ?_
          obtain ⟨hin, hm⟩ := gd hm
          refine va_iald (pc := 31) (D := D) hx hb hG.1 hP 1 0 rfl rfl hin dX3_tell_31 ?_
          refine lv_istore (lv' := [(7, .int (this_steps_f x6.toNatClampNeg)), (0, .ref this), (1, .int gone), (2, .int high), (3, .int felt), (4, .int date), (5, .int x5), (6, .int x6)]) (pc := 32) hx hb dX3_tell_32 hl (Nat.le_of_ble_eq_true rfl) rfl (fun ls hl => ?_)
          refine lv_iload (pc := 34) hx hb dX3_tell_34 (lv_at hl 0 rfl) ?_
          refine lv_bipush (v := (-5)) (pc := 36) hx hb dX3_tell_36 (by decide) ?_
          refine lv_icmp_le (tgt := 84) (pc := 38) hx hb dX3_tell_38 (by decide) (fun hc => ?_) (fun hc => ?_)
          · rw [if_pos hc] at hm
            exact h_84 (m_X3_tell_6 this_steps_f this_size gone high felt date n) ih x5 x6 (this_steps_f x6.toNatClampNeg) u_this_stack_f H locs ls hP hD hS (lv_sub hl [1, 2, 3, 4, 5, 6, 7, 0] rfl) hm
          · rw [if_neg hc] at hm
            refine lv_iload (pc := 41) hx hb dX3_tell_41 (lv_at hl 6 rfl) ?_
            refine lv_aload_n (pc := 43) hx hb dX3_tell_43 rfl (lv_at hl 1 rfl) ?_
            refine va_get (pc := 44) (D := D) (ci := 2) (C := RX3) (T := TX3) (N := 3) hx hb hts hiX3 hown hG.1 hP 0 rfl rfl 1 (Nat.le_of_ble_eq_true rfl) (hts _ kw_185) (fun _ h9 => h9) rfl dX3_tell_44 ?_
            refine va_alen (pc := 47) (D := D) (v := 21) hx hb hG.1 hP 2 0 rfl rfl rfl dX3_tell_47 ?_
            refine lv_icmp_ge (tgt := 84) (pc := 48) hx hb dX3_tell_48 (by decide) (fun hc => ?_) (fun hc => ?_)
            · rw [if_pos hc] at hm
              exact h_84 (m_X3_tell_6 this_steps_f this_size gone high felt date n) ih x5 x6 (this_steps_f x6.toNatClampNeg) u_this_stack_f H locs ls hP hD hS (lv_sub hl [1, 2, 3, 4, 5, 6, 7, 0] rfl) hm
            · rw [if_neg hc] at hm
              refine lv_aload_n (pc := 51) hx hb dX3_tell_51 rfl (lv_at hl 1 rfl) ?_
              refine va_get (pc := 52) (D := D) (ci := 2) (C := RX3) (T := TX3) (N := 3) hx hb hts hiX3 hown hG.1 hP 0 rfl rfl 1 (Nat.le_of_ble_eq_true rfl) (hts _ kw_185) (fun _ h9 => h9) rfl dX3_tell_52 ?_
              refine lv_iload (pc := 55) hx hb dX3_tell_55 (lv_at hl 6 rfl) ?_
              refine lv_iload (pc := 57) hx hb dX3_tell_57 (lv_at hl 0 rfl) ?_
              refine lv_if_lt (tgt := 67) (pc := 59) hx hb dX3_tell_59 (by decide) (fun hc => ?_) (fun hc => ?_)
              · rw [if_pos hc] at hm
                refine lv_iload (pc := 67) hx hb dX3_tell_67 (lv_at hl 0 rfl) ?_
                refine lv_iload_n (pc := 69) hx hb dX3_tell_69 rfl (lv_at hl 2 rfl) ?_
                refine lv_iload_n (pc := 70) hx hb dX3_tell_70 rfl (lv_at hl 3 rfl) ?_
                refine lv_iload_n (pc := 71) hx hb dX3_tell_71 rfl (lv_at hl 4 rfl) ?_
                refine lv_iload (pc := 72) hx hb dX3_tell_72 (lv_at hl 5 rfl) ?_
                obtain ⟨r4, hcl, hm⟩ := bd hm
                refine cr_back (run_S (pc := 74) (n := 5) (As := [.int (this_steps_f x6.toNatClampNeg), .int gone, .int high, .int felt, .int date]) (rest := [.int x5, .ref this_stack]) ⟨hx, hb, hml, hown, hts⟩ (c_X3_factBy l D k (this_steps_f x6.toNatClampNeg) gone high felt date r4 hcl) ⟨kw_821, kw_10, by decide +kernel⟩ kw_819 kw_820 ⟨Nat.le_of_ble_eq_true rfl, Nat.le_of_ble_eq_true rfl⟩ pr_blind (prR (hP.sub [] rfl) hG) rfl hl.1 rfl (Nat.le_of_ble_eq_true rfl) dX3_tell_74 ⟨Nat.zero_le _, Nat.zero_le _⟩) ?_
                exact h_77 (m_X3_tell_6 this_steps_f this_size gone high felt date n) ih x5 x6 r4 x5 u_this_stack_f H locs ls hP hD hS (lv_sub hl [1, 2, 3, 4, 5, 6, 7] rfl) hm
              · rw [if_neg hc] at hm
                refine lv_iload (pc := 62) hx hb dX3_tell_62 (lv_at hl 0 rfl) ?_
                refine lv_goto (tgt := 77) (pc := 64) hx hb dX3_tell_64 (by decide) ?_
                exact h_77 (m_X3_tell_6 this_steps_f this_size gone high felt date n) ih x5 x6 (this_steps_f x6.toNatClampNeg) x5 u_this_stack_f H locs ls hP hD hS (lv_sub hl [1, 2, 3, 4, 5, 6, 7] rfl) hm
  unfold m_X3_tell at hm
  suffices hgo : ∀ (H : Heap) (locs : List Loc), va_P D vwCl (wd_X3_tell k this this_steps this_steps_f this_stack this_stack_f this_size) H → va_D A (wd_X3_tell k this this_steps this_steps_f this_stack this_stack_f this_size) → va_S A s.heap H locs → W p l e (Rm 1 24) s m args below meth c H locs 0 0 (MQ below (QW D (some (.int R0.1)) (wd_X3_tell k this this_steps this_steps_f this_stack this_stack_f this_size) (wd_X3_tell k this this_steps this_steps_f this_stack R0.2 this_size) s.heap.size) args s 0 0 A) (F0 m 0 ls []) from hgo _ _ hP hD hS
  clear hP hD hS
  intro H locs hP hD hS
  refine lv_iconst (v := 0) (pc := 0) hx hb dX3_tell_0 (by decide) ?_
  refine lv_istore (lv' := [(5, .int 0), (0, .ref this), (1, .int gone), (2, .int high), (3, .int felt), (4, .int date)]) (pc := 1) hx hb dX3_tell_1 hl (Nat.le_of_ble_eq_true rfl) rfl (fun ls hl => ?_)
  refine lv_iconst (v := 0) (pc := 3) hx hb dX3_tell_3 (by decide) ?_
  refine lv_istore (lv' := [(6, .int 0), (5, .int 0), (0, .ref this), (1, .int gone), (2, .int high), (3, .int felt), (4, .int date)]) (pc := 4) hx hb dX3_tell_4 hl (Nat.le_of_ble_eq_true rfl) rfl (fun ls hl => ?_)
  exact h_6 FU 0 0 this_stack_f H locs ls hP hD hS (lv_sub hl [2, 3, 4, 5, 6, 1, 0] rfl) hm
theorem dX8_has_0 : decode cX8_has 0 = .ok (.iload_n 1, 1) := by decide +kernel
theorem dX8_has_1 : decode cX8_has 1 = .ok (.ifCond .lt 15, 3) := by decide +kernel
theorem dX8_has_4 : decode cX8_has 4 = .ok (.iload_n 1, 1) := by decide +kernel
theorem dX8_has_5 : decode cX8_has 5 = .ok (.aload_n 0, 1) := by decide +kernel
theorem dX8_has_6 : decode cX8_has 6 = .ok (.getfield 39, 3) := by decide +kernel
theorem dX8_has_9 : decode cX8_has 9 = .ok (.if_icmp .ge 7, 3) := by decide +kernel
theorem dX8_has_12 : decode cX8_has 12 = .ok (.iconst 1, 1) := by decide +kernel
theorem dX8_has_13 : decode cX8_has 13 = .ok (.goto 4, 3) := by decide +kernel
theorem dX8_has_16 : decode cX8_has 16 = .ok (.iconst 0, 1) := by decide +kernel
theorem dX8_has_17 : decode cX8_has 17 = .ok (.ireturn, 1) := by decide +kernel
abbrev wd_X8_has (k : Nat → ClassId) (this : Nat) (this_names : Nat) (this_kinds : Nat) (this_begin : Nat) (this_law : Nat) (this_persons : Int32) (this_mast : Int32) (this_weighs : Int32) (this_rounds : Int32) (this_toldOnce : Int32) : va_W := [(this, .inr (7, [.ref this_names, .ref this_kinds, .ref this_begin, .ref this_law, .int this_persons, .int this_mast, .int this_weighs, .int this_rounds, .int this_toldOnce]))]
set_option maxHeartbeats 4000000 in
set_option maxRecDepth 100000 in
theorem c_X8_has (l : Launch) (D : va_G) (k : Nat → ClassId) (this : Nat) (this_names : Nat) (this_kinds : Nat) (this_begin : Nat) (this_law : Nat) (this_persons : Int32) (this_mast : Int32) (this_weighs : Int32) (this_rounds : Int32) (this_toldOnce : Int32) (person : Int32) (R0 : Int32) (hm : m_X8_has this_persons person = some R0) : CR l D (TY k) yX8_has cX8_has 2 (some .boolean) 0 0 [.ref this, .int person] (wd_X8_has k this this_names this_kinds this_begin this_law this_persons this_mast this_weighs this_rounds this_toldOnce) (some (.int R0)) := by
  refine CR.mk (by decide) (Nat.le_of_ble_eq_true rfl) ?_
  intro p e s m args below meth c ls ⟨hx, hb, hr, hts, hown, hlocks, hml⟩ hP hG hl
  have hl : lv_has ls 2 [(0, .ref this), (1, .int person)] := hl
  unfold m_X8_has at hm
  refine lv_iload_n (pc := 0) hx hb dX8_has_0 rfl (lv_at hl 1 rfl) ?_
  refine lv_if_lt (tgt := 16) (pc := 1) hx hb dX8_has_1 (by decide) (fun hc => ?_) (fun hc => ?_)
  · rw [if_pos hc] at hm
    refine lv_iconst (v := 0) (pc := 16) hx hb dX8_has_16 (by decide) ?_
    rw [← Option.some.inj hm]
    exact W.zret hx hb hr (nar_bool (Or.inl rfl)) (fun t ht _ => ⟨rfl, ht⟩) (fun _ h => by cases h) dX8_has_17 hlocks
  · rw [if_neg hc] at hm
    refine lv_iload_n (pc := 4) hx hb dX8_has_4 rfl (lv_at hl 1 rfl) ?_
    refine lv_aload_n (pc := 5) hx hb dX8_has_5 rfl (lv_at hl 0 rfl) ?_
    refine va_get (pc := 6) (D := D) (ci := 7) (C := RX8) (T := TX8) (N := 9) hx hb hts hiX8 hown hG.1 hP 0 rfl rfl 4 (Nat.le_of_ble_eq_true rfl) (hts _ kw_202) (fun _ h9 => h9) rfl dX8_has_6 ?_
    refine lv_icmp_ge (tgt := 16) (pc := 9) hx hb dX8_has_9 (by decide) (fun hc => ?_) (fun hc => ?_)
    · rw [if_pos hc] at hm
      refine lv_iconst (v := 0) (pc := 16) hx hb dX8_has_16 (by decide) ?_
      rw [← Option.some.inj hm]
      exact W.zret hx hb hr (nar_bool (Or.inl rfl)) (fun t ht _ => ⟨rfl, ht⟩) (fun _ h => by cases h) dX8_has_17 hlocks
    · rw [if_neg hc] at hm
      refine lv_iconst (v := 1) (pc := 12) hx hb dX8_has_12 (by decide) ?_
      refine lv_goto (tgt := 17) (pc := 13) hx hb dX8_has_13 (by decide) ?_
      rw [← Option.some.inj hm]
      exact W.zret hx hb hr (nar_bool (Or.inr rfl)) (fun t ht _ => ⟨rfl, ht⟩) (fun _ h => by cases h) dX8_has_17 hlocks
theorem dX8_weight_0 : decode cX8_weight 0 = .ok (.aload_n 0, 1) := by decide +kernel
theorem dX8_weight_1 : decode cX8_weight 1 = .ok (.getfield 15, 3) := by decide +kernel
theorem dX8_weight_4 : decode cX8_weight 4 = .ok (.iload_n 1, 1) := by decide +kernel
theorem dX8_weight_5 : decode cX8_weight 5 = .ok (.invokestatic 176, 3) := by decide +kernel
theorem dX8_weight_8 : decode cX8_weight 8 = .ok (.tableswitch 49 1 3 #[28, 41, 45], 28) := by decide +kernel
theorem dX8_weight_36 : decode cX8_weight 36 = .ok (.iload_n 2, 1) := by decide +kernel
theorem dX8_weight_37 : decode cX8_weight 37 = .ok (.ifCond .le 10, 3) := by decide +kernel
theorem dX8_weight_40 : decode cX8_weight 40 = .ok (.iload_n 2, 1) := by decide +kernel
theorem dX8_weight_41 : decode cX8_weight 41 = .ok (.bipush 10, 2) := by decide +kernel
theorem dX8_weight_43 : decode cX8_weight 43 = .ok (.iadd, 1) := by decide +kernel
theorem dX8_weight_44 : decode cX8_weight 44 = .ok (.goto 4, 3) := by decide +kernel
theorem dX8_weight_47 : decode cX8_weight 47 = .ok (.iconst 0, 1) := by decide +kernel
theorem dX8_weight_48 : decode cX8_weight 48 = .ok (.ireturn, 1) := by decide +kernel
theorem dX8_weight_49 : decode cX8_weight 49 = .ok (.iconst 2, 1) := by decide +kernel
theorem dX8_weight_50 : decode cX8_weight 50 = .ok (.iload_n 2, 1) := by decide +kernel
theorem dX8_weight_51 : decode cX8_weight 51 = .ok (.imul, 1) := by decide +kernel
theorem dX8_weight_52 : decode cX8_weight 52 = .ok (.ireturn, 1) := by decide +kernel
theorem dX8_weight_53 : decode cX8_weight 53 = .ok (.iload_n 2, 1) := by decide +kernel
theorem dX8_weight_54 : decode cX8_weight 54 = .ok (.iconst 2, 1) := by decide +kernel
theorem dX8_weight_55 : decode cX8_weight 55 = .ok (.idiv, 1) := by decide +kernel
theorem dX8_weight_56 : decode cX8_weight 56 = .ok (.ireturn, 1) := by decide +kernel
theorem dX8_weight_57 : decode cX8_weight 57 = .ok (.iload_n 2, 1) := by decide +kernel
theorem dX8_weight_58 : decode cX8_weight 58 = .ok (.ireturn, 1) := by decide +kernel
abbrev wd_X8_weight (k : Nat → ClassId) (this : Nat) (this_names : Nat) (this_kinds : Nat) (this_kinds_f : Nat → Int32) (this_begin : Nat) (this_law : Nat) (this_persons : Int32) (this_mast : Int32) (this_weighs : Int32) (this_rounds : Int32) (this_toldOnce : Int32) : va_W := [(this, .inr (7, [.ref this_names, .ref this_kinds, .ref this_begin, .ref this_law, .int this_persons, .int this_mast, .int this_weighs, .int this_rounds, .int this_toldOnce])), (this_kinds, .inl (k 0, 6, .inl this_kinds_f))]
set_option maxHeartbeats 4000000 in
set_option maxRecDepth 100000 in
theorem c_X8_weight (l : Launch) (D : va_G) (k : Nat → ClassId) (this : Nat) (this_names : Nat) (this_kinds : Nat) (this_kinds_f : Nat → Int32) (this_begin : Nat) (this_law : Nat) (this_persons : Int32) (this_mast : Int32) (this_weighs : Int32) (this_rounds : Int32) (this_toldOnce : Int32) (person : Int32) (lacking : Int32) (R0 : Int32) (hm : m_X8_weight this_kinds_f person lacking = some R0) : CR l D (TY k) yX8_weight cX8_weight 3 (some .int) 1 21 [.ref this, .int person, .int lacking] (wd_X8_weight k this this_names this_kinds this_kinds_f this_begin this_law this_persons this_mast this_weighs this_rounds this_toldOnce) (some (.int R0)) := by
  refine CR.mk (by decide) (Nat.le_of_ble_eq_true rfl) ?_
  intro p e s m args below meth c ls ⟨hx, hb, hr, hts, hown, hlocks, hml⟩ hP hG hl
  have hl : lv_has ls 3 [(0, .ref this), (1, .int person), (2, .int lacking)] := hl
  unfold m_X8_weight at hm
  refine lv_aload_n (pc := 0) hx hb dX8_weight_0 rfl (lv_at hl 0 rfl) ?_
  refine va_get (pc := 1) (D := D) (ci := 7) (C := RX8) (T := TX8) (N := 9) hx hb hts hiX8 hown hG.1 hP 0 rfl rfl 1 (Nat.le_of_ble_eq_true rfl) (hts _ kw_196) (fun _ h9 => h9) rfl dX8_weight_1 ?_
  refine lv_iload_n (pc := 4) hx hb dX8_weight_4 rfl (lv_at hl 1 rfl) ?_
  obtain ⟨r2, hcl, hm⟩ := bd hm
  refine cr_back (run_SN (pc := 5) (n := 2) (As := [.ref this_kinds, .int person]) (rest := []) ⟨hx, hb, hml, hown, hts⟩ (c_X11_at l D k this_kinds 6 this_kinds_f person r2 hcl) ⟨kw_329, kw_1, by decide +kernel⟩ hG kn_327 kw_328 ⟨Nat.le_of_ble_eq_true rfl, Nat.le_of_ble_eq_true rfl⟩ pr_blind (prR (hP.sub [1] rfl) hG) rfl hl.1 rfl (Nat.le_of_ble_eq_true rfl) dX8_weight_5 ⟨Nat.zero_le _, Nat.zero_le _⟩) ?_
  by_cases hs0 : r2 = 1
  · rw [if_pos hs0] at hm
    rw [hs0]
    refine lv_tableIn (tgt := 36) (pc := 8) hx hb dX8_weight_8 (by decide) (by decide) rfl (by decide) ?_
    refine lv_iload_n (pc := 36) hx hb dX8_weight_36 rfl (lv_at hl 2 rfl) ?_
    refine lv_if_le (tgt := 47) (pc := 37) hx hb dX8_weight_37 (by decide) (fun hc => ?_) (fun hc => ?_)
    · rw [if_pos hc] at hm
      refine lv_iconst (v := 0) (pc := 47) hx hb dX8_weight_47 (by decide) ?_
      rw [← Option.some.inj hm]
      exact W.iret hx hb hr (fun t ht _ => ⟨rfl, ht⟩) (fun _ h => by cases h) dX8_weight_48 hlocks
    · rw [if_neg hc] at hm
      refine lv_iload_n (pc := 40) hx hb dX8_weight_40 rfl (lv_at hl 2 rfl) ?_
      refine lv_bipush (v := 10) (pc := 41) hx hb dX8_weight_41 (by decide) ?_
      refine lv_iadd (pc := 43) hx hb dX8_weight_43 ?_
      refine lv_goto (tgt := 48) (pc := 44) hx hb dX8_weight_44 (by decide) ?_
      rw [← Option.some.inj hm]
      exact W.iret hx hb hr (fun t ht _ => ⟨rfl, ht⟩) (fun _ h => by cases h) dX8_weight_48 hlocks
  · rw [if_neg hs0] at hm
    by_cases hs1 : r2 = 2
    · rw [if_pos hs1] at hm
      rw [hs1]
      refine lv_tableIn (tgt := 49) (pc := 8) hx hb dX8_weight_8 (by decide) (by decide) rfl (by decide) ?_
      refine lv_iconst (v := 2) (pc := 49) hx hb dX8_weight_49 (by decide) ?_
      refine lv_iload_n (pc := 50) hx hb dX8_weight_50 rfl (lv_at hl 2 rfl) ?_
      refine lv_imul (pc := 51) hx hb dX8_weight_51 ?_
      rw [← Option.some.inj hm]
      exact W.iret hx hb hr (fun t ht _ => ⟨rfl, ht⟩) (fun _ h => by cases h) dX8_weight_52 hlocks
    · rw [if_neg hs1] at hm
      by_cases hs2 : r2 = 3
      · rw [if_pos hs2] at hm
        rw [hs2]
        refine lv_tableIn (tgt := 53) (pc := 8) hx hb dX8_weight_8 (by decide) (by decide) rfl (by decide) ?_
        refine lv_iload_n (pc := 53) hx hb dX8_weight_53 rfl (lv_at hl 2 rfl) ?_
        refine lv_iconst (v := 2) (pc := 54) hx hb dX8_weight_54 (by decide) ?_
        refine lv_idiv (pc := 55) hx hb dX8_weight_55 (by decide) ?_
        rw [← Option.some.inj hm]
        exact W.iret hx hb hr (fun t ht _ => ⟨rfl, ht⟩) (fun _ h => by cases h) dX8_weight_56 hlocks
      · rw [if_neg hs2] at hm
        refine lv_tableOut (tgt := 57) (pc := 8) hx hb dX8_weight_8 (sw_out (by decide) (by decide) (by intro v h1 h2; rcases (show v = 1 ∨ v = 2 ∨ v = 3 by omega) with rfl | rfl | rfl <;> assumption)) (by decide) ?_
        refine lv_iload_n (pc := 57) hx hb dX8_weight_57 rfl (lv_at hl 2 rfl) ?_
        rw [← Option.some.inj hm]
        exact W.iret hx hb hr (fun t ht _ => ⟨rfl, ht⟩) (fun _ h => by cases h) dX8_weight_58 hlocks
theorem dX8_weightOfAll_0 : decode cX8_weightOfAll 0 = .ok (.iconst 0, 1) := by decide +kernel
theorem dX8_weightOfAll_1 : decode cX8_weightOfAll 1 = .ok (.istore_n 2, 1) := by decide +kernel
theorem dX8_weightOfAll_2 : decode cX8_weightOfAll 2 = .ok (.iconst 0, 1) := by decide +kernel
theorem dX8_weightOfAll_3 : decode cX8_weightOfAll 3 = .ok (.istore_n 3, 1) := by decide +kernel
theorem dX8_weightOfAll_4 : decode cX8_weightOfAll 4 = .ok (.iload_n 3, 1) := by decide +kernel
theorem dX8_weightOfAll_5 : decode cX8_weightOfAll 5 = .ok (.aload_n 0, 1) := by decide +kernel
theorem dX8_weightOfAll_6 : decode cX8_weightOfAll 6 = .ok (.getfield 39, 3) := by decide +kernel
theorem dX8_weightOfAll_9 : decode cX8_weightOfAll 9 = .ok (.if_icmp .ge 25, 3) := by decide +kernel
theorem dX8_weightOfAll_12 : decode cX8_weightOfAll 12 = .ok (.iload_n 2, 1) := by decide +kernel
theorem dX8_weightOfAll_13 : decode cX8_weightOfAll 13 = .ok (.aload_n 0, 1) := by decide +kernel
theorem dX8_weightOfAll_14 : decode cX8_weightOfAll 14 = .ok (.iload_n 3, 1) := by decide +kernel
theorem dX8_weightOfAll_15 : decode cX8_weightOfAll 15 = .ok (.aload_n 1, 1) := by decide +kernel
theorem dX8_weightOfAll_16 : decode cX8_weightOfAll 16 = .ok (.getfield 141, 3) := by decide +kernel
theorem dX8_weightOfAll_19 : decode cX8_weightOfAll 19 = .ok (.iload_n 3, 1) := by decide +kernel
theorem dX8_weightOfAll_20 : decode cX8_weightOfAll 20 = .ok (.invokestatic 176, 3) := by decide +kernel
theorem dX8_weightOfAll_23 : decode cX8_weightOfAll 23 = .ok (.invokevirtual 180, 3) := by decide +kernel
theorem dX8_weightOfAll_26 : decode cX8_weightOfAll 26 = .ok (.iadd, 1) := by decide +kernel
theorem dX8_weightOfAll_27 : decode cX8_weightOfAll 27 = .ok (.istore_n 2, 1) := by decide +kernel
theorem dX8_weightOfAll_28 : decode cX8_weightOfAll 28 = .ok (.iinc 3 1, 3) := by decide +kernel
theorem dX8_weightOfAll_31 : decode cX8_weightOfAll 31 = .ok (.goto (-27), 3) := by decide +kernel
theorem dX8_weightOfAll_34 : decode cX8_weightOfAll 34 = .ok (.iload_n 2, 1) := by decide +kernel
theorem dX8_weightOfAll_35 : decode cX8_weightOfAll 35 = .ok (.ireturn, 1) := by decide +kernel
abbrev wd_X8_weightOfAll (k : Nat → ClassId) (this : Nat) (this_names : Nat) (this_kinds : Nat) (this_kinds_f : Nat → Int32) (this_begin : Nat) (this_law : Nat) (this_persons : Int32) (this_mast : Int32) (this_weighs : Int32) (this_rounds : Int32) (this_toldOnce : Int32) (state : Nat) (state_lacks : Nat) (state_lacks_f : Nat → Int32) (state_feels : Nat) (state_date : Int32) : va_W := [(this, .inr (7, [.ref this_names, .ref this_kinds, .ref this_begin, .ref this_law, .int this_persons, .int this_mast, .int this_weighs, .int this_rounds, .int this_toldOnce])), (this_kinds, .inl (k 0, 6, .inl this_kinds_f)), (state, .inr (5, [.ref state_lacks, .ref state_feels, .int state_date])), (state_lacks, .inl (k 0, 6, .inl state_lacks_f))]
set_option maxHeartbeats 4000000 in
set_option maxRecDepth 100000 in
theorem c_X8_weightOfAll (l : Launch) (D : va_G) (k : Nat → ClassId) (this : Nat) (this_names : Nat) (this_kinds : Nat) (this_kinds_f : Nat → Int32) (this_begin : Nat) (this_law : Nat) (this_persons : Int32) (this_mast : Int32) (this_weighs : Int32) (this_rounds : Int32) (this_toldOnce : Int32) (state : Nat) (state_lacks : Nat) (state_lacks_f : Nat → Int32) (state_feels : Nat) (state_date : Int32) (R0 : Int32) (hm : m_X8_weightOfAll this_kinds_f this_persons state_lacks_f = some R0) : CR l D (TY k) yX8_weightOfAll cX8_weightOfAll 4 (some .int) 2 43 [.ref this, .ref state] (wd_X8_weightOfAll k this this_names this_kinds this_kinds_f this_begin this_law this_persons this_mast this_weighs this_rounds this_toldOnce state state_lacks state_lacks_f state_feels state_date) (some (.int R0)) := by
  refine CR.mk (by decide) (Nat.le_of_ble_eq_true rfl) ?_
  intro p e s m args below meth c ls ⟨hx, hb, hr, hts, hown, hlocks, hml⟩ hP hG hl
  have hl : lv_has ls 4 [(0, .ref this), (1, .ref state)] := hl
  have h_4 : ∀ (n : Nat), ∀ (x2 : Int32) (x3 : Int32) (ls : Array Slot), lv_has ls 4 [(0, .ref this), (1, .ref state), (2, .int x2), (3, .int x3)] → m_X8_weightOfAll_4 this_kinds_f this_persons state_lacks_f n x2 x3 = some R0 → W p l e (Rm 2 43) s m args below meth c s.heap [] 0 0 (MQ below (QR (some (.int R0))) args s 0 0 (fun _ => False)) (F0 m 4 ls []) := by
    intro n
    induction n with
    | zero => intro x2 x3 ls hl hm; cases hm
    | succ n ih =>
      intro x2 x3 ls hl hm
      unfold m_X8_weightOfAll_4 at hm
      refine lv_iload_n (pc := 4) hx hb dX8_weightOfAll_4 rfl (lv_at hl 3 rfl) ?_
      refine lv_aload_n (pc := 5) hx hb dX8_weightOfAll_5 rfl (lv_at hl 0 rfl) ?_
      refine va_get (pc := 6) (D := D) (ci := 7) (C := RX8) (T := TX8) (N := 9) hx hb hts hiX8 hown hG.1 hP 0 rfl rfl 4 (Nat.le_of_ble_eq_true rfl) (hts _ kw_202) (fun _ h9 => h9) rfl dX8_weightOfAll_6 ?_
      refine lv_icmp_ge (tgt := 34) (pc := 9) hx hb dX8_weightOfAll_9 (by decide) (fun hc => ?_) (fun hc => ?_)
      · rw [if_pos hc] at hm
        refine lv_iload_n (pc := 34) hx hb dX8_weightOfAll_34 rfl (lv_at hl 2 rfl) ?_
        rw [← Option.some.inj hm]
        exact W.iret hx hb hr (fun t ht _ => ⟨rfl, ht⟩) (fun _ h => by cases h) dX8_weightOfAll_35 hlocks
      · rw [if_neg hc] at hm
        refine lv_iload_n (pc := 12) hx hb dX8_weightOfAll_12 rfl (lv_at hl 2 rfl) ?_
        refine lv_aload_n (pc := 13) hx hb dX8_weightOfAll_13 rfl (lv_at hl 0 rfl) ?_
        refine lv_iload_n (pc := 14) hx hb dX8_weightOfAll_14 rfl (lv_at hl 3 rfl) ?_
        refine lv_aload_n (pc := 15) hx hb dX8_weightOfAll_15 rfl (lv_at hl 1 rfl) ?_
        refine va_getN (pc := 16) (D := D) (ci := 5) (C := RX6) (T := TX6) (N := 3) hx hb hts hiX6 hown hG.1 hP 2 rfl rfl 0 (Nat.le_of_ble_eq_true rfl) (va_Nw.use rfl (hG.2 _ kn_96)) (fun _ h9 => h9) rfl dX8_weightOfAll_16 ?_
        refine lv_iload_n (pc := 19) hx hb dX8_weightOfAll_19 rfl (lv_at hl 3 rfl) ?_
        obtain ⟨r3, hcl, hm⟩ := bd hm
        refine cr_back (run_SN (pc := 20) (n := 2) (As := [.ref state_lacks, .int x3]) (rest := [.int x3, .ref this, .int x2]) ⟨hx, hb, hml, hown, hts⟩ (c_X11_at l D k state_lacks 6 state_lacks_f x3 r3 hcl) ⟨kw_329, kw_1, by decide +kernel⟩ hG kn_327 kw_328 ⟨Nat.le_of_ble_eq_true rfl, Nat.le_of_ble_eq_true rfl⟩ pr_blind (prR (hP.sub [3] rfl) hG) rfl hl.1 rfl (Nat.le_of_ble_eq_true rfl) dX8_weightOfAll_20 ⟨Nat.zero_le _, Nat.zero_le _⟩) ?_
        obtain ⟨r4, hcl, hm⟩ := bd hm
        refine cr_back (run_V (pc := 23) (n := 2) (As := [.int x3, .int r3]) (rest := [.int x2]) ⟨hx, hb, hml, hown, hts⟩ (c_X8_weight l D k this this_names this_kinds this_kinds_f this_begin this_law this_persons this_mast this_weighs this_rounds this_toldOnce x3 r3 r4 hcl) ⟨kw_333, kw_9, by decide +kernel⟩ kw_330 kw_332 ks_10 ⟨Nat.le_of_ble_eq_true rfl, Nat.le_of_ble_eq_true rfl⟩ pr_blind (prR (hP.sub [0, 1] rfl) hG) (va_recv hG.1 hP (ci := 7) (q0 := 0) rfl rfl) rfl hl.1 rfl (Nat.le_of_ble_eq_true rfl) dX8_weightOfAll_23 ⟨Nat.zero_le _, Nat.zero_le _⟩) ?_
        refine lv_iadd (pc := 26) hx hb dX8_weightOfAll_26 ?_
        refine lv_istore_n (lv' := [(2, .int (x2 + r4)), (0, .ref this), (1, .ref state), (3, .int x3)]) (pc := 27) hx hb dX8_weightOfAll_27 rfl hl (Nat.le_of_ble_eq_true rfl) rfl (fun ls hl => ?_)
        refine lv_iinc (k := 3) (v := x3 + 1) (lv' := [(3, .int (x3 + 1)), (2, .int (x2 + r4)), (0, .ref this), (1, .ref state)]) (pc := 28) hx hb dX8_weightOfAll_28 hl rfl rfl (Nat.le_of_ble_eq_true rfl) rfl (fun ls hl => ?_)
        refine lv_goto (tgt := 4) (pc := 31) hx hb dX8_weightOfAll_31 (by decide) ?_
        exact ih (x2 + r4) (x3 + 1) ls (lv_sub hl [2, 3, 1, 0] rfl) hm
  unfold m_X8_weightOfAll at hm
  refine lv_iconst (v := 0) (pc := 0) hx hb dX8_weightOfAll_0 (by decide) ?_
  refine lv_istore_n (lv' := [(2, .int 0), (0, .ref this), (1, .ref state)]) (pc := 1) hx hb dX8_weightOfAll_1 rfl hl (Nat.le_of_ble_eq_true rfl) rfl (fun ls hl => ?_)
  refine lv_iconst (v := 0) (pc := 2) hx hb dX8_weightOfAll_2 (by decide) ?_
  refine lv_istore_n (lv' := [(3, .int 0), (2, .int 0), (0, .ref this), (1, .ref state)]) (pc := 3) hx hb dX8_weightOfAll_3 rfl hl (Nat.le_of_ble_eq_true rfl) rfl (fun ls hl => ?_)
  exact h_4 FU 0 0 ls (lv_sub hl [2, 3, 1, 0] rfl) hm
theorem dX8_inches_0 : decode cX8_inches 0 = .ok (.iload_n 1, 1) := by decide +kernel
theorem dX8_inches_1 : decode cX8_inches 1 = .ok (.iconst 1, 1) := by decide +kernel
theorem dX8_inches_2 : decode cX8_inches 2 = .ok (.if_icmp .ge 5, 3) := by decide +kernel
theorem dX8_inches_5 : decode cX8_inches 5 = .ok (.iconst 0, 1) := by decide +kernel
theorem dX8_inches_6 : decode cX8_inches 6 = .ok (.ireturn, 1) := by decide +kernel
theorem dX8_inches_7 : decode cX8_inches 7 = .ok (.iload_n 2, 1) := by decide +kernel
theorem dX8_inches_8 : decode cX8_inches 8 = .ok (.iconst 1, 1) := by decide +kernel
theorem dX8_inches_9 : decode cX8_inches 9 = .ok (.if_icmp .ne 11, 3) := by decide +kernel
theorem dX8_inches_12 : decode cX8_inches 12 = .ok (.iload_n 0, 1) := by decide +kernel
theorem dX8_inches_13 : decode cX8_inches 13 = .ok (.iload_n 1, 1) := by decide +kernel
theorem dX8_inches_14 : decode cX8_inches 14 = .ok (.iadd, 1) := by decide +kernel
theorem dX8_inches_15 : decode cX8_inches 15 = .ok (.iconst 1, 1) := by decide +kernel
theorem dX8_inches_16 : decode cX8_inches 16 = .ok (.isub, 1) := by decide +kernel
theorem dX8_inches_17 : decode cX8_inches 17 = .ok (.iload_n 1, 1) := by decide +kernel
theorem dX8_inches_18 : decode cX8_inches 18 = .ok (.idiv, 1) := by decide +kernel
theorem dX8_inches_19 : decode cX8_inches 19 = .ok (.ireturn, 1) := by decide +kernel
theorem dX8_inches_20 : decode cX8_inches 20 = .ok (.iload_n 2, 1) := by decide +kernel
theorem dX8_inches_21 : decode cX8_inches 21 = .ok (.iconst 2, 1) := by decide +kernel
theorem dX8_inches_22 : decode cX8_inches 22 = .ok (.if_icmp .ne 15, 3) := by decide +kernel
theorem dX8_inches_25 : decode cX8_inches 25 = .ok (.iconst 2, 1) := by decide +kernel
theorem dX8_inches_26 : decode cX8_inches 26 = .ok (.iload_n 0, 1) := by decide +kernel
theorem dX8_inches_27 : decode cX8_inches 27 = .ok (.imul, 1) := by decide +kernel
theorem dX8_inches_28 : decode cX8_inches 28 = .ok (.iload_n 1, 1) := by decide +kernel
theorem dX8_inches_29 : decode cX8_inches 29 = .ok (.iadd, 1) := by decide +kernel
theorem dX8_inches_30 : decode cX8_inches 30 = .ok (.iconst 2, 1) := by decide +kernel
theorem dX8_inches_31 : decode cX8_inches 31 = .ok (.iload_n 1, 1) := by decide +kernel
theorem dX8_inches_32 : decode cX8_inches 32 = .ok (.imul, 1) := by decide +kernel
theorem dX8_inches_33 : decode cX8_inches 33 = .ok (.idiv, 1) := by decide +kernel
theorem dX8_inches_34 : decode cX8_inches 34 = .ok (.goto 6, 3) := by decide +kernel
theorem dX8_inches_37 : decode cX8_inches 37 = .ok (.iload_n 0, 1) := by decide +kernel
theorem dX8_inches_38 : decode cX8_inches 38 = .ok (.iload_n 1, 1) := by decide +kernel
theorem dX8_inches_39 : decode cX8_inches 39 = .ok (.idiv, 1) := by decide +kernel
theorem dX8_inches_40 : decode cX8_inches 40 = .ok (.ireturn, 1) := by decide +kernel
abbrev wd_X8_inches (k : Nat → ClassId) : va_W := []
set_option maxHeartbeats 4000000 in
set_option maxRecDepth 100000 in
theorem c_X8_inches (l : Launch) (D : va_G) (k : Nat → ClassId) (sum : Int32) (inch : Int32) (rounding : Int32) (R0 : Int32) (hm : m_X8_inches sum inch rounding = some R0) : CR l D (TY k) yX8_inches cX8_inches 3 (some .int) 0 0 [.int sum, .int inch, .int rounding] (wd_X8_inches k ) (some (.int R0)) := by
  refine CR.mk (by decide) (Nat.le_of_ble_eq_true rfl) ?_
  intro p e s m args below meth c ls ⟨hx, hb, hr, hts, hown, hlocks, hml⟩ hP hG hl
  have hl : lv_has ls 3 [(0, .int sum), (1, .int inch), (2, .int rounding)] := hl
  unfold m_X8_inches at hm
  refine lv_iload_n (pc := 0) hx hb dX8_inches_0 rfl (lv_at hl 1 rfl) ?_
  refine lv_iconst (v := 1) (pc := 1) hx hb dX8_inches_1 (by decide) ?_
  refine lv_icmp_ge (tgt := 7) (pc := 2) hx hb dX8_inches_2 (by decide) (fun hc => ?_) (fun hc => ?_)
  · rw [if_pos hc] at hm
    refine lv_iload_n (pc := 7) hx hb dX8_inches_7 rfl (lv_at hl 2 rfl) ?_
    refine lv_iconst (v := 1) (pc := 8) hx hb dX8_inches_8 (by decide) ?_
    refine lv_icmp_ne (tgt := 20) (pc := 9) hx hb dX8_inches_9 (by decide) (fun hc => ?_) (fun hc => ?_)
    · rw [if_neg hc] at hm
      refine lv_iload_n (pc := 20) hx hb dX8_inches_20 rfl (lv_at hl 2 rfl) ?_
      refine lv_iconst (v := 2) (pc := 21) hx hb dX8_inches_21 (by decide) ?_
      refine lv_icmp_ne (tgt := 37) (pc := 22) hx hb dX8_inches_22 (by decide) (fun hc => ?_) (fun hc => ?_)
      · rw [if_neg hc] at hm
        refine lv_iload_n (pc := 37) hx hb dX8_inches_37 rfl (lv_at hl 0 rfl) ?_
        refine lv_iload_n (pc := 38) hx hb dX8_inches_38 rfl (lv_at hl 1 rfl) ?_
        obtain ⟨hnz, hm⟩ := gd hm
        refine lv_idiv (pc := 39) hx hb dX8_inches_39 hnz ?_
        rw [← Option.some.inj hm]
        exact W.iret hx hb hr (fun t ht _ => ⟨rfl, ht⟩) (fun _ h => by cases h) dX8_inches_40 hlocks
      · rw [if_pos hc] at hm
        refine lv_iconst (v := 2) (pc := 25) hx hb dX8_inches_25 (by decide) ?_
        refine lv_iload_n (pc := 26) hx hb dX8_inches_26 rfl (lv_at hl 0 rfl) ?_
        refine lv_imul (pc := 27) hx hb dX8_inches_27 ?_
        refine lv_iload_n (pc := 28) hx hb dX8_inches_28 rfl (lv_at hl 1 rfl) ?_
        refine lv_iadd (pc := 29) hx hb dX8_inches_29 ?_
        refine lv_iconst (v := 2) (pc := 30) hx hb dX8_inches_30 (by decide) ?_
        refine lv_iload_n (pc := 31) hx hb dX8_inches_31 rfl (lv_at hl 1 rfl) ?_
        refine lv_imul (pc := 32) hx hb dX8_inches_32 ?_
        obtain ⟨hnz, hm⟩ := gd hm
        refine lv_idiv (pc := 33) hx hb dX8_inches_33 hnz ?_
        refine lv_goto (tgt := 40) (pc := 34) hx hb dX8_inches_34 (by decide) ?_
        rw [← Option.some.inj hm]
        exact W.iret hx hb hr (fun t ht _ => ⟨rfl, ht⟩) (fun _ h => by cases h) dX8_inches_40 hlocks
    · rw [if_pos hc] at hm
      refine lv_iload_n (pc := 12) hx hb dX8_inches_12 rfl (lv_at hl 0 rfl) ?_
      refine lv_iload_n (pc := 13) hx hb dX8_inches_13 rfl (lv_at hl 1 rfl) ?_
      refine lv_iadd (pc := 14) hx hb dX8_inches_14 ?_
      refine lv_iconst (v := 1) (pc := 15) hx hb dX8_inches_15 (by decide) ?_
      refine lv_isub (pc := 16) hx hb dX8_inches_16 ?_
      refine lv_iload_n (pc := 17) hx hb dX8_inches_17 rfl (lv_at hl 1 rfl) ?_
      obtain ⟨hnz, hm⟩ := gd hm
      refine lv_idiv (pc := 18) hx hb dX8_inches_18 hnz ?_
      rw [← Option.some.inj hm]
      exact W.iret hx hb hr (fun t ht _ => ⟨rfl, ht⟩) (fun _ h => by cases h) dX8_inches_19 hlocks
  · rw [if_neg hc] at hm
    refine lv_iconst (v := 0) (pc := 5) hx hb dX8_inches_5 (by decide) ?_
    rw [← Option.some.inj hm]
    exact W.iret hx hb hr (fun t ht _ => ⟨rfl, ht⟩) (fun _ h => by cases h) dX8_inches_6 hlocks
theorem dX8_flagUnder_0 : decode cX8_flagUnder 0 = .ok (.iconst 0, 1) := by decide +kernel
theorem dX8_flagUnder_1 : decode cX8_flagUnder 1 = .ok (.aload_n 0, 1) := by decide +kernel
theorem dX8_flagUnder_2 : decode cX8_flagUnder 2 = .ok (.getfield 43, 3) := by decide +kernel
theorem dX8_flagUnder_5 : decode cX8_flagUnder 5 = .ok (.iload_n 1, 1) := by decide +kernel
theorem dX8_flagUnder_6 : decode cX8_flagUnder 6 = .ok (.iload_n 2, 1) := by decide +kernel
theorem dX8_flagUnder_7 : decode cX8_flagUnder 7 = .ok (.iload_n 3, 1) := by decide +kernel
theorem dX8_flagUnder_8 : decode cX8_flagUnder 8 = .ok (.invokestatic 187, 3) := by decide +kernel
theorem dX8_flagUnder_11 : decode cX8_flagUnder 11 = .ok (.isub, 1) := by decide +kernel
theorem dX8_flagUnder_12 : decode cX8_flagUnder 12 = .ok (.invokestatic 190, 3) := by decide +kernel
theorem dX8_flagUnder_15 : decode cX8_flagUnder 15 = .ok (.ireturn, 1) := by decide +kernel
abbrev wd_X8_flagUnder (k : Nat → ClassId) (this : Nat) (this_names : Nat) (this_kinds : Nat) (this_begin : Nat) (this_law : Nat) (this_persons : Int32) (this_mast : Int32) (this_weighs : Int32) (this_rounds : Int32) (this_toldOnce : Int32) : va_W := [(this, .inr (7, [.ref this_names, .ref this_kinds, .ref this_begin, .ref this_law, .int this_persons, .int this_mast, .int this_weighs, .int this_rounds, .int this_toldOnce]))]
set_option maxHeartbeats 4000000 in
set_option maxRecDepth 100000 in
theorem c_X8_flagUnder (l : Launch) (D : va_G) (k : Nat → ClassId) (this : Nat) (this_names : Nat) (this_kinds : Nat) (this_begin : Nat) (this_law : Nat) (this_persons : Int32) (this_mast : Int32) (this_weighs : Int32) (this_rounds : Int32) (this_toldOnce : Int32) (sum : Int32) (inch : Int32) (rounding : Int32) (R0 : Int32) (hm : m_X8_flagUnder this_mast sum inch rounding = some R0) : CR l D (TY k) yX8_flagUnder cX8_flagUnder 4 (some .int) 1 22 [.ref this, .int sum, .int inch, .int rounding] (wd_X8_flagUnder k this this_names this_kinds this_begin this_law this_persons this_mast this_weighs this_rounds this_toldOnce) (some (.int R0)) := by
  refine CR.mk (by decide) (Nat.le_of_ble_eq_true rfl) ?_
  intro p e s m args below meth c ls ⟨hx, hb, hr, hts, hown, hlocks, hml⟩ hP hG hl
  have hl : lv_has ls 4 [(0, .ref this), (1, .int sum), (2, .int inch), (3, .int rounding)] := hl
  unfold m_X8_flagUnder at hm
  refine lv_iconst (v := 0) (pc := 0) hx hb dX8_flagUnder_0 (by decide) ?_
  refine lv_aload_n (pc := 1) hx hb dX8_flagUnder_1 rfl (lv_at hl 0 rfl) ?_
  refine va_get (pc := 2) (D := D) (ci := 7) (C := RX8) (T := TX8) (N := 9) hx hb hts hiX8 hown hG.1 hP 0 rfl rfl 5 (Nat.le_of_ble_eq_true rfl) (hts _ kw_205) (fun _ h9 => h9) rfl dX8_flagUnder_2 ?_
  refine lv_iload_n (pc := 5) hx hb dX8_flagUnder_5 rfl (lv_at hl 1 rfl) ?_
  refine lv_iload_n (pc := 6) hx hb dX8_flagUnder_6 rfl (lv_at hl 2 rfl) ?_
  refine lv_iload_n (pc := 7) hx hb dX8_flagUnder_7 rfl (lv_at hl 3 rfl) ?_
  obtain ⟨r2, hcl, hm⟩ := bd hm
  refine cr_back (run_S (pc := 8) (n := 3) (As := [.int sum, .int inch, .int rounding]) (rest := [.int this_mast, .int 0]) ⟨hx, hb, hml, hown, hts⟩ (c_X8_inches l D k sum inch rounding r2 hcl) ⟨kw_340, kw_9, by decide +kernel⟩ kw_338 kw_339 ⟨Nat.le_of_ble_eq_true rfl, Nat.le_of_ble_eq_true rfl⟩ pr_blind (prR (hP.sub [] rfl) hG) rfl hl.1 rfl (Nat.le_of_ble_eq_true rfl) dX8_flagUnder_8 ⟨Nat.zero_le _, Nat.zero_le _⟩) ?_
  refine lv_isub (pc := 11) hx hb dX8_flagUnder_11 ?_
  refine va_mmax (pc := 12) hx hb (hml.trans hl.1.symm) (own := RX8) hown (hts _ kw_341) (hts _ kw_342) (hts _ kw_15) (hts _ kw_343) (Nat.le_of_ble_eq_true rfl) (Nat.le_of_ble_eq_true rfl) (Nat.zero_le _) (Nat.zero_le _) dX8_flagUnder_12 ?_
  rw [← Option.some.inj hm]
  exact W.iret hx hb hr (fun t ht _ => ⟨rfl, ht⟩) (fun _ h => by cases h) dX8_flagUnder_15 hlocks
theorem dX8_flagBy_0 : decode cX8_flagBy 0 = .ok (.aload_n 0, 1) := by decide +kernel
theorem dX8_flagBy_1 : decode cX8_flagBy 1 = .ok (.iload_n 1, 1) := by decide +kernel
theorem dX8_flagBy_2 : decode cX8_flagBy 2 = .ok (.aload_n 0, 1) := by decide +kernel
theorem dX8_flagBy_3 : decode cX8_flagBy 3 = .ok (.getfield 46, 3) := by decide +kernel
theorem dX8_flagBy_6 : decode cX8_flagBy 6 = .ok (.aload_n 0, 1) := by decide +kernel
theorem dX8_flagBy_7 : decode cX8_flagBy 7 = .ok (.getfield 49, 3) := by decide +kernel
theorem dX8_flagBy_10 : decode cX8_flagBy 10 = .ok (.invokevirtual 183, 3) := by decide +kernel
theorem dX8_flagBy_13 : decode cX8_flagBy 13 = .ok (.ireturn, 1) := by decide +kernel
abbrev wd_X8_flagBy (k : Nat → ClassId) (this : Nat) (this_names : Nat) (this_kinds : Nat) (this_begin : Nat) (this_law : Nat) (this_persons : Int32) (this_mast : Int32) (this_weighs : Int32) (this_rounds : Int32) (this_toldOnce : Int32) : va_W := [(this, .inr (7, [.ref this_names, .ref this_kinds, .ref this_begin, .ref this_law, .int this_persons, .int this_mast, .int this_weighs, .int this_rounds, .int this_toldOnce]))]
set_option maxHeartbeats 4000000 in
set_option maxRecDepth 100000 in
theorem c_X8_flagBy (l : Launch) (D : va_G) (k : Nat → ClassId) (this : Nat) (this_names : Nat) (this_kinds : Nat) (this_begin : Nat) (this_law : Nat) (this_persons : Int32) (this_mast : Int32) (this_weighs : Int32) (this_rounds : Int32) (this_toldOnce : Int32) (sum : Int32) (R0 : Int32) (hm : m_X8_flagBy this_mast this_weighs this_rounds sum = some R0) : CR l D (TY k) yX8_flagBy cX8_flagBy 2 (some .int) 2 45 [.ref this, .int sum] (wd_X8_flagBy k this this_names this_kinds this_begin this_law this_persons this_mast this_weighs this_rounds this_toldOnce) (some (.int R0)) := by
  refine CR.mk (by decide) (Nat.le_of_ble_eq_true rfl) ?_
  intro p e s m args below meth c ls ⟨hx, hb, hr, hts, hown, hlocks, hml⟩ hP hG hl
  have hl : lv_has ls 2 [(0, .ref this), (1, .int sum)] := hl
  unfold m_X8_flagBy at hm
  refine lv_aload_n (pc := 0) hx hb dX8_flagBy_0 rfl (lv_at hl 0 rfl) ?_
  refine lv_iload_n (pc := 1) hx hb dX8_flagBy_1 rfl (lv_at hl 1 rfl) ?_
  refine lv_aload_n (pc := 2) hx hb dX8_flagBy_2 rfl (lv_at hl 0 rfl) ?_
  refine va_get (pc := 3) (D := D) (ci := 7) (C := RX8) (T := TX8) (N := 9) hx hb hts hiX8 hown hG.1 hP 0 rfl rfl 6 (Nat.le_of_ble_eq_true rfl) (hts _ kw_208) (fun _ h9 => h9) rfl dX8_flagBy_3 ?_
  refine lv_aload_n (pc := 6) hx hb dX8_flagBy_6 rfl (lv_at hl 0 rfl) ?_
  refine va_get (pc := 7) (D := D) (ci := 7) (C := RX8) (T := TX8) (N := 9) hx hb hts hiX8 hown hG.1 hP 0 rfl rfl 7 (Nat.le_of_ble_eq_true rfl) (hts _ kw_211) (fun _ h9 => h9) rfl dX8_flagBy_7 ?_
  obtain ⟨r2, hcl, hm⟩ := bd hm
  refine cr_back (run_V (pc := 10) (n := 3) (As := [.int sum, .int this_weighs, .int this_rounds]) (rest := []) ⟨hx, hb, hml, hown, hts⟩ (c_X8_flagUnder l D k this this_names this_kinds this_begin this_law this_persons this_mast this_weighs this_rounds this_toldOnce sum this_weighs this_rounds r2 hcl) ⟨kw_337, kw_9, by decide +kernel⟩ kw_916 kw_336 ks_11 ⟨Nat.le_of_ble_eq_true rfl, Nat.le_of_ble_eq_true rfl⟩ pr_blind (prR (hP.sub [0] rfl) hG) (va_recv hG.1 hP (ci := 7) (q0 := 0) rfl rfl) rfl hl.1 rfl (Nat.le_of_ble_eq_true rfl) dX8_flagBy_10 ⟨Nat.zero_le _, Nat.zero_le _⟩) ?_
  rw [← Option.some.inj hm]
  exact W.iret hx hb hr (fun t ht _ => ⟨rfl, ht⟩) (fun _ h => by cases h) dX8_flagBy_13 hlocks
