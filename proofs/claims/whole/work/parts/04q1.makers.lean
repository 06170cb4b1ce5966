/-! MACHINE: makers (printed by wip/gen/makers.py) -/
theorem dX6_init_0 : decode cX6_init 0 = .ok (.aload_n 0, 1) := by decide +kernel
theorem dX6_init_1 : decode cX6_init 1 = .ok (.invokespecial 3, 3) := by decide +kernel
theorem dX6_init_4 : decode cX6_init 4 = .ok (.aload_n 0, 1) := by decide +kernel
theorem dX6_init_5 : decode cX6_init 5 = .ok (.bipush 6, 2) := by decide +kernel
theorem dX6_init_7 : decode cX6_init 7 = .ok (.newarray .int, 2) := by decide +kernel
theorem dX6_init_9 : decode cX6_init 9 = .ok (.putfield 9, 3) := by decide +kernel
theorem dX6_init_12 : decode cX6_init 12 = .ok (.aload_n 0, 1) := by decide +kernel
theorem dX6_init_13 : decode cX6_init 13 = .ok (.bipush 6, 2) := by decide +kernel
theorem dX6_init_15 : decode cX6_init 15 = .ok (.newarray .int, 2) := by decide +kernel
theorem dX6_init_17 : decode cX6_init 17 = .ok (.putfield 15, 3) := by decide +kernel
theorem dX6_init_20 : decode cX6_init 20 = .ok (.return_, 1) := by decide +kernel
theorem ck_X6_init (l : Launch) (D : va_G) (k : Nat → ClassId) (this : Nat) : CK l D (TY k) yX6_init cX6_init 1 1 22 2 12 [.ref this] [(this, .inr (5, [.null, .null, .int 0]))] (fun q => [(this, .inr (5, [.ref (q 0), .ref (q 1), .int 0])), ((q 0), .inl (k 0, 6, .inl (fun _ => 0))), ((q 1), .inl (k 0, 6, .inl (fun _ => 0)))]) := by
  refine CK.mk (by decide) (Nat.le_of_ble_eq_true rfl) ?_
  intro p e s m args below meth c ls A ⟨hx, hb, hr, hts, hown, hlocks, hml⟩ hin hP hG hD hA hl hS hq
  have hl : lv_has ls 1 [(0, .ref this)] := hl
  refine lv_aload_n (pc := 0) hx hb dX6_init_0 rfl (lv_at hl 0 rfl) ?_
  refine W.objInit hx hb hown (hts _ kw_93) (hts _ kw_34) (hts _ kw_35) rfl (by rw [hml]; exact hl.1) rfl dX6_init_1 (Nat.le_of_ble_eq_true rfl) (Nat.le_of_ble_eq_true rfl) ?_
  refine W.eq (g2 := F0 m 4 ls []) rfl ?_
  refine lv_aload_n (pc := 4) hx hb dX6_init_4 rfl (lv_at hl 0 rfl) ?_
  refine lv_bipush (v := 6) (pc := 5) hx hb dX6_init_5 (by decide) ?_
  refine nk_int (pc := 7) (N' := 6) hx hb (hts _ kw_109) hG hP hD hS hA (by decide) rfl (Nat.le_of_ble_eq_true rfl) (Nat.le_of_ble_eq_true rfl) (Nat.le_of_ble_eq_true rfl) dX6_init_7 (fun q0 H hP hD hS => ?_)
  refine va_putF (pc := 9) (D := D) (ci := 5) (v := .ref q0) (ty := .array .int) (C := RX6) (T := TX6) (N := 3) hx hb hts hiX6 tyX6 tyX6_ok nmX6 hown hG.1 hP hD hS 0 rfl rfl 0 (Nat.le_of_ble_eq_true rfl) (hts _ kw_94) (fun _ h9 => h9) rfl hin rfl (by decide +kernel) rfl rfl (Nat.le_of_ble_eq_true rfl) dX6_init_9 (fun H locs hP hD hS => ?_)
  refine lv_aload_n (pc := 12) hx hb dX6_init_12 rfl (lv_at hl 0 rfl) ?_
  refine lv_bipush (v := 6) (pc := 13) hx hb dX6_init_13 (by decide) ?_
  refine nk_int (pc := 15) (N' := 6) hx hb (hts _ kw_109) hG hP hD hS hA (by decide) rfl (Nat.le_of_ble_eq_true rfl) (Nat.le_of_ble_eq_true rfl) (Nat.le_of_ble_eq_true rfl) dX6_init_15 (fun q1 H hP hD hS => ?_)
  refine va_putF (pc := 17) (D := D) (ci := 5) (v := .ref q1) (ty := .array .int) (C := RX6) (T := TX6) (N := 3) hx hb hts hiX6 tyX6 tyX6_ok nmX6 hown hG.1 hP hD hS 0 rfl rfl 1 (Nat.le_of_ble_eq_true rfl) (hts _ kw_97) (fun _ h9 => h9) rfl hin rfl (by decide +kernel) rfl rfl (Nat.le_of_ble_eq_true rfl) dX6_init_17 (fun H locs hP hD hS => ?_)
  exact W.vret hx hb hr (fun t ht _ => hq (fun j => ([q0, q1] : List Nat).getD j 0) H t ht hP hD locs hS) hS.2.2 dX6_init_20 hlocks
theorem dX5_init_0 : decode cX5_init 0 = .ok (.aload_n 0, 1) := by decide +kernel
theorem dX5_init_1 : decode cX5_init 1 = .ok (.invokespecial 3, 3) := by decide +kernel
theorem dX5_init_4 : decode cX5_init 4 = .ok (.aload_n 0, 1) := by decide +kernel
theorem dX5_init_5 : decode cX5_init 5 = .ok (.bipush 8, 2) := by decide +kernel
theorem dX5_init_7 : decode cX5_init 7 = .ok (.newarray .int, 2) := by decide +kernel
theorem dX5_init_9 : decode cX5_init 9 = .ok (.putfield 9, 3) := by decide +kernel
theorem dX5_init_12 : decode cX5_init 12 = .ok (.aload_n 0, 1) := by decide +kernel
theorem dX5_init_13 : decode cX5_init 13 = .ok (.bipush 8, 2) := by decide +kernel
theorem dX5_init_15 : decode cX5_init 15 = .ok (.newarray .int, 2) := by decide +kernel
theorem dX5_init_17 : decode cX5_init 17 = .ok (.putfield 15, 3) := by decide +kernel
theorem dX5_init_20 : decode cX5_init 20 = .ok (.return_, 1) := by decide +kernel
theorem ck_X5_init (l : Launch) (D : va_G) (k : Nat → ClassId) (this : Nat) : CK l D (TY k) yX5_init cX5_init 1 1 22 2 16 [.ref this] [(this, .inr (4, [.null, .null, .int 0]))] (fun q => [(this, .inr (4, [.ref (q 0), .ref (q 1), .int 0])), ((q 0), .inl (k 0, 8, .inl (fun _ => 0))), ((q 1), .inl (k 0, 8, .inl (fun _ => 0)))]) := by
  refine CK.mk (by decide) (Nat.le_of_ble_eq_true rfl) ?_
  intro p e s m args below meth c ls A ⟨hx, hb, hr, hts, hown, hlocks, hml⟩ hin hP hG hD hA hl hS hq
  have hl : lv_has ls 1 [(0, .ref this)] := hl
  refine lv_aload_n (pc := 0) hx hb dX5_init_0 rfl (lv_at hl 0 rfl) ?_
  refine W.objInit hx hb hown (hts _ kw_126) (hts _ kw_34) (hts _ kw_35) rfl (by rw [hml]; exact hl.1) rfl dX5_init_1 (Nat.le_of_ble_eq_true rfl) (Nat.le_of_ble_eq_true rfl) ?_
  refine W.eq (g2 := F0 m 4 ls []) rfl ?_
  refine lv_aload_n (pc := 4) hx hb dX5_init_4 rfl (lv_at hl 0 rfl) ?_
  refine lv_bipush (v := 8) (pc := 5) hx hb dX5_init_5 (by decide) ?_
  refine nk_int (pc := 7) (N' := 8) hx hb (hts _ kw_109) hG hP hD hS hA (by decide) rfl (Nat.le_of_ble_eq_true rfl) (Nat.le_of_ble_eq_true rfl) (Nat.le_of_ble_eq_true rfl) dX5_init_7 (fun q0 H hP hD hS => ?_)
  refine va_putF (pc := 9) (D := D) (ci := 4) (v := .ref q0) (ty := .array .int) (C := RX5) (T := TX5) (N := 3) hx hb hts hiX5 tyX5 tyX5_ok nmX5 hown hG.1 hP hD hS 0 rfl rfl 0 (Nat.le_of_ble_eq_true rfl) (hts _ kw_127) (fun _ h9 => h9) rfl hin rfl (by decide +kernel) rfl rfl (Nat.le_of_ble_eq_true rfl) dX5_init_9 (fun H locs hP hD hS => ?_)
  refine lv_aload_n (pc := 12) hx hb dX5_init_12 rfl (lv_at hl 0 rfl) ?_
  refine lv_bipush (v := 8) (pc := 13) hx hb dX5_init_13 (by decide) ?_
  refine nk_int (pc := 15) (N' := 8) hx hb (hts _ kw_109) hG hP hD hS hA (by decide) rfl (Nat.le_of_ble_eq_true rfl) (Nat.le_of_ble_eq_true rfl) (Nat.le_of_ble_eq_true rfl) dX5_init_15 (fun q1 H hP hD hS => ?_)
  refine va_putF (pc := 17) (D := D) (ci := 4) (v := .ref q1) (ty := .array .int) (C := RX5) (T := TX5) (N := 3) hx hb hts hiX5 tyX5 tyX5_ok nmX5 hown hG.1 hP hD hS 0 rfl rfl 1 (Nat.le_of_ble_eq_true rfl) (hts _ kw_128) (fun _ h9 => h9) rfl hin rfl (by decide +kernel) rfl rfl (Nat.le_of_ble_eq_true rfl) dX5_init_17 (fun H locs hP hD hS => ?_)
  exact W.vret hx hb hr (fun t ht _ => hq (fun j => ([q0, q1] : List Nat).getD j 0) H t ht hP hD locs hS) hS.2.2 dX5_init_20 hlocks
theorem dX3_init_0 : decode cX3_init 0 = .ok (.aload_n 0, 1) := by decide +kernel
theorem dX3_init_1 : decode cX3_init 1 = .ok (.invokespecial 5, 3) := by decide +kernel
theorem dX3_init_4 : decode cX3_init 4 = .ok (.aload_n 0, 1) := by decide +kernel
theorem dX3_init_5 : decode cX3_init 5 = .ok (.sipush 1000, 3) := by decide +kernel
theorem dX3_init_8 : decode cX3_init 8 = .ok (.newarray .int, 2) := by decide +kernel
theorem dX3_init_10 : decode cX3_init 10 = .ok (.putfield 11, 3) := by decide +kernel
theorem dX3_init_13 : decode cX3_init 13 = .ok (.aload_n 0, 1) := by decide +kernel
theorem dX3_init_14 : decode cX3_init 14 = .ok (.bipush 21, 2) := by decide +kernel
theorem dX3_init_16 : decode cX3_init 16 = .ok (.newarray .int, 2) := by decide +kernel
theorem dX3_init_18 : decode cX3_init 18 = .ok (.putfield 15, 3) := by decide +kernel
theorem dX3_init_21 : decode cX3_init 21 = .ok (.return_, 1) := by decide +kernel
theorem ck_X3_init (l : Launch) (D : va_G) (k : Nat → ClassId) (this : Nat) : CK l D (TY k) yX3_init cX3_init 1 1 22 2 1021 [.ref this] [(this, .inr (2, [.null, .null, .int 0]))] (fun q => [(this, .inr (2, [.ref (q 0), .ref (q 1), .int 0])), ((q 0), .inl (k 0, 1000, .inl (fun _ => 0))), ((q 1), .inl (k 0, 21, .inl (fun _ => 0)))]) := by
  refine CK.mk (by decide) (Nat.le_of_ble_eq_true rfl) ?_
  intro p e s m args below meth c ls A ⟨hx, hb, hr, hts, hown, hlocks, hml⟩ hin hP hG hD hA hl hS hq
  have hl : lv_has ls 1 [(0, .ref this)] := hl
  refine lv_aload_n (pc := 0) hx hb dX3_init_0 rfl (lv_at hl 0 rfl) ?_
  refine W.objInit hx hb hown (hts _ kw_183) (hts _ kw_34) (hts _ kw_35) rfl (by rw [hml]; exact hl.1) rfl dX3_init_1 (Nat.le_of_ble_eq_true rfl) (Nat.le_of_ble_eq_true rfl) ?_
  refine W.eq (g2 := F0 m 4 ls []) rfl ?_
  refine lv_aload_n (pc := 4) hx hb dX3_init_4 rfl (lv_at hl 0 rfl) ?_
  refine lv_sipush (v := 1000) (pc := 5) hx hb dX3_init_5 (by decide) ?_
  refine nk_int (pc := 8) (N' := 1000) hx hb (hts _ kw_109) hG hP hD hS hA (by decide) rfl (Nat.le_of_ble_eq_true rfl) (Nat.le_of_ble_eq_true rfl) (Nat.le_of_ble_eq_true rfl) dX3_init_8 (fun q0 H hP hD hS => ?_)
  refine va_putF (pc := 10) (D := D) (ci := 2) (v := .ref q0) (ty := .array .int) (C := RX3) (T := TX3) (N := 3) hx hb hts hiX3 tyX3 tyX3_ok nmX3 hown hG.1 hP hD hS 0 rfl rfl 0 (Nat.le_of_ble_eq_true rfl) (hts _ kw_184) (fun _ h9 => h9) rfl hin rfl (by decide +kernel) rfl rfl (Nat.le_of_ble_eq_true rfl) dX3_init_10 (fun H locs hP hD hS => ?_)
  refine lv_aload_n (pc := 13) hx hb dX3_init_13 rfl (lv_at hl 0 rfl) ?_
  refine lv_bipush (v := 21) (pc := 14) hx hb dX3_init_14 (by decide) ?_
  refine nk_int (pc := 16) (N' := 21) hx hb (hts _ kw_109) hG hP hD hS hA (by decide) rfl (Nat.le_of_ble_eq_true rfl) (Nat.le_of_ble_eq_true rfl) (Nat.le_of_ble_eq_true rfl) dX3_init_16 (fun q1 H hP hD hS => ?_)
  refine va_putF (pc := 18) (D := D) (ci := 2) (v := .ref q1) (ty := .array .int) (C := RX3) (T := TX3) (N := 3) hx hb hts hiX3 tyX3 tyX3_ok nmX3 hown hG.1 hP hD hS 0 rfl rfl 1 (Nat.le_of_ble_eq_true rfl) (hts _ kw_185) (fun _ h9 => h9) rfl hin rfl (by decide +kernel) rfl rfl (Nat.le_of_ble_eq_true rfl) dX3_init_18 (fun H locs hP hD hS => ?_)
  exact W.vret hx hb hr (fun t ht _ => hq (fun j => ([q0, q1] : List Nat).getD j 0) H t ht hP hD locs hS) hS.2.2 dX3_init_21 hlocks
theorem dX10_init_0 : decode cX10_init 0 = .ok (.aload_n 0, 1) := by decide +kernel
theorem dX10_init_1 : decode cX10_init 1 = .ok (.invokespecial 3, 3) := by decide +kernel
theorem dX10_init_4 : decode cX10_init 4 = .ok (.aload_n 0, 1) := by decide +kernel
theorem dX10_init_5 : decode cX10_init 5 = .ok (.bipush 40, 2) := by decide +kernel
theorem dX10_init_7 : decode cX10_init 7 = .ok (.newarray .int, 2) := by decide +kernel
theorem dX10_init_9 : decode cX10_init 9 = .ok (.putfield 9, 3) := by decide +kernel
theorem dX10_init_12 : decode cX10_init 12 = .ok (.aload_n 0, 1) := by decide +kernel
theorem dX10_init_13 : decode cX10_init 13 = .ok (.bipush 40, 2) := by decide +kernel
theorem dX10_init_15 : decode cX10_init 15 = .ok (.newarray .int, 2) := by decide +kernel
theorem dX10_init_17 : decode cX10_init 17 = .ok (.putfield 15, 3) := by decide +kernel
theorem dX10_init_20 : decode cX10_init 20 = .ok (.aload_n 0, 1) := by decide +kernel
theorem dX10_init_21 : decode cX10_init 21 = .ok (.bipush 40, 2) := by decide +kernel
theorem dX10_init_23 : decode cX10_init 23 = .ok (.newarray .int, 2) := by decide +kernel
theorem dX10_init_25 : decode cX10_init 25 = .ok (.putfield 18, 3) := by decide +kernel
theorem dX10_init_28 : decode cX10_init 28 = .ok (.return_, 1) := by decide +kernel
theorem ck_X10_init (l : Launch) (D : va_G) (k : Nat → ClassId) (this : Nat) : CK l D (TY k) yX10_init cX10_init 1 1 22 3 120 [.ref this] [(this, .inr (8, [.null, .null, .null, .int 0]))] (fun q => [(this, .inr (8, [.ref (q 0), .ref (q 1), .ref (q 2), .int 0])), ((q 0), .inl (k 0, 40, .inl (fun _ => 0))), ((q 1), .inl (k 0, 40, .inl (fun _ => 0))), ((q 2), .inl (k 0, 40, .inl (fun _ => 0)))]) := by
  refine CK.mk (by decide) (Nat.le_of_ble_eq_true rfl) ?_
  intro p e s m args below meth c ls A ⟨hx, hb, hr, hts, hown, hlocks, hml⟩ hin hP hG hD hA hl hS hq
  have hl : lv_has ls 1 [(0, .ref this)] := hl
  refine lv_aload_n (pc := 0) hx hb dX10_init_0 rfl (lv_at hl 0 rfl) ?_
  refine W.objInit hx hb hown (hts _ kw_238) (hts _ kw_34) (hts _ kw_35) rfl (by rw [hml]; exact hl.1) rfl dX10_init_1 (Nat.le_of_ble_eq_true rfl) (Nat.le_of_ble_eq_true rfl) ?_
  refine W.eq (g2 := F0 m 4 ls []) rfl ?_
  refine lv_aload_n (pc := 4) hx hb dX10_init_4 rfl (lv_at hl 0 rfl) ?_
  refine lv_bipush (v := 40) (pc := 5) hx hb dX10_init_5 (by decide) ?_
  refine nk_int (pc := 7) (N' := 40) hx hb (hts _ kw_109) hG hP hD hS hA (by decide) rfl (Nat.le_of_ble_eq_true rfl) (Nat.le_of_ble_eq_true rfl) (Nat.le_of_ble_eq_true rfl) dX10_init_7 (fun q0 H hP hD hS => ?_)
  refine va_putF (pc := 9) (D := D) (ci := 8) (v := .ref q0) (ty := .array .int) (C := RX10) (T := TX10) (N := 4) hx hb hts hiX10 tyX10 tyX10_ok nmX10 hown hG.1 hP hD hS 0 rfl rfl 0 (Nat.le_of_ble_eq_true rfl) (hts _ kw_239) (fun _ h9 => h9) rfl hin rfl (by decide +kernel) rfl rfl (Nat.le_of_ble_eq_true rfl) dX10_init_9 (fun H locs hP hD hS => ?_)
  refine lv_aload_n (pc := 12) hx hb dX10_init_12 rfl (lv_at hl 0 rfl) ?_
  refine lv_bipush (v := 40) (pc := 13) hx hb dX10_init_13 (by decide) ?_
  refine nk_int (pc := 15) (N' := 40) hx hb (hts _ kw_109) hG hP hD hS hA (by decide) rfl (Nat.le_of_ble_eq_true rfl) (Nat.le_of_ble_eq_true rfl) (Nat.le_of_ble_eq_true rfl) dX10_init_15 (fun q1 H hP hD hS => ?_)
  refine va_putF (pc := 17) (D := D) (ci := 8) (v := .ref q1) (ty := .array .int) (C := RX10) (T := TX10) (N := 4) hx hb hts hiX10 tyX10 tyX10_ok nmX10 hown hG.1 hP hD hS 0 rfl rfl 1 (Nat.le_of_ble_eq_true rfl) (hts _ kw_240) (fun _ h9 => h9) rfl hin rfl (by decide +kernel) rfl rfl (Nat.le_of_ble_eq_true rfl) dX10_init_17 (fun H locs hP hD hS => ?_)
  refine lv_aload_n (pc := 20) hx hb dX10_init_20 rfl (lv_at hl 0 rfl) ?_
  refine lv_bipush (v := 40) (pc := 21) hx hb dX10_init_21 (by decide) ?_
  refine nk_int (pc := 23) (N' := 40) hx hb (hts _ kw_109) hG hP hD hS hA (by decide) rfl (Nat.le_of_ble_eq_true rfl) (Nat.le_of_ble_eq_true rfl) (Nat.le_of_ble_eq_true rfl) dX10_init_23 (fun q2 H hP hD hS => ?_)
  refine va_putF (pc := 25) (D := D) (ci := 8) (v := .ref q2) (ty := .array .int) (C := RX10) (T := TX10) (N := 4) hx hb hts hiX10 tyX10 tyX10_ok nmX10 hown hG.1 hP hD hS 0 rfl rfl 2 (Nat.le_of_ble_eq_true rfl) (hts _ kw_241) (fun _ h9 => h9) rfl hin rfl (by decide +kernel) rfl rfl (Nat.le_of_ble_eq_true rfl) dX10_init_25 (fun H locs hP hD hS => ?_)
  exact W.vret hx hb hr (fun t ht _ => hq (fun j => ([q0, q1, q2] : List Nat).getD j 0) H t ht hP hD locs hS) hS.2.2 dX10_init_28 hlocks
theorem dX1_init_0 : decode cX1_init 0 = .ok (.aload_n 0, 1) := by decide +kernel
theorem dX1_init_1 : decode cX1_init 1 = .ok (.invokespecial 3, 3) := by decide +kernel
theorem dX1_init_4 : decode cX1_init 4 = .ok (.aload_n 0, 1) := by decide +kernel
theorem dX1_init_5 : decode cX1_init 5 = .ok (.new 9, 3) := by decide +kernel
theorem dX1_init_8 : decode cX1_init 8 = .ok (.dup, 1) := by decide +kernel
theorem dX1_init_9 : decode cX1_init 9 = .ok (.invokespecial 11, 3) := by decide +kernel
theorem dX1_init_12 : decode cX1_init 12 = .ok (.putfield 12, 3) := by decide +kernel
theorem dX1_init_15 : decode cX1_init 15 = .ok (.aload_n 0, 1) := by decide +kernel
theorem dX1_init_16 : decode cX1_init 16 = .ok (.bipush 6, 2) := by decide +kernel
theorem dX1_init_18 : decode cX1_init 18 = .ok (.newarray .int, 2) := by decide +kernel
theorem dX1_init_20 : decode cX1_init 20 = .ok (.putfield 18, 3) := by decide +kernel
theorem dX1_init_23 : decode cX1_init 23 = .ok (.return_, 1) := by decide +kernel
theorem ck_X1_init (l : Launch) (D : va_G) (k : Nat → ClassId) (this : Nat) : CK l D (TY k) yX1_init cX1_init 1 2 42 4 21 [.ref this] [(this, .inr (0, [.null, .null, .null, .int 0, .int 0, .int 0]))] (fun q => [(this, .inr (0, [.ref (q 0), .ref (q 3), .null, .int 0, .int 0, .int 0])), ((q 0), .inr (5, [.ref (q 1), .ref (q 2), .int 0])), ((q 1), .inl (k 0, 6, .inl (fun _ => 0))), ((q 2), .inl (k 0, 6, .inl (fun _ => 0))), ((q 3), .inl (k 0, 6, .inl (fun _ => 0)))]) := by
  refine CK.mk (by decide) (Nat.le_of_ble_eq_true rfl) ?_
  intro p e s m args below meth c ls A ⟨hx, hb, hr, hts, hown, hlocks, hml⟩ hin hP hG hD hA hl hS hq
  have hl : lv_has ls 1 [(0, .ref this)] := hl
  refine lv_aload_n (pc := 0) hx hb dX1_init_0 rfl (lv_at hl 0 rfl) ?_
  refine W.objInit hx hb hown (hts _ kw_145) (hts _ kw_34) (hts _ kw_35) rfl (by rw [hml]; exact hl.1) rfl dX1_init_1 (Nat.le_of_ble_eq_true rfl) (Nat.le_of_ble_eq_true rfl) ?_
  refine W.eq (g2 := F0 m 4 ls []) rfl ?_
  refine lv_aload_n (pc := 4) hx hb dX1_init_4 rfl (lv_at hl 0 rfl) ?_
  refine va_new (pc := 5) (D := D) (ci := 5) (C := RX6) (T := TX6) (N := 3) (fs := [.null, .null, .int 0]) hx hb hts hiX6 tyX6 tyX6_ok hown (hts _ kw_146) (hts _ kw_89) (hts _ kw_6) hG.1 hP hD hS hA rfl (fun j hj => by rcases (show j = 0 ∨ j = 1 ∨ j = 2 by omega) with rfl | rfl | rfl <;> rfl) (Nat.le_of_ble_eq_true rfl) (Nat.le_of_ble_eq_true rfl) dX1_init_5 (fun q0 H hP hD hS => ?_)
  refine lv_dup (pc := 8) hx hb dX1_init_8 rfl ?_
  refine ck_back (run_IN (pc := 9) (n := 0) (As := []) (rest := [.ref q0, .ref this]) ⟨hx, hb, hml, hown, hts⟩ (ck_X6_init l D k q0 H.size) ⟨kw_92, kw_6, by decide +kernel⟩ rfl hG kn_147 kw_91 ⟨(Nat.le_of_ble_eq_true rfl), (Nat.le_of_ble_eq_true rfl)⟩ pw_blind (prW (hP.sub [1] rfl) hG (hD.sub [1] (by decide) rfl)) rfl hl.1 rfl (Nat.le_of_ble_eq_true rfl) dX1_init_9 ⟨(Nat.le_of_ble_eq_true rfl), (Nat.le_of_ble_eq_true rfl)⟩) hP hD hS hA (fun g1 H locs hP hD hS => ?_)
  refine va_putF (pc := 12) (D := D) (ci := 0) (v := .ref q0) (ty := .object "HalfMast$State") (C := RX1) (T := TX1) (N := 6) hx hb hts hiX1 tyX1 tyX1_ok nmX1 hown hG.1 hP hD hS 0 rfl rfl 0 (Nat.le_of_ble_eq_true rfl) (hts _ kw_148) (fun _ h9 => h9) rfl hin rfl (by decide +kernel) rfl rfl (Nat.le_of_ble_eq_true rfl) dX1_init_12 (fun H locs hP hD hS => ?_)
  refine lv_aload_n (pc := 15) hx hb dX1_init_15 rfl (lv_at hl 0 rfl) ?_
  refine lv_bipush (v := 6) (pc := 16) hx hb dX1_init_16 (by decide) ?_
  refine nk_int (pc := 18) (N' := 6) hx hb (hts _ kw_109) hG hP hD hS hA (by decide) rfl (Nat.le_of_ble_eq_true rfl) (Nat.le_of_ble_eq_true rfl) (Nat.le_of_ble_eq_true rfl) dX1_init_18 (fun q2 H hP hD hS => ?_)
  refine va_putF (pc := 20) (D := D) (ci := 0) (v := .ref q2) (ty := .array .int) (C := RX1) (T := TX1) (N := 6) hx hb hts hiX1 tyX1 tyX1_ok nmX1 hown hG.1 hP hD hS 0 rfl rfl 1 (Nat.le_of_ble_eq_true rfl) (hts _ kw_151) (fun _ h9 => h9) rfl hin rfl (by decide +kernel) rfl rfl (Nat.le_of_ble_eq_true rfl) dX1_init_20 (fun H locs hP hD hS => ?_)
  exact W.vret hx hb hr (fun t ht _ => hq (fun j => ([q0, (g1 0), (g1 1), q2] : List Nat).getD j 0) H t ht hP hD locs hS) hS.2.2 dX1_init_23 hlocks
theorem dX8_init_0 : decode cX8_init 0 = .ok (.aload_n 0, 1) := by decide +kernel
theorem dX8_init_1 : decode cX8_init 1 = .ok (.invokespecial 3, 3) := by decide +kernel
theorem dX8_init_4 : decode cX8_init 4 = .ok (.aload_n 0, 1) := by decide +kernel
theorem dX8_init_5 : decode cX8_init 5 = .ok (.bipush 6, 2) := by decide +kernel
theorem dX8_init_7 : decode cX8_init 7 = .ok (.newarray .long, 2) := by decide +kernel
theorem dX8_init_9 : decode cX8_init 9 = .ok (.putfield 9, 3) := by decide +kernel
theorem dX8_init_12 : decode cX8_init 12 = .ok (.aload_n 0, 1) := by decide +kernel
theorem dX8_init_13 : decode cX8_init 13 = .ok (.bipush 6, 2) := by decide +kernel
theorem dX8_init_15 : decode cX8_init 15 = .ok (.newarray .int, 2) := by decide +kernel
theorem dX8_init_17 : decode cX8_init 17 = .ok (.putfield 15, 3) := by decide +kernel
theorem dX8_init_20 : decode cX8_init 20 = .ok (.aload_n 0, 1) := by decide +kernel
theorem dX8_init_21 : decode cX8_init 21 = .ok (.new 19, 3) := by decide +kernel
theorem dX8_init_24 : decode cX8_init 24 = .ok (.dup, 1) := by decide +kernel
theorem dX8_init_25 : decode cX8_init 25 = .ok (.invokespecial 21, 3) := by decide +kernel
theorem dX8_init_28 : decode cX8_init 28 = .ok (.putfield 22, 3) := by decide +kernel
theorem dX8_init_31 : decode cX8_init 31 = .ok (.aload_n 0, 1) := by decide +kernel
theorem dX8_init_32 : decode cX8_init 32 = .ok (.new 26, 3) := by decide +kernel
theorem dX8_init_35 : decode cX8_init 35 = .ok (.dup, 1) := by decide +kernel
theorem dX8_init_36 : decode cX8_init 36 = .ok (.invokespecial 28, 3) := by decide +kernel
theorem dX8_init_39 : decode cX8_init 39 = .ok (.putfield 29, 3) := by decide +kernel
theorem dX8_init_42 : decode cX8_init 42 = .ok (.return_, 1) := by decide +kernel
theorem ck_X8_init (l : Launch) (D : va_G) (k : Nat → ClassId) (this : Nat) : CK l D (TY k) yX8_init cX8_init 1 2 42 8 1051 [.ref this] [(this, .inr (7, [.null, .null, .null, .null, .int 0, .int 0, .int 0, .int 0, .int 0]))] (fun q => [(this, .inr (7, [.ref (q 0), .ref (q 1), .ref (q 2), .ref (q 5), .int 0, .int 0, .int 0, .int 0, .int 0])), ((q 0), .inl (k 1, 6, .inr (.inl (fun _ => 0)))), ((q 1), .inl (k 0, 6, .inl (fun _ => 0))), ((q 2), .inr (5, [.ref (q 3), .ref (q 4), .int 0])), ((q 3), .inl (k 0, 6, .inl (fun _ => 0))), ((q 4), .inl (k 0, 6, .inl (fun _ => 0))), ((q 5), .inr (2, [.ref (q 6), .ref (q 7), .int 0])), ((q 6), .inl (k 0, 1000, .inl (fun _ => 0))), ((q 7), .inl (k 0, 21, .inl (fun _ => 0)))]) := by
  refine CK.mk (by decide) (Nat.le_of_ble_eq_true rfl) ?_
  intro p e s m args below meth c ls A ⟨hx, hb, hr, hts, hown, hlocks, hml⟩ hin hP hG hD hA hl hS hq
  have hl : lv_has ls 1 [(0, .ref this)] := hl
  refine lv_aload_n (pc := 0) hx hb dX8_init_0 rfl (lv_at hl 0 rfl) ?_
  refine W.objInit hx hb hown (hts _ kw_175) (hts _ kw_34) (hts _ kw_35) rfl (by rw [hml]; exact hl.1) rfl dX8_init_1 (Nat.le_of_ble_eq_true rfl) (Nat.le_of_ble_eq_true rfl) ?_
  refine W.eq (g2 := F0 m 4 ls []) rfl ?_
  refine lv_aload_n (pc := 4) hx hb dX8_init_4 rfl (lv_at hl 0 rfl) ?_
  refine lv_bipush (v := 6) (pc := 5) hx hb dX8_init_5 (by decide) ?_
  refine nk_long (pc := 7) (N' := 6) hx hb (hts _ kw_194) hG hP hD hS hA (by decide) rfl (Nat.le_of_ble_eq_true rfl) (Nat.le_of_ble_eq_true rfl) (Nat.le_of_ble_eq_true rfl) dX8_init_7 (fun q0 H hP hD hS => ?_)
  refine va_putF (pc := 9) (D := D) (ci := 7) (v := .ref q0) (ty := .array .long) (C := RX8) (T := TX8) (N := 9) hx hb hts hiX8 tyX8 tyX8_ok nmX8 hown hG.1 hP hD hS 0 rfl rfl 0 (Nat.le_of_ble_eq_true rfl) (hts _ kw_195) (fun _ h9 => h9) rfl hin rfl (by decide +kernel) rfl rfl (Nat.le_of_ble_eq_true rfl) dX8_init_9 (fun H locs hP hD hS => ?_)
  refine lv_aload_n (pc := 12) hx hb dX8_init_12 rfl (lv_at hl 0 rfl) ?_
  refine lv_bipush (v := 6) (pc := 13) hx hb dX8_init_13 (by decide) ?_
  refine nk_int (pc := 15) (N' := 6) hx hb (hts _ kw_109) hG hP hD hS hA (by decide) rfl (Nat.le_of_ble_eq_true rfl) (Nat.le_of_ble_eq_true rfl) (Nat.le_of_ble_eq_true rfl) dX8_init_15 (fun q1 H hP hD hS => ?_)
  refine va_putF (pc := 17) (D := D) (ci := 7) (v := .ref q1) (ty := .array .int) (C := RX8) (T := TX8) (N := 9) hx hb hts hiX8 tyX8 tyX8_ok nmX8 hown hG.1 hP hD hS 0 rfl rfl 1 (Nat.le_of_ble_eq_true rfl) (hts _ kw_196) (fun _ h9 => h9) rfl hin rfl (by decide +kernel) rfl rfl (Nat.le_of_ble_eq_true rfl) dX8_init_17 (fun H locs hP hD hS => ?_)
  refine lv_aload_n (pc := 20) hx hb dX8_init_20 rfl (lv_at hl 0 rfl) ?_
  refine va_new (pc := 21) (D := D) (ci := 5) (C := RX6) (T := TX6) (N := 3) (fs := [.null, .null, .int 0]) hx hb hts hiX6 tyX6 tyX6_ok hown (hts _ kw_176) (hts _ kw_89) (hts _ kw_6) hG.1 hP hD hS hA rfl (fun j hj => by rcases (show j = 0 ∨ j = 1 ∨ j = 2 by omega) with rfl | rfl | rfl <;> rfl) (Nat.le_of_ble_eq_true rfl) (Nat.le_of_ble_eq_true rfl) dX8_init_21 (fun q2 H hP hD hS => ?_)
  refine lv_dup (pc := 24) hx hb dX8_init_24 rfl ?_
  refine ck_back (run_IN (pc := 25) (n := 0) (As := []) (rest := [.ref q2, .ref this]) ⟨hx, hb, hml, hown, hts⟩ (ck_X6_init l D k q2 H.size) ⟨kw_92, kw_6, by decide +kernel⟩ rfl hG kn_177 kw_91 ⟨(Nat.le_of_ble_eq_true rfl), (Nat.le_of_ble_eq_true rfl)⟩ pw_blind (prW (hP.sub [3] rfl) hG (hD.sub [3] (by decide) rfl)) rfl hl.1 rfl (Nat.le_of_ble_eq_true rfl) dX8_init_25 ⟨(Nat.le_of_ble_eq_true rfl), (Nat.le_of_ble_eq_true rfl)⟩) hP hD hS hA (fun g3 H locs hP hD hS => ?_)
  refine va_putF (pc := 28) (D := D) (ci := 7) (v := .ref q2) (ty := .object "HalfMast$State") (C := RX8) (T := TX8) (N := 9) hx hb hts hiX8 tyX8 tyX8_ok nmX8 hown hG.1 hP hD hS 0 rfl rfl 2 (Nat.le_of_ble_eq_true rfl) (hts _ kw_198) (fun _ h9 => h9) rfl hin rfl (by decide +kernel) rfl rfl (Nat.le_of_ble_eq_true rfl) dX8_init_28 (fun H locs hP hD hS => ?_)
  refine lv_aload_n (pc := 31) hx hb dX8_init_31 rfl (lv_at hl 0 rfl) ?_
  refine va_new (pc := 32) (D := D) (ci := 2) (C := RX3) (T := TX3) (N := 3) (fs := [.null, .null, .int 0]) hx hb hts hiX3 tyX3 tyX3_ok hown (hts _ kw_178) (hts _ kw_179) (hts _ kw_10) hG.1 hP hD hS hA rfl (fun j hj => by rcases (show j = 0 ∨ j = 1 ∨ j = 2 by omega) with rfl | rfl | rfl <;> rfl) (Nat.le_of_ble_eq_true rfl) (Nat.le_of_ble_eq_true rfl) dX8_init_32 (fun q4 H hP hD hS => ?_)
  refine lv_dup (pc := 35) hx hb dX8_init_35 rfl ?_
  refine ck_back (run_IN (pc := 36) (n := 0) (As := []) (rest := [.ref q4, .ref this]) ⟨hx, hb, hml, hown, hts⟩ (ck_X3_init l D k q4 H.size) ⟨kw_182, kw_10, by decide +kernel⟩ rfl hG kn_180 kw_181 ⟨(Nat.le_of_ble_eq_true rfl), (Nat.le_of_ble_eq_true rfl)⟩ pw_blind (prW (hP.sub [6] rfl) hG (hD.sub [6] (by decide) rfl)) rfl hl.1 rfl (Nat.le_of_ble_eq_true rfl) dX8_init_36 ⟨(Nat.le_of_ble_eq_true rfl), (Nat.le_of_ble_eq_true rfl)⟩) hP hD hS hA (fun g5 H locs hP hD hS => ?_)
  refine va_putF (pc := 39) (D := D) (ci := 7) (v := .ref q4) (ty := .object "HalfMast$Law") (C := RX8) (T := TX8) (N := 9) hx hb hts hiX8 tyX8 tyX8_ok nmX8 hown hG.1 hP hD hS 0 rfl rfl 3 (Nat.le_of_ble_eq_true rfl) (hts _ kw_200) (fun _ h9 => h9) rfl hin rfl (by decide +kernel) rfl rfl (Nat.le_of_ble_eq_true rfl) dX8_init_39 (fun H locs hP hD hS => ?_)
  exact W.vret hx hb hr (fun t ht _ => hq (fun j => ([q0, q1, q2, (g3 0), (g3 1), q4, (g5 0), (g5 1)] : List Nat).getD j 0) H t ht hP hD locs hS) hS.2.2 dX8_init_42 hlocks
theorem dX4_init_0 : decode cX4_init 0 = .ok (.aload_n 0, 1) := by decide +kernel
theorem dX4_init_1 : decode cX4_init 1 = .ok (.invokespecial 1, 3) := by decide +kernel
theorem dX4_init_4 : decode cX4_init 4 = .ok (.aload_n 0, 1) := by decide +kernel
theorem dX4_init_5 : decode cX4_init 5 = .ok (.new 7, 3) := by decide +kernel
theorem dX4_init_8 : decode cX4_init 8 = .ok (.dup, 1) := by decide +kernel
theorem dX4_init_9 : decode cX4_init 9 = .ok (.invokespecial 9, 3) := by decide +kernel
theorem dX4_init_12 : decode cX4_init 12 = .ok (.putfield 10, 3) := by decide +kernel
theorem dX4_init_15 : decode cX4_init 15 = .ok (.aload_n 0, 1) := by decide +kernel
theorem dX4_init_16 : decode cX4_init 16 = .ok (.new 16, 3) := by decide +kernel
theorem dX4_init_19 : decode cX4_init 19 = .ok (.dup, 1) := by decide +kernel
theorem dX4_init_20 : decode cX4_init 20 = .ok (.invokespecial 18, 3) := by decide +kernel
theorem dX4_init_23 : decode cX4_init 23 = .ok (.putfield 19, 3) := by decide +kernel
theorem dX4_init_26 : decode cX4_init 26 = .ok (.aload_n 0, 1) := by decide +kernel
theorem dX4_init_27 : decode cX4_init 27 = .ok (.new 16, 3) := by decide +kernel
theorem dX4_init_30 : decode cX4_init 30 = .ok (.dup, 1) := by decide +kernel
theorem dX4_init_31 : decode cX4_init 31 = .ok (.invokespecial 18, 3) := by decide +kernel
theorem dX4_init_34 : decode cX4_init 34 = .ok (.putfield 23, 3) := by decide +kernel
theorem dX4_init_37 : decode cX4_init 37 = .ok (.return_, 1) := by decide +kernel
theorem ck_X4_init (l : Launch) (D : va_G) (k : Nat → ClassId) (this : Nat) : CK l D (TY k) yX4_init cX4_init 1 2 42 9 53 [.ref this] [(this, .inr (3, [.null, .null, .null, .int 0]))] (fun q => [(this, .inr (3, [.ref (q 0), .ref (q 3), .ref (q 6), .int 0])), ((q 0), .inr (5, [.ref (q 1), .ref (q 2), .int 0])), ((q 1), .inl (k 0, 6, .inl (fun _ => 0))), ((q 2), .inl (k 0, 6, .inl (fun _ => 0))), ((q 3), .inr (4, [.ref (q 4), .ref (q 5), .int 0])), ((q 4), .inl (k 0, 8, .inl (fun _ => 0))), ((q 5), .inl (k 0, 8, .inl (fun _ => 0))), ((q 6), .inr (4, [.ref (q 7), .ref (q 8), .int 0])), ((q 7), .inl (k 0, 8, .inl (fun _ => 0))), ((q 8), .inl (k 0, 8, .inl (fun _ => 0)))]) := by
  refine CK.mk (by decide) (Nat.le_of_ble_eq_true rfl) ?_
  intro p e s m args below meth c ls A ⟨hx, hb, hr, hts, hown, hlocks, hml⟩ hin hP hG hD hA hl hS hq
  have hl : lv_has ls 1 [(0, .ref this)] := hl
  refine lv_aload_n (pc := 0) hx hb dX4_init_0 rfl (lv_at hl 0 rfl) ?_
  refine W.objInit hx hb hown (hts _ kw_257) (hts _ kw_34) (hts _ kw_35) rfl (by rw [hml]; exact hl.1) rfl dX4_init_1 (Nat.le_of_ble_eq_true rfl) (Nat.le_of_ble_eq_true rfl) ?_
  refine W.eq (g2 := F0 m 4 ls []) rfl ?_
  refine lv_aload_n (pc := 4) hx hb dX4_init_4 rfl (lv_at hl 0 rfl) ?_
  refine va_new (pc := 5) (D := D) (ci := 5) (C := RX6) (T := TX6) (N := 3) (fs := [.null, .null, .int 0]) hx hb hts hiX6 tyX6 tyX6_ok hown (hts _ kw_258) (hts _ kw_89) (hts _ kw_6) hG.1 hP hD hS hA rfl (fun j hj => by rcases (show j = 0 ∨ j = 1 ∨ j = 2 by omega) with rfl | rfl | rfl <;> rfl) (Nat.le_of_ble_eq_true rfl) (Nat.le_of_ble_eq_true rfl) dX4_init_5 (fun q0 H hP hD hS => ?_)
  refine lv_dup (pc := 8) hx hb dX4_init_8 rfl ?_
  refine ck_back (run_IN (pc := 9) (n := 0) (As := []) (rest := [.ref q0, .ref this]) ⟨hx, hb, hml, hown, hts⟩ (ck_X6_init l D k q0 H.size) ⟨kw_92, kw_6, by decide +kernel⟩ rfl hG kn_259 kw_91 ⟨(Nat.le_of_ble_eq_true rfl), (Nat.le_of_ble_eq_true rfl)⟩ pw_blind (prW (hP.sub [1] rfl) hG (hD.sub [1] (by decide) rfl)) rfl hl.1 rfl (Nat.le_of_ble_eq_true rfl) dX4_init_9 ⟨(Nat.le_of_ble_eq_true rfl), (Nat.le_of_ble_eq_true rfl)⟩) hP hD hS hA (fun g1 H locs hP hD hS => ?_)
  refine va_putF (pc := 12) (D := D) (ci := 3) (v := .ref q0) (ty := .object "HalfMast$State") (C := RX4) (T := TX4) (N := 4) hx hb hts hiX4 tyX4 tyX4_ok nmX4 hown hG.1 hP hD hS 0 rfl rfl 0 (Nat.le_of_ble_eq_true rfl) (hts _ kw_262) (fun _ h9 => h9) rfl hin rfl (by decide +kernel) rfl rfl (Nat.le_of_ble_eq_true rfl) dX4_init_12 (fun H locs hP hD hS => ?_)
  refine lv_aload_n (pc := 15) hx hb dX4_init_15 rfl (lv_at hl 0 rfl) ?_
  refine va_new (pc := 16) (D := D) (ci := 4) (C := RX5) (T := TX5) (N := 3) (fs := [.null, .null, .int 0]) hx hb hts hiX5 tyX5 tyX5_ok hown (hts _ kw_260) (hts _ kw_122) (hts _ kw_7) hG.1 hP hD hS hA rfl (fun j hj => by rcases (show j = 0 ∨ j = 1 ∨ j = 2 by omega) with rfl | rfl | rfl <;> rfl) (Nat.le_of_ble_eq_true rfl) (Nat.le_of_ble_eq_true rfl) dX4_init_16 (fun q2 H hP hD hS => ?_)
  refine lv_dup (pc := 19) hx hb dX4_init_19 rfl ?_
  refine ck_back (run_IN (pc := 20) (n := 0) (As := []) (rest := [.ref q2, .ref this]) ⟨hx, hb, hml, hown, hts⟩ (ck_X5_init l D k q2 H.size) ⟨kw_125, kw_7, by decide +kernel⟩ rfl hG kn_261 kw_124 ⟨(Nat.le_of_ble_eq_true rfl), (Nat.le_of_ble_eq_true rfl)⟩ pw_blind (prW (hP.sub [4] rfl) hG (hD.sub [4] (by decide) rfl)) rfl hl.1 rfl (Nat.le_of_ble_eq_true rfl) dX4_init_20 ⟨(Nat.le_of_ble_eq_true rfl), (Nat.le_of_ble_eq_true rfl)⟩) hP hD hS hA (fun g3 H locs hP hD hS => ?_)
  refine va_putF (pc := 23) (D := D) (ci := 3) (v := .ref q2) (ty := .object "HalfMast$Notes") (C := RX4) (T := TX4) (N := 4) hx hb hts hiX4 tyX4 tyX4_ok nmX4 hown hG.1 hP hD hS 0 rfl rfl 1 (Nat.le_of_ble_eq_true rfl) (hts _ kw_264) (fun _ h9 => h9) rfl hin rfl (by decide +kernel) rfl rfl (Nat.le_of_ble_eq_true rfl) dX4_init_23 (fun H locs hP hD hS => ?_)
  refine lv_aload_n (pc := 26) hx hb dX4_init_26 rfl (lv_at hl 0 rfl) ?_
  refine va_new (pc := 27) (D := D) (ci := 4) (C := RX5) (T := TX5) (N := 3) (fs := [.null, .null, .int 0]) hx hb hts hiX5 tyX5 tyX5_ok hown (hts _ kw_260) (hts _ kw_122) (hts _ kw_7) hG.1 hP hD hS hA rfl (fun j hj => by rcases (show j = 0 ∨ j = 1 ∨ j = 2 by omega) with rfl | rfl | rfl <;> rfl) (Nat.le_of_ble_eq_true rfl) (Nat.le_of_ble_eq_true rfl) dX4_init_27 (fun q4 H hP hD hS => ?_)
  refine lv_dup (pc := 30) hx hb dX4_init_30 rfl ?_
  refine ck_back (run_IN (pc := 31) (n := 0) (As := []) (rest := [.ref q4, .ref this]) ⟨hx, hb, hml, hown, hts⟩ (ck_X5_init l D k q4 H.size) ⟨kw_125, kw_7, by decide +kernel⟩ rfl hG kn_261 kw_124 ⟨(Nat.le_of_ble_eq_true rfl), (Nat.le_of_ble_eq_true rfl)⟩ pw_blind (prW (hP.sub [7] rfl) hG (hD.sub [7] (by decide) rfl)) rfl hl.1 rfl (Nat.le_of_ble_eq_true rfl) dX4_init_31 ⟨(Nat.le_of_ble_eq_true rfl), (Nat.le_of_ble_eq_true rfl)⟩) hP hD hS hA (fun g5 H locs hP hD hS => ?_)
  refine va_putF (pc := 34) (D := D) (ci := 3) (v := .ref q4) (ty := .object "HalfMast$Notes") (C := RX4) (T := TX4) (N := 4) hx hb hts hiX4 tyX4 tyX4_ok nmX4 hown hG.1 hP hD hS 0 rfl rfl 2 (Nat.le_of_ble_eq_true rfl) (hts _ kw_266) (fun _ h9 => h9) rfl hin rfl (by decide +kernel) rfl rfl (Nat.le_of_ble_eq_true rfl) dX4_init_34 (fun H locs hP hD hS => ?_)
  exact W.vret hx hb hr (fun t ht _ => hq (fun j => ([q0, (g1 0), (g1 1), q2, (g3 0), (g3 1), q4, (g5 0), (g5 1)] : List Nat).getD j 0) H t ht hP hD locs hS) hS.2.2 dX4_init_37 hlocks
