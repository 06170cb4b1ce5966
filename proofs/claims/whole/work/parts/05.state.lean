theorem dX11_within_0 : decode cX11_within 0 = .ok (.iload_n 0, 1) := by decide +kernel
theorem dX11_within_1 : decode cX11_within 1 = .ok (.iload_n 1, 1) := by decide +kernel
theorem dX11_within_2 : decode cX11_within 2 = .ok (.if_icmp .lt 12, 3) := by decide +kernel
theorem dX11_within_5 : decode cX11_within 5 = .ok (.iload_n 0, 1) := by decide +kernel
theorem dX11_within_6 : decode cX11_within 6 = .ok (.iload_n 2, 1) := by decide +kernel
theorem dX11_within_7 : decode cX11_within 7 = .ok (.if_icmp .gt 7, 3) := by decide +kernel
theorem dX11_within_10 : decode cX11_within 10 = .ok (.iconst 1, 1) := by decide +kernel
theorem dX11_within_11 : decode cX11_within 11 = .ok (.goto 4, 3) := by decide +kernel
theorem dX11_within_14 : decode cX11_within 14 = .ok (.iconst 0, 1) := by decide +kernel
theorem dX11_within_15 : decode cX11_within 15 = .ok (.ireturn, 1) := by decide +kernel
abbrev wd_X11_within (k : Nat → ClassId) : va_W := []
set_option maxHeartbeats 4000000 in
set_option maxRecDepth 100000 in
theorem c_X11_within (l : Launch) (D : va_G) (k : Nat → ClassId) (value : Int32) (least : Int32) (most : Int32) (R0 : Int32) (hm : m_X11_within value least most = some R0) : CR l D (TY k) yX11_within cX11_within 3 (some .boolean) 0 0 [.int value, .int least, .int most] (wd_X11_within k ) (some (.int R0)) := by
  refine CR.mk (by decide) (Nat.le_of_ble_eq_true rfl) ?_
  intro p e s m args below meth c ls ⟨hx, hb, hr, hts, hown, hlocks, hml⟩ hP hG hl
  have hl : lv_has ls 3 [(0, .int value), (1, .int least), (2, .int most)] := hl
  unfold m_X11_within at hm
  refine lv_iload_n (pc := 0) hx hb dX11_within_0 rfl (lv_at hl 0 rfl) ?_
  refine lv_iload_n (pc := 1) hx hb dX11_within_1 rfl (lv_at hl 1 rfl) ?_
  refine lv_icmp_lt (tgt := 14) (pc := 2) hx hb dX11_within_2 (by decide) (fun hc => ?_) (fun hc => ?_)
  · rw [if_pos hc] at hm
    refine lv_iconst (v := 0) (pc := 14) hx hb dX11_within_14 (by decide) ?_
    rw [← Option.some.inj hm]
    exact W.zret hx hb hr (nar_bool (Or.inl rfl)) (fun t ht _ => ⟨rfl, ht⟩) (fun _ h => by cases h) dX11_within_15 hlocks
  · rw [if_neg hc] at hm
    refine lv_iload_n (pc := 5) hx hb dX11_within_5 rfl (lv_at hl 0 rfl) ?_
    refine lv_iload_n (pc := 6) hx hb dX11_within_6 rfl (lv_at hl 2 rfl) ?_
    refine lv_icmp_gt (tgt := 14) (pc := 7) hx hb dX11_within_7 (by decide) (fun hc => ?_) (fun hc => ?_)
    · rw [if_pos hc] at hm
      refine lv_iconst (v := 0) (pc := 14) hx hb dX11_within_14 (by decide) ?_
      rw [← Option.some.inj hm]
      exact W.zret hx hb hr (nar_bool (Or.inl rfl)) (fun t ht _ => ⟨rfl, ht⟩) (fun _ h => by cases h) dX11_within_15 hlocks
    · rw [if_neg hc] at hm
      refine lv_iconst (v := 1) (pc := 10) hx hb dX11_within_10 (by decide) ?_
      refine lv_goto (tgt := 15) (pc := 11) hx hb dX11_within_11 (by decide) ?_
      rw [← Option.some.inj hm]
      exact W.zret hx hb hr (nar_bool (Or.inr rfl)) (fun t ht _ => ⟨rfl, ht⟩) (fun _ h => by cases h) dX11_within_15 hlocks
theorem dX11_between_0 : decode cX11_between 0 = .ok (.iload_n 1, 1) := by decide +kernel
theorem dX11_between_1 : decode cX11_between 1 = .ok (.iload_n 2, 1) := by decide +kernel
theorem dX11_between_2 : decode cX11_between 2 = .ok (.iload_n 0, 1) := by decide +kernel
theorem dX11_between_3 : decode cX11_between 3 = .ok (.invokestatic 194, 3) := by decide +kernel
theorem dX11_between_6 : decode cX11_between 6 = .ok (.invokestatic 189, 3) := by decide +kernel
theorem dX11_between_9 : decode cX11_between 9 = .ok (.ireturn, 1) := by decide +kernel
abbrev wd_X11_between (k : Nat → ClassId) : va_W := []
set_option maxHeartbeats 4000000 in
set_option maxRecDepth 100000 in
theorem c_X11_between (l : Launch) (D : va_G) (k : Nat → ClassId) (value : Int32) (least : Int32) (most : Int32) (R0 : Int32) (hm : m_X11_between value least most = some R0) : CR l D (TY k) yX11_between cX11_between 3 (some .int) 1 21 [.int value, .int least, .int most] (wd_X11_between k ) (some (.int R0)) := by
  refine CR.mk (by decide) (Nat.le_of_ble_eq_true rfl) ?_
  intro p e s m args below meth c ls ⟨hx, hb, hr, hts, hown, hlocks, hml⟩ hP hG hl
  have hl : lv_has ls 3 [(0, .int value), (1, .int least), (2, .int most)] := hl
  unfold m_X11_between at hm
  refine lv_iload_n (pc := 0) hx hb dX11_between_0 rfl (lv_at hl 1 rfl) ?_
  refine lv_iload_n (pc := 1) hx hb dX11_between_1 rfl (lv_at hl 2 rfl) ?_
  refine lv_iload_n (pc := 2) hx hb dX11_between_2 rfl (lv_at hl 0 rfl) ?_
  refine va_mmin (pc := 3) hx hb (hml.trans hl.1.symm) (own := RX11) hown (hts _ kw_778) (hts _ kw_468) (hts _ kw_15) (hts _ kw_469) (Nat.le_of_ble_eq_true rfl) (Nat.le_of_ble_eq_true rfl) (Nat.zero_le _) (Nat.zero_le _) dX11_between_3 ?_
  refine va_mmax (pc := 6) hx hb (hml.trans hl.1.symm) (own := RX11) hown (hts _ kw_779) (hts _ kw_342) (hts _ kw_15) (hts _ kw_343) (Nat.le_of_ble_eq_true rfl) (Nat.le_of_ble_eq_true rfl) (Nat.zero_le _) (Nat.zero_le _) dX11_between_6 ?_
  rw [← Option.some.inj hm]
  exact W.iret hx hb hr (fun t ht _ => ⟨rfl, ht⟩) (fun _ h => by cases h) dX11_between_9 hlocks
theorem dX11_bit_0 : decode cX11_bit 0 = .ok (.iconst 1, 1) := by decide +kernel
theorem dX11_bit_1 : decode cX11_bit 1 = .ok (.iload_n 0, 1) := by decide +kernel
theorem dX11_bit_2 : decode cX11_bit 2 = .ok (.ishl, 1) := by decide +kernel
theorem dX11_bit_3 : decode cX11_bit 3 = .ok (.ireturn, 1) := by decide +kernel
abbrev wd_X11_bit (k : Nat → ClassId) : va_W := []
set_option maxHeartbeats 4000000 in
set_option maxRecDepth 100000 in
theorem c_X11_bit (l : Launch) (D : va_G) (k : Nat → ClassId) (i : Int32) (R0 : Int32) (hm : m_X11_bit i = some R0) : CR l D (TY k) yX11_bit cX11_bit 1 (some .int) 0 0 [.int i] (wd_X11_bit k ) (some (.int R0)) := by
  refine CR.mk (by decide) (Nat.le_of_ble_eq_true rfl) ?_
  intro p e s m args below meth c ls ⟨hx, hb, hr, hts, hown, hlocks, hml⟩ hP hG hl
  have hl : lv_has ls 1 [(0, .int i)] := hl
  unfold m_X11_bit at hm
  refine lv_iconst (v := 1) (pc := 0) hx hb dX11_bit_0 (by decide) ?_
  refine lv_iload_n (pc := 1) hx hb dX11_bit_1 rfl (lv_at hl 0 rfl) ?_
  refine lv_ishl (pc := 2) hx hb dX11_bit_2 ?_
  rw [← Option.some.inj hm]
  exact W.iret hx hb hr (fun t ht _ => ⟨rfl, ht⟩) (fun _ h => by cases h) dX11_bit_3 hlocks
theorem dX11_holds_0 : decode cX11_holds 0 = .ok (.iload_n 0, 1) := by decide +kernel
theorem dX11_holds_1 : decode cX11_holds 1 = .ok (.iload_n 1, 1) := by decide +kernel
theorem dX11_holds_2 : decode cX11_holds 2 = .ok (.invokestatic 225, 3) := by decide +kernel
theorem dX11_holds_5 : decode cX11_holds 5 = .ok (.iand, 1) := by decide +kernel
theorem dX11_holds_6 : decode cX11_holds 6 = .ok (.ifCond .eq 7, 3) := by decide +kernel
theorem dX11_holds_9 : decode cX11_holds 9 = .ok (.iconst 1, 1) := by decide +kernel
theorem dX11_holds_10 : decode cX11_holds 10 = .ok (.goto 4, 3) := by decide +kernel
theorem dX11_holds_13 : decode cX11_holds 13 = .ok (.iconst 0, 1) := by decide +kernel
theorem dX11_holds_14 : decode cX11_holds 14 = .ok (.ireturn, 1) := by decide +kernel
abbrev wd_X11_holds (k : Nat → ClassId) : va_W := []
set_option maxHeartbeats 4000000 in
set_option maxRecDepth 100000 in
theorem c_X11_holds (l : Launch) (D : va_G) (k : Nat → ClassId) (set : Int32) (i : Int32) (R0 : Int32) (hm : m_X11_holds set i = some R0) : CR l D (TY k) yX11_holds cX11_holds 2 (some .boolean) 1 20 [.int set, .int i] (wd_X11_holds k ) (some (.int R0)) := by
  refine CR.mk (by decide) (Nat.le_of_ble_eq_true rfl) ?_
  intro p e s m args below meth c ls ⟨hx, hb, hr, hts, hown, hlocks, hml⟩ hP hG hl
  have hl : lv_has ls 2 [(0, .int set), (1, .int i)] := hl
  unfold m_X11_holds at hm
  refine lv_iload_n (pc := 0) hx hb dX11_holds_0 rfl (lv_at hl 0 rfl) ?_
  refine lv_iload_n (pc := 1) hx hb dX11_holds_1 rfl (lv_at hl 1 rfl) ?_
  obtain ⟨r2, hcl, hm⟩ := bd hm
  refine cr_back (run_S (pc := 2) (n := 1) (As := [.int i]) (rest := [.int set]) ⟨hx, hb, hml, hown, hts⟩ (c_X11_bit l D k i r2 hcl) ⟨kw_607, kw_1, by decide +kernel⟩ kw_605 kw_606 ⟨Nat.le_of_ble_eq_true rfl, Nat.le_of_ble_eq_true rfl⟩ pr_blind (prR (hP.sub [] rfl) hG) rfl hl.1 rfl (Nat.le_of_ble_eq_true rfl) dX11_holds_2 ⟨Nat.zero_le _, Nat.zero_le _⟩) ?_
  refine lv_iand (pc := 5) hx hb dX11_holds_5 ?_
  refine lv_if_eq (tgt := 13) (pc := 6) hx hb dX11_holds_6 (by decide) (fun hc => ?_) (fun hc => ?_)
  · rw [if_pos hc] at hm
    refine lv_iconst (v := 0) (pc := 13) hx hb dX11_holds_13 (by decide) ?_
    rw [← Option.some.inj hm]
    exact W.zret hx hb hr (nar_bool (Or.inl rfl)) (fun t ht _ => ⟨rfl, ht⟩) (fun _ h => by cases h) dX11_holds_14 hlocks
  · rw [if_neg hc] at hm
    refine lv_iconst (v := 1) (pc := 9) hx hb dX11_holds_9 (by decide) ?_
    refine lv_goto (tgt := 14) (pc := 10) hx hb dX11_holds_10 (by decide) ?_
    rw [← Option.some.inj hm]
    exact W.zret hx hb hr (nar_bool (Or.inr rfl)) (fun t ht _ => ⟨rfl, ht⟩) (fun _ h => by cases h) dX11_holds_14 hlocks
theorem dX11_at_0 : decode cX11_at 0 = .ok (.iload_n 1, 1) := by decide +kernel
theorem dX11_at_1 : decode cX11_at 1 = .ok (.ifCond .lt 15, 3) := by decide +kernel
theorem dX11_at_4 : decode cX11_at 4 = .ok (.iload_n 1, 1) := by decide +kernel
theorem dX11_at_5 : decode cX11_at 5 = .ok (.aload_n 0, 1) := by decide +kernel
theorem dX11_at_6 : decode cX11_at 6 = .ok (.arraylength, 1) := by decide +kernel
theorem dX11_at_7 : decode cX11_at 7 = .ok (.if_icmp .ge 9, 3) := by decide +kernel
theorem dX11_at_10 : decode cX11_at 10 = .ok (.aload_n 0, 1) := by decide +kernel
theorem dX11_at_11 : decode cX11_at 11 = .ok (.iload_n 1, 1) := by decide +kernel
theorem dX11_at_12 : decode cX11_at 12 = .ok (.iaload, 1) := by decide +kernel
theorem dX11_at_13 : decode cX11_at 13 = .ok (.goto 4, 3) := by decide +kernel
theorem dX11_at_16 : decode cX11_at 16 = .ok (.iconst 0, 1) := by decide +kernel
theorem dX11_at_17 : decode cX11_at 17 = .ok (.ireturn, 1) := by decide +kernel
abbrev wd_X11_at (k : Nat → ClassId) (row : Nat) (row_n : Nat) (row_f : Nat → Int32) : va_W := [(row, .inl (k 0, row_n, .inl row_f))]
set_option maxHeartbeats 4000000 in
set_option maxRecDepth 100000 in
theorem c_X11_at (l : Launch) (D : va_G) (k : Nat → ClassId) (row : Nat) (row_n : Nat) (row_f : Nat → Int32) (i : Int32) (R0 : Int32) (hm : m_X11_at row_n row_f i = some R0) : CR l D (TY k) yX11_at cX11_at 2 (some .int) 0 0 [.ref row, .int i] (wd_X11_at k row row_n row_f) (some (.int R0)) := by
  refine CR.mk (by decide) (Nat.le_of_ble_eq_true rfl) ?_
  intro p e s m args below meth c ls ⟨hx, hb, hr, hts, hown, hlocks, hml⟩ hP hG hl
  have hl : lv_has ls 2 [(0, .ref row), (1, .int i)] := hl
  unfold m_X11_at at hm
  refine lv_iload_n (pc := 0) hx hb dX11_at_0 rfl (lv_at hl 1 rfl) ?_
  refine lv_if_lt (tgt := 16) (pc := 1) hx hb dX11_at_1 (by decide) (fun hc => ?_) (fun hc => ?_)
  · rw [if_pos hc] at hm
    refine lv_iconst (v := 0) (pc := 16) hx hb dX11_at_16 (by decide) ?_
    rw [← Option.some.inj hm]
    exact W.iret hx hb hr (fun t ht _ => ⟨rfl, ht⟩) (fun _ h => by cases h) dX11_at_17 hlocks
  · rw [if_neg hc] at hm
    refine lv_iload_n (pc := 4) hx hb dX11_at_4 rfl (lv_at hl 1 rfl) ?_
    refine lv_aload_n (pc := 5) hx hb dX11_at_5 rfl (lv_at hl 0 rfl) ?_
    refine va_alen (pc := 6) (D := D) (v := Int32.ofNat row_n) hx hb hG.1 hP 0 0 rfl rfl rfl dX11_at_6 ?_
    refine lv_icmp_ge (tgt := 16) (pc := 7) hx hb dX11_at_7 (by decide) (fun hc => ?_) (fun hc => ?_)
    · rw [if_pos hc] at hm
      refine lv_iconst (v := 0) (pc := 16) hx hb dX11_at_16 (by decide) ?_
      rw [← Option.some.inj hm]
      exact W.iret hx hb hr (fun t ht _ => ⟨rfl, ht⟩) (fun _ h => by cases h) dX11_at_17 hlocks
    · rw [if_neg hc] at hm
      refine lv_aload_n (pc := 10) hx hb dX11_at_10 rfl (lv_at hl 0 rfl) ?_
      refine lv_iload_n (pc := 11) hx hb dX11_at_11 rfl (lv_at hl 1 rfl) ?_
      obtain ⟨hin, hm⟩ := gd hm
      refine va_iald (pc := 12) (D := D) hx hb hG.1 hP 0 0 rfl rfl hin dX11_at_12 ?_
      refine lv_goto (tgt := 17) (pc := 13) hx hb dX11_at_13 (by decide) ?_
      rw [← Option.some.inj hm]
      exact W.iret hx hb hr (fun t ht _ => ⟨rfl, ht⟩) (fun _ h => by cases h) dX11_at_17 hlocks
theorem dX11_put_0 : decode cX11_put 0 = .ok (.iload_n 1, 1) := by decide +kernel
theorem dX11_put_1 : decode cX11_put 1 = .ok (.ifCond .lt 13, 3) := by decide +kernel
theorem dX11_put_4 : decode cX11_put 4 = .ok (.iload_n 1, 1) := by decide +kernel
theorem dX11_put_5 : decode cX11_put 5 = .ok (.aload_n 0, 1) := by decide +kernel
theorem dX11_put_6 : decode cX11_put 6 = .ok (.arraylength, 1) := by decide +kernel
theorem dX11_put_7 : decode cX11_put 7 = .ok (.if_icmp .ge 7, 3) := by decide +kernel
theorem dX11_put_10 : decode cX11_put 10 = .ok (.aload_n 0, 1) := by decide +kernel
theorem dX11_put_11 : decode cX11_put 11 = .ok (.iload_n 1, 1) := by decide +kernel
theorem dX11_put_12 : decode cX11_put 12 = .ok (.iload_n 2, 1) := by decide +kernel
theorem dX11_put_13 : decode cX11_put 13 = .ok (.iastore, 1) := by decide +kernel
theorem dX11_put_14 : decode cX11_put 14 = .ok (.return_, 1) := by decide +kernel
abbrev wd_X11_put (k : Nat → ClassId) (row : Nat) (row_n : Nat) (row_f : Nat → Int32) : va_W := [(row, .inl (k 0, row_n, .inl row_f))]
set_option maxHeartbeats 4000000 in
set_option maxRecDepth 100000 in
theorem c_X11_put (l : Launch) (D : va_G) (k : Nat → ClassId) (row : Nat) (row_n : Nat) (row_f : Nat → Int32) (i : Int32) (value : Int32) (R0 : (Nat → Int32)) (hm : m_X11_put row_n row_f i value = some R0) : CW l D (TY k) yX11_put cX11_put 3 none 0 0 [.ref row, .int i, .int value] (wd_X11_put k row row_n row_f) none (wd_X11_put k row row_n R0) := by
  refine CW.mk (by decide) (Nat.le_of_ble_eq_true rfl) ?_
  intro p e s m args below meth c ls A ⟨hx, hb, hr, hts, hown, hlocks, hml⟩ hP hG hD hA hl hS hq
  have hl : lv_has ls 3 [(0, .ref row), (1, .int i), (2, .int value)] := hl
  unfold m_X11_put at hm
  suffices hgo : ∀ (H : Heap) (locs : List Loc), va_P D vwCl (wd_X11_put k row row_n row_f) H → va_D A (wd_X11_put k row row_n row_f) → va_S A s.heap H locs → W p l e (Rm 0 0) s m args below meth c H locs 0 0 (MQ below (QW D none (wd_X11_put k row row_n row_f) (wd_X11_put k row row_n R0) s.heap.size) args s 0 0 A) (F0 m 0 ls []) from hgo _ _ hP hD hS
  clear hP hD hS
  intro H locs hP hD hS
  refine lv_iload_n (pc := 0) hx hb dX11_put_0 rfl (lv_at hl 1 rfl) ?_
  refine lv_if_lt (tgt := 14) (pc := 1) hx hb dX11_put_1 (by decide) (fun hc => ?_) (fun hc => ?_)
  · rw [if_pos hc] at hm
    rw [← Option.some.inj hm]
    exact W.vret hx hb hr (fun t ht _ => hq _ _ H t ht hP hD locs hS) hS.2.2 dX11_put_14 hlocks
  · rw [if_neg hc] at hm
    refine lv_iload_n (pc := 4) hx hb dX11_put_4 rfl (lv_at hl 1 rfl) ?_
    refine lv_aload_n (pc := 5) hx hb dX11_put_5 rfl (lv_at hl 0 rfl) ?_
    refine va_alen (pc := 6) (D := D) (v := Int32.ofNat row_n) hx hb hG.1 hP 0 0 rfl rfl rfl dX11_put_6 ?_
    refine lv_icmp_ge (tgt := 14) (pc := 7) hx hb dX11_put_7 (by decide) (fun hc => ?_) (fun hc => ?_)
    · rw [if_pos hc] at hm
      rw [← Option.some.inj hm]
      exact W.vret hx hb hr (fun t ht _ => hq _ _ H t ht hP hD locs hS) hS.2.2 dX11_put_14 hlocks
    · rw [if_neg hc] at hm
      refine lv_aload_n (pc := 10) hx hb dX11_put_10 rfl (lv_at hl 0 rfl) ?_
      refine lv_iload_n (pc := 11) hx hb dX11_put_11 rfl (lv_at hl 1 rfl) ?_
      refine lv_iload_n (pc := 12) hx hb dX11_put_12 rfl (lv_at hl 2 rfl) ?_
      obtain ⟨hin, hm⟩ := gd hm
      refine va_iast (pc := 13) (D := D) hx hb hG.1 hP hD hS 0 0 rfl rfl hin dX11_put_13 (fun H locs hP hD hS => ?_)
      have hP : va_P D vwCl (wd_X11_put k row row_n (upd row_f i.toNatClampNeg value)) H := hP
      have hD : va_D A (wd_X11_put k row row_n (upd row_f i.toNatClampNeg value)) := hD
      rw [← Option.some.inj hm]
      exact W.vret hx hb hr (fun t ht _ => hq _ _ H t ht hP hD locs hS) hS.2.2 dX11_put_14 hlocks
theorem dX6_feels_0 : decode cX6_feels 0 = .ok (.aload_n 0, 1) := by decide +kernel
theorem dX6_feels_1 : decode cX6_feels 1 = .ok (.getfield 15, 3) := by decide +kernel
theorem dX6_feels_4 : decode cX6_feels 4 = .ok (.iload_n 1, 1) := by decide +kernel
theorem dX6_feels_5 : decode cX6_feels 5 = .ok (.invokestatic 34, 3) := by decide +kernel
theorem dX6_feels_8 : decode cX6_feels 8 = .ok (.iload_n 2, 1) := by decide +kernel
theorem dX6_feels_9 : decode cX6_feels 9 = .ok (.invokestatic 38, 3) := by decide +kernel
theorem dX6_feels_12 : decode cX6_feels 12 = .ok (.ireturn, 1) := by decide +kernel
abbrev wd_X6_feels (k : Nat → ClassId) (this : Nat) (this_lacks : Nat) (this_lacks_f : Nat → Int32) (this_feels : Nat) (this_feels_f : Nat → Int32) (this_date : Int32) : va_W := [(this, .inr (5, [.ref this_lacks, .ref this_feels, .int this_date])), (this_lacks, .inl (k 0, 6, .inl this_lacks_f)), (this_feels, .inl (k 0, 6, .inl this_feels_f))]
set_option maxHeartbeats 4000000 in
set_option maxRecDepth 100000 in
theorem c_X6_feels (l : Launch) (D : va_G) (k : Nat → ClassId) (this : Nat) (this_lacks : Nat) (this_lacks_f : Nat → Int32) (this_feels : Nat) (this_feels_f : Nat → Int32) (this_date : Int32) (person : Int32) (other : Int32) (R0 : Int32) (hm : m_X6_feels this_feels_f person other = some R0) : CR l D (TY k) yX6_feels cX6_feels 3 (some .boolean) 2 41 [.ref this, .int person, .int other] (wd_X6_feels k this this_lacks this_lacks_f this_feels this_feels_f this_date) (some (.int R0)) := by
  refine CR.mk (by decide) (Nat.le_of_ble_eq_true rfl) ?_
  intro p e s m args below meth c ls ⟨hx, hb, hr, hts, hown, hlocks, hml⟩ hP hG hl
  have hl : lv_has ls 3 [(0, .ref this), (1, .int person), (2, .int other)] := hl
  unfold m_X6_feels at hm
  refine lv_aload_n (pc := 0) hx hb dX6_feels_0 rfl (lv_at hl 0 rfl) ?_
  refine va_get (pc := 1) (D := D) (ci := 5) (C := RX6) (T := TX6) (N := 3) hx hb hts hiX6 hown hG.1 hP 0 rfl rfl 1 (Nat.le_of_ble_eq_true rfl) (hts _ kw_97) (fun _ h9 => h9) rfl dX6_feels_1 ?_
  refine lv_iload_n (pc := 4) hx hb dX6_feels_4 rfl (lv_at hl 1 rfl) ?_
  obtain ⟨r3, hcl, hm⟩ := bd hm
  refine cr_back (run_SN (pc := 5) (n := 2) (As := [.ref this_feels, .int person]) (rest := []) ⟨hx, hb, hml, hown, hts⟩ (c_X11_at l D k this_feels 6 this_feels_f person r3 hcl) ⟨kw_329, kw_1, by decide +kernel⟩ hG kn_601 kw_328 ⟨Nat.le_of_ble_eq_true rfl, Nat.le_of_ble_eq_true rfl⟩ pr_blind (prR (hP.sub [2] rfl) hG) rfl hl.1 rfl (Nat.le_of_ble_eq_true rfl) dX6_feels_5 ⟨Nat.zero_le _, Nat.zero_le _⟩) ?_
  refine lv_iload_n (pc := 8) hx hb dX6_feels_8 rfl (lv_at hl 2 rfl) ?_
  obtain ⟨r4, hcl, hm⟩ := bd hm
  refine cr_back (run_SN (pc := 9) (n := 2) (As := [.int r3, .int other]) (rest := []) ⟨hx, hb, hml, hown, hts⟩ (c_X11_holds l D k r3 other r4 hcl) ⟨kw_604, kw_1, by decide +kernel⟩ hG kn_602 kw_603 ⟨Nat.le_of_ble_eq_true rfl, Nat.le_of_ble_eq_true rfl⟩ pr_blind (prR (hP.sub [] rfl) hG) rfl hl.1 rfl (Nat.le_of_ble_eq_true rfl) dX6_feels_9 ⟨Nat.zero_le _, Nat.zero_le _⟩) ?_
  obtain ⟨hz, hm⟩ := gd hm
  rw [← Option.some.inj hm]
  exact W.zret hx hb hr (nar_bool hz) (fun t ht _ => ⟨rfl, ht⟩) (fun _ h => by cases h) dX6_feels_12 hlocks
theorem dX6_turnFeeling_0 : decode cX6_turnFeeling 0 = .ok (.aload_n 0, 1) := by decide +kernel
theorem dX6_turnFeeling_1 : decode cX6_turnFeeling 1 = .ok (.getfield 15, 3) := by decide +kernel
theorem dX6_turnFeeling_4 : decode cX6_turnFeeling 4 = .ok (.iload_n 1, 1) := by decide +kernel
theorem dX6_turnFeeling_5 : decode cX6_turnFeeling 5 = .ok (.aload_n 0, 1) := by decide +kernel
theorem dX6_turnFeeling_6 : decode cX6_turnFeeling 6 = .ok (.getfield 15, 3) := by decide +kernel
theorem dX6_turnFeeling_9 : decode cX6_turnFeeling 9 = .ok (.iload_n 1, 1) := by decide +kernel
theorem dX6_turnFeeling_10 : decode cX6_turnFeeling 10 = .ok (.invokestatic 34, 3) := by decide +kernel
theorem dX6_turnFeeling_13 : decode cX6_turnFeeling 13 = .ok (.iload_n 2, 1) := by decide +kernel
theorem dX6_turnFeeling_14 : decode cX6_turnFeeling 14 = .ok (.invokestatic 42, 3) := by decide +kernel
theorem dX6_turnFeeling_17 : decode cX6_turnFeeling 17 = .ok (.ixor, 1) := by decide +kernel
theorem dX6_turnFeeling_18 : decode cX6_turnFeeling 18 = .ok (.invokestatic 46, 3) := by decide +kernel
theorem dX6_turnFeeling_21 : decode cX6_turnFeeling 21 = .ok (.return_, 1) := by decide +kernel
abbrev wd_X6_turnFeeling (k : Nat → ClassId) (this : Nat) (this_lacks : Nat) (this_lacks_f : Nat → Int32) (this_feels : Nat) (this_feels_f : Nat → Int32) (this_date : Int32) : va_W := [(this, .inr (5, [.ref this_lacks, .ref this_feels, .int this_date])), (this_lacks, .inl (k 0, 6, .inl this_lacks_f)), (this_feels, .inl (k 0, 6, .inl this_feels_f))]
set_option maxHeartbeats 4000000 in
set_option maxRecDepth 100000 in
theorem c_X6_turnFeeling (l : Launch) (D : va_G) (k : Nat → ClassId) (this : Nat) (this_lacks : Nat) (this_lacks_f : Nat → Int32) (this_feels : Nat) (this_feels_f : Nat → Int32) (this_date : Int32) (person : Int32) (other : Int32) (R0 : (Nat → Int32)) (hm : m_X6_turnFeeling this_feels_f person other = some R0) : CW l D (TY k) yX6_turnFeeling cX6_turnFeeling 3 none 1 22 [.ref this, .int person, .int other] (wd_X6_turnFeeling k this this_lacks this_lacks_f this_feels this_feels_f this_date) none (wd_X6_turnFeeling k this this_lacks this_lacks_f this_feels R0 this_date) := by
  refine CW.mk (by decide) (Nat.le_of_ble_eq_true rfl) ?_
  intro p e s m args below meth c ls A ⟨hx, hb, hr, hts, hown, hlocks, hml⟩ hP hG hD hA hl hS hq
  have hl : lv_has ls 3 [(0, .ref this), (1, .int person), (2, .int other)] := hl
  unfold m_X6_turnFeeling at hm
  suffices hgo : ∀ (H : Heap) (locs : List Loc), va_P D vwCl (wd_X6_turnFeeling k this this_lacks this_lacks_f this_feels this_feels_f this_date) H → va_D A (wd_X6_turnFeeling k this this_lacks this_lacks_f this_feels this_feels_f this_date) → va_S A s.heap H locs → W p l e (Rm 1 22) s m args below meth c H locs 0 0 (MQ below (QW D none (wd_X6_turnFeeling k this this_lacks this_lacks_f this_feels this_feels_f this_date) (wd_X6_turnFeeling k this this_lacks this_lacks_f this_feels R0 this_date) s.heap.size) args s 0 0 A) (F0 m 0 ls []) from hgo _ _ hP hD hS
  clear hP hD hS
  intro H locs hP hD hS
  refine lv_aload_n (pc := 0) hx hb dX6_turnFeeling_0 rfl (lv_at hl 0 rfl) ?_
  refine va_get (pc := 1) (D := D) (ci := 5) (C := RX6) (T := TX6) (N := 3) hx hb hts hiX6 hown hG.1 hP 0 rfl rfl 1 (Nat.le_of_ble_eq_true rfl) (hts _ kw_97) (fun _ h9 => h9) rfl dX6_turnFeeling_1 ?_
  refine lv_iload_n (pc := 4) hx hb dX6_turnFeeling_4 rfl (lv_at hl 1 rfl) ?_
  refine lv_aload_n (pc := 5) hx hb dX6_turnFeeling_5 rfl (lv_at hl 0 rfl) ?_
  refine va_get (pc := 6) (D := D) (ci := 5) (C := RX6) (T := TX6) (N := 3) hx hb hts hiX6 hown hG.1 hP 0 rfl rfl 1 (Nat.le_of_ble_eq_true rfl) (hts _ kw_97) (fun _ h9 => h9) rfl dX6_turnFeeling_6 ?_
  refine lv_iload_n (pc := 9) hx hb dX6_turnFeeling_9 rfl (lv_at hl 1 rfl) ?_
  obtain ⟨r4, hcl, hm⟩ := bd hm
  refine cr_back (run_SN (pc := 10) (n := 2) (As := [.ref this_feels, .int person]) (rest := [.int person, .ref this_feels]) ⟨hx, hb, hml, hown, hts⟩ (c_X11_at l D k this_feels 6 this_feels_f person r4 hcl) ⟨kw_329, kw_1, by decide +kernel⟩ hG kn_601 kw_328 ⟨Nat.le_of_ble_eq_true rfl, Nat.le_of_ble_eq_true rfl⟩ pr_blind (prR (hP.sub [2] rfl) hG) rfl hl.1 rfl (Nat.le_of_ble_eq_true rfl) dX6_turnFeeling_10 ⟨Nat.zero_le _, Nat.zero_le _⟩) ?_
  refine lv_iload_n (pc := 13) hx hb dX6_turnFeeling_13 rfl (lv_at hl 2 rfl) ?_
  obtain ⟨r5, hcl, hm⟩ := bd hm
  refine cr_back (run_SN (pc := 14) (n := 1) (As := [.int other]) (rest := [.int r4, .int person, .ref this_feels]) ⟨hx, hb, hml, hown, hts⟩ (c_X11_bit l D k other r5 hcl) ⟨kw_607, kw_1, by decide +kernel⟩ hG kn_612 kw_606 ⟨Nat.le_of_ble_eq_true rfl, Nat.le_of_ble_eq_true rfl⟩ pr_blind (prR (hP.sub [] rfl) hG) rfl hl.1 rfl (Nat.le_of_ble_eq_true rfl) dX6_turnFeeling_14 ⟨Nat.zero_le _, Nat.zero_le _⟩) ?_
  refine lv_ixor (pc := 17) hx hb dX6_turnFeeling_17 ?_
  obtain ⟨r6, hcl, hm⟩ := bd hm
  refine cw_mask (ws' := (wd_X6_turnFeeling k this this_lacks this_lacks_f this_feels r6 this_date)) (run_SN (pc := 18) (n := 3) (As := [.ref this_feels, .int person, .int (r4 ^^^ r5)]) (rest := []) ⟨hx, hb, hml, hown, hts⟩ ((c_X11_put l D k this_feels 6 this_feels_f person (r4 ^^^ r5) r6 hcl) H.size) ⟨kw_303, kw_1, by decide +kernel⟩ hG kn_613 kw_302 ⟨Nat.le_of_ble_eq_true rfl, Nat.le_of_ble_eq_true rfl⟩ pw_blind (prW (P_pick [false, false, true] rfl hP) hG (D_pick [false, false, true] rfl hD)) rfl hl.1 rfl (Nat.le_of_ble_eq_true rfl) dX6_turnFeeling_18 ⟨Nat.zero_le _, Nat.zero_le _⟩) hP hD hS hA [false, false, true] rfl rfl rfl (fun H locs hP hD hS => ?_)
  rw [← Option.some.inj hm]
  exact W.vret hx hb hr (fun t ht _ => hq _ _ H t ht hP hD locs hS) hS.2.2 dX6_turnFeeling_21 hlocks
theorem dX6_lackingMoreAmongFelt_0 : decode cX6_lackingMoreAmongFelt 0 = .ok (.aload_n 0, 1) := by decide +kernel
theorem dX6_lackingMoreAmongFelt_1 : decode cX6_lackingMoreAmongFelt 1 = .ok (.getfield 15, 3) := by decide +kernel
theorem dX6_lackingMoreAmongFelt_4 : decode cX6_lackingMoreAmongFelt 4 = .ok (.iload_n 1, 1) := by decide +kernel
theorem dX6_lackingMoreAmongFelt_5 : decode cX6_lackingMoreAmongFelt 5 = .ok (.invokestatic 34, 3) := by decide +kernel
theorem dX6_lackingMoreAmongFelt_8 : decode cX6_lackingMoreAmongFelt 8 = .ok (.istore_n 2, 1) := by decide +kernel
theorem dX6_lackingMoreAmongFelt_9 : decode cX6_lackingMoreAmongFelt 9 = .ok (.aload_n 0, 1) := by decide +kernel
theorem dX6_lackingMoreAmongFelt_10 : decode cX6_lackingMoreAmongFelt 10 = .ok (.getfield 9, 3) := by decide +kernel
theorem dX6_lackingMoreAmongFelt_13 : decode cX6_lackingMoreAmongFelt 13 = .ok (.iload_n 1, 1) := by decide +kernel
theorem dX6_lackingMoreAmongFelt_14 : decode cX6_lackingMoreAmongFelt 14 = .ok (.invokestatic 34, 3) := by decide +kernel
theorem dX6_lackingMoreAmongFelt_17 : decode cX6_lackingMoreAmongFelt 17 = .ok (.istore_n 3, 1) := by decide +kernel
theorem dX6_lackingMoreAmongFelt_18 : decode cX6_lackingMoreAmongFelt 18 = .ok (.iconst 0, 1) := by decide +kernel
theorem dX6_lackingMoreAmongFelt_19 : decode cX6_lackingMoreAmongFelt 19 = .ok (.istore 4, 2) := by decide +kernel
theorem dX6_lackingMoreAmongFelt_21 : decode cX6_lackingMoreAmongFelt 21 = .ok (.iconst 0, 1) := by decide +kernel
theorem dX6_lackingMoreAmongFelt_22 : decode cX6_lackingMoreAmongFelt 22 = .ok (.istore 5, 2) := by decide +kernel
theorem dX6_lackingMoreAmongFelt_24 : decode cX6_lackingMoreAmongFelt 24 = .ok (.iload 5, 2) := by decide +kernel
theorem dX6_lackingMoreAmongFelt_26 : decode cX6_lackingMoreAmongFelt 26 = .ok (.aload_n 0, 1) := by decide +kernel
theorem dX6_lackingMoreAmongFelt_27 : decode cX6_lackingMoreAmongFelt 27 = .ok (.getfield 9, 3) := by decide +kernel
theorem dX6_lackingMoreAmongFelt_30 : decode cX6_lackingMoreAmongFelt 30 = .ok (.arraylength, 1) := by decide +kernel
theorem dX6_lackingMoreAmongFelt_31 : decode cX6_lackingMoreAmongFelt 31 = .ok (.if_icmp .ge 39, 3) := by decide +kernel
theorem dX6_lackingMoreAmongFelt_34 : decode cX6_lackingMoreAmongFelt 34 = .ok (.iload_n 2, 1) := by decide +kernel
theorem dX6_lackingMoreAmongFelt_35 : decode cX6_lackingMoreAmongFelt 35 = .ok (.iload 5, 2) := by decide +kernel
theorem dX6_lackingMoreAmongFelt_37 : decode cX6_lackingMoreAmongFelt 37 = .ok (.ishr, 1) := by decide +kernel
theorem dX6_lackingMoreAmongFelt_38 : decode cX6_lackingMoreAmongFelt 38 = .ok (.ifCond .eq 32, 3) := by decide +kernel
theorem dX6_lackingMoreAmongFelt_41 : decode cX6_lackingMoreAmongFelt 41 = .ok (.iload_n 2, 1) := by decide +kernel
theorem dX6_lackingMoreAmongFelt_42 : decode cX6_lackingMoreAmongFelt 42 = .ok (.iload 5, 2) := by decide +kernel
theorem dX6_lackingMoreAmongFelt_44 : decode cX6_lackingMoreAmongFelt 44 = .ok (.invokestatic 38, 3) := by decide +kernel
theorem dX6_lackingMoreAmongFelt_47 : decode cX6_lackingMoreAmongFelt 47 = .ok (.ifCond .eq 17, 3) := by decide +kernel
theorem dX6_lackingMoreAmongFelt_50 : decode cX6_lackingMoreAmongFelt 50 = .ok (.aload_n 0, 1) := by decide +kernel
theorem dX6_lackingMoreAmongFelt_51 : decode cX6_lackingMoreAmongFelt 51 = .ok (.getfield 9, 3) := by decide +kernel
theorem dX6_lackingMoreAmongFelt_54 : decode cX6_lackingMoreAmongFelt 54 = .ok (.iload 5, 2) := by decide +kernel
theorem dX6_lackingMoreAmongFelt_56 : decode cX6_lackingMoreAmongFelt 56 = .ok (.iaload, 1) := by decide +kernel
theorem dX6_lackingMoreAmongFelt_57 : decode cX6_lackingMoreAmongFelt 57 = .ok (.iload_n 3, 1) := by decide +kernel
theorem dX6_lackingMoreAmongFelt_58 : decode cX6_lackingMoreAmongFelt 58 = .ok (.if_icmp .le 6, 3) := by decide +kernel
theorem dX6_lackingMoreAmongFelt_61 : decode cX6_lackingMoreAmongFelt 61 = .ok (.iinc 4 1, 3) := by decide +kernel
theorem dX6_lackingMoreAmongFelt_64 : decode cX6_lackingMoreAmongFelt 64 = .ok (.iinc 5 1, 3) := by decide +kernel
theorem dX6_lackingMoreAmongFelt_67 : decode cX6_lackingMoreAmongFelt 67 = .ok (.goto (-43), 3) := by decide +kernel
theorem dX6_lackingMoreAmongFelt_70 : decode cX6_lackingMoreAmongFelt 70 = .ok (.iload 4, 2) := by decide +kernel
theorem dX6_lackingMoreAmongFelt_72 : decode cX6_lackingMoreAmongFelt 72 = .ok (.ireturn, 1) := by decide +kernel
abbrev wd_X6_lackingMoreAmongFelt (k : Nat → ClassId) (this : Nat) (this_lacks : Nat) (this_lacks_f : Nat → Int32) (this_feels : Nat) (this_feels_f : Nat → Int32) (this_date : Int32) : va_W := [(this, .inr (5, [.ref this_lacks, .ref this_feels, .int this_date])), (this_lacks, .inl (k 0, 6, .inl this_lacks_f)), (this_feels, .inl (k 0, 6, .inl this_feels_f))]
set_option maxHeartbeats 4000000 in
set_option maxRecDepth 100000 in
theorem c_X6_lackingMoreAmongFelt (l : Launch) (D : va_G) (k : Nat → ClassId) (this : Nat) (this_lacks : Nat) (this_lacks_f : Nat → Int32) (this_feels : Nat) (this_feels_f : Nat → Int32) (this_date : Int32) (person : Int32) (R0 : Int32) (hm : m_X6_lackingMoreAmongFelt this_lacks_f this_feels_f person = some R0) : CR l D (TY k) yX6_lackingMoreAmongFelt cX6_lackingMoreAmongFelt 6 (some .int) 2 41 [.ref this, .int person] (wd_X6_lackingMoreAmongFelt k this this_lacks this_lacks_f this_feels this_feels_f this_date) (some (.int R0)) := by
  refine CR.mk (by decide) (Nat.le_of_ble_eq_true rfl) ?_
  intro p e s m args below meth c ls ⟨hx, hb, hr, hts, hown, hlocks, hml⟩ hP hG hl
  have hl : lv_has ls 6 [(0, .ref this), (1, .int person)] := hl
  have h_24 : ∀ (n : Nat), ∀ (x2 : Int32) (x3 : Int32) (x4 : Int32) (x5 : Int32) (ls : Array Slot), lv_has ls 6 [(0, .ref this), (2, .int x2), (3, .int x3), (4, .int x4), (5, .int x5)] → m_X6_lackingMoreAmongFelt_24 this_lacks_f this_feels_f person n x2 x3 x4 x5 = some R0 → W p l e (Rm 2 41) s m args below meth c s.heap [] 0 0 (MQ below (QR (some (.int R0))) args s 0 0 (fun _ => False)) (F0 m 24 ls []) := by
    intro n
    induction n with
    | zero => intro x2 x3 x4 x5 ls hl hm; cases hm
    | succ n ih =>
      intro x2 x3 x4 x5 ls hl hm
      unfold m_X6_lackingMoreAmongFelt_24 at hm
      refine lv_iload (pc := 24) hx hb dX6_lackingMoreAmongFelt_24 (lv_at hl 4 rfl) ?_
      refine lv_aload_n (pc := 26) hx hb dX6_lackingMoreAmongFelt_26 rfl (lv_at hl 0 rfl) ?_
      refine va_get (pc := 27) (D := D) (ci := 5) (C := RX6) (T := TX6) (N := 3) hx hb hts hiX6 hown hG.1 hP 0 rfl rfl 0 (Nat.le_of_ble_eq_true rfl) (hts _ kw_94) (fun _ h9 => h9) rfl dX6_lackingMoreAmongFelt_27 ?_
      refine va_alen (pc := 30) (D := D) (v := 6) hx hb hG.1 hP 1 0 rfl rfl rfl dX6_lackingMoreAmongFelt_30 ?_
      refine lv_icmp_ge (tgt := 70) (pc := 31) hx hb dX6_lackingMoreAmongFelt_31 (by decide) (fun hc => ?_) (fun hc => ?_)
      · rw [if_pos hc] at hm
        refine lv_iload (pc := 70) hx hb dX6_lackingMoreAmongFelt_70 (lv_at hl 3 rfl) ?_
        rw [← Option.some.inj hm]
        exact W.iret hx hb hr (fun t ht _ => ⟨rfl, ht⟩) (fun _ h => by cases h) dX6_lackingMoreAmongFelt_72 hlocks
      · rw [if_neg hc] at hm
        refine lv_iload_n (pc := 34) hx hb dX6_lackingMoreAmongFelt_34 rfl (lv_at hl 1 rfl) ?_
        refine lv_iload (pc := 35) hx hb dX6_lackingMoreAmongFelt_35 (lv_at hl 4 rfl) ?_
        refine lv_ishr (pc := 37) hx hb dX6_lackingMoreAmongFelt_37 ?_
        refine lv_if_eq (tgt := 70) (pc := 38) hx hb dX6_lackingMoreAmongFelt_38 (by decide) (fun hc => ?_) (fun hc => ?_)
        · rw [if_pos hc] at hm
          refine lv_iload (pc := 70) hx hb dX6_lackingMoreAmongFelt_70 (lv_at hl 3 rfl) ?_
          rw [← Option.some.inj hm]
          exact W.iret hx hb hr (fun t ht _ => ⟨rfl, ht⟩) (fun _ h => by cases h) dX6_lackingMoreAmongFelt_72 hlocks
        · rw [if_neg hc] at hm
          refine lv_iload_n (pc := 41) hx hb dX6_lackingMoreAmongFelt_41 rfl (lv_at hl 1 rfl) ?_
          refine lv_iload (pc := 42) hx hb dX6_lackingMoreAmongFelt_42 (lv_at hl 4 rfl) ?_
          obtain ⟨r4, hcl, hm⟩ := bd hm
          refine cr_back (run_SN (pc := 44) (n := 2) (As := [.int x2, .int x5]) (rest := []) ⟨hx, hb, hml, hown, hts⟩ (c_X11_holds l D k x2 x5 r4 hcl) ⟨kw_604, kw_1, by decide +kernel⟩ hG kn_602 kw_603 ⟨Nat.le_of_ble_eq_true rfl, Nat.le_of_ble_eq_true rfl⟩ pr_blind (prR (hP.sub [] rfl) hG) rfl hl.1 rfl (Nat.le_of_ble_eq_true rfl) dX6_lackingMoreAmongFelt_44 ⟨Nat.zero_le _, Nat.zero_le _⟩) ?_
          refine lv_if_eq (tgt := 64) (pc := 47) hx hb dX6_lackingMoreAmongFelt_47 (by decide) (fun hc => ?_) (fun hc => ?_)
          · rw [if_pos hc] at hm
            refine lv_iinc (k := 4) (v := x5 + 1) (lv' := [(5, .int (x5 + 1)), (0, .ref this), (2, .int x2), (3, .int x3), (4, .int x4)]) (pc := 64) hx hb dX6_lackingMoreAmongFelt_64 hl rfl rfl (Nat.le_of_ble_eq_true rfl) rfl (fun ls hl => ?_)
            refine lv_goto (tgt := 24) (pc := 67) hx hb dX6_lackingMoreAmongFelt_67 (by decide) ?_
            exact ih x2 x3 x4 (x5 + 1) ls (lv_sub hl [1, 2, 3, 4, 0] rfl) hm
          · rw [if_neg hc] at hm
            refine lv_aload_n (pc := 50) hx hb dX6_lackingMoreAmongFelt_50 rfl (lv_at hl 0 rfl) ?_
            refine va_get (pc := 51) (D := D) (ci := 5) (C := RX6) (T := TX6) (N := 3) hx hb hts hiX6 hown hG.1 hP 0 rfl rfl 0 (Nat.le_of_ble_eq_true rfl) (hts _ kw_94) (fun _ h9 => h9) rfl dX6_lackingMoreAmongFelt_51 ?_
            refine lv_iload (pc := 54) hx hb dX6_lackingMoreAmongFelt_54 (lv_at hl 4 rfl) ?_
            obtain ⟨hin, hm⟩ := gd hm
            refine va_iald (pc := 56) (D := D) hx hb hG.1 hP 1 0 rfl rfl hin dX6_lackingMoreAmongFelt_56 ?_
            refine lv_iload_n (pc := 57) hx hb dX6_lackingMoreAmongFelt_57 rfl (lv_at hl 2 rfl) ?_
            refine lv_icmp_le (tgt := 64) (pc := 58) hx hb dX6_lackingMoreAmongFelt_58 (by decide) (fun hc => ?_) (fun hc => ?_)
            · rw [if_pos hc] at hm
              refine lv_iinc (k := 4) (v := x5 + 1) (lv' := [(5, .int (x5 + 1)), (0, .ref this), (2, .int x2), (3, .int x3), (4, .int x4)]) (pc := 64) hx hb dX6_lackingMoreAmongFelt_64 hl rfl rfl (Nat.le_of_ble_eq_true rfl) rfl (fun ls hl => ?_)
              refine lv_goto (tgt := 24) (pc := 67) hx hb dX6_lackingMoreAmongFelt_67 (by decide) ?_
              exact ih x2 x3 x4 (x5 + 1) ls (lv_sub hl [1, 2, 3, 4, 0] rfl) hm
            · rw [if_neg hc] at hm
              refine lv_iinc (k := 3) (v := x4 + 1) (lv' := [(4, .int (x4 + 1)), (0, .ref this), (2, .int x2), (3, .int x3), (5, .int x5)]) (pc := 61) hx hb dX6_lackingMoreAmongFelt_61 hl rfl rfl (Nat.le_of_ble_eq_true rfl) rfl (fun ls hl => ?_)
              refine lv_iinc (k := 4) (v := x5 + 1) (lv' := [(5, .int (x5 + 1)), (4, .int (x4 + 1)), (0, .ref this), (2, .int x2), (3, .int x3)]) (pc := 64) hx hb dX6_lackingMoreAmongFelt_64 hl rfl rfl (Nat.le_of_ble_eq_true rfl) rfl (fun ls hl => ?_)
              refine lv_goto (tgt := 24) (pc := 67) hx hb dX6_lackingMoreAmongFelt_67 (by decide) ?_
              exact ih x2 x3 (x4 + 1) (x5 + 1) ls (lv_sub hl [2, 3, 4, 1, 0] rfl) hm
  unfold m_X6_lackingMoreAmongFelt at hm
  refine lv_aload_n (pc := 0) hx hb dX6_lackingMoreAmongFelt_0 rfl (lv_at hl 0 rfl) ?_
  refine va_get (pc := 1) (D := D) (ci := 5) (C := RX6) (T := TX6) (N := 3) hx hb hts hiX6 hown hG.1 hP 0 rfl rfl 1 (Nat.le_of_ble_eq_true rfl) (hts _ kw_97) (fun _ h9 => h9) rfl dX6_lackingMoreAmongFelt_1 ?_
  refine lv_iload_n (pc := 4) hx hb dX6_lackingMoreAmongFelt_4 rfl (lv_at hl 1 rfl) ?_
  obtain ⟨r5, hcl, hm⟩ := bd hm
  refine cr_back (run_SN (pc := 5) (n := 2) (As := [.ref this_feels, .int person]) (rest := []) ⟨hx, hb, hml, hown, hts⟩ (c_X11_at l D k this_feels 6 this_feels_f person r5 hcl) ⟨kw_329, kw_1, by decide +kernel⟩ hG kn_601 kw_328 ⟨Nat.le_of_ble_eq_true rfl, Nat.le_of_ble_eq_true rfl⟩ pr_blind (prR (hP.sub [2] rfl) hG) rfl hl.1 rfl (Nat.le_of_ble_eq_true rfl) dX6_lackingMoreAmongFelt_5 ⟨Nat.zero_le _, Nat.zero_le _⟩) ?_
  refine lv_istore_n (lv' := [(2, .int r5), (0, .ref this), (1, .int person)]) (pc := 8) hx hb dX6_lackingMoreAmongFelt_8 rfl hl (Nat.le_of_ble_eq_true rfl) rfl (fun ls hl => ?_)
  refine lv_aload_n (pc := 9) hx hb dX6_lackingMoreAmongFelt_9 rfl (lv_at hl 1 rfl) ?_
  refine va_get (pc := 10) (D := D) (ci := 5) (C := RX6) (T := TX6) (N := 3) hx hb hts hiX6 hown hG.1 hP 0 rfl rfl 0 (Nat.le_of_ble_eq_true rfl) (hts _ kw_94) (fun _ h9 => h9) rfl dX6_lackingMoreAmongFelt_10 ?_
  refine lv_iload_n (pc := 13) hx hb dX6_lackingMoreAmongFelt_13 rfl (lv_at hl 2 rfl) ?_
  obtain ⟨r6, hcl, hm⟩ := bd hm
  refine cr_back (run_SN (pc := 14) (n := 2) (As := [.ref this_lacks, .int person]) (rest := []) ⟨hx, hb, hml, hown, hts⟩ (c_X11_at l D k this_lacks 6 this_lacks_f person r6 hcl) ⟨kw_329, kw_1, by decide +kernel⟩ hG kn_601 kw_328 ⟨Nat.le_of_ble_eq_true rfl, Nat.le_of_ble_eq_true rfl⟩ pr_blind (prR (hP.sub [1] rfl) hG) rfl hl.1 rfl (Nat.le_of_ble_eq_true rfl) dX6_lackingMoreAmongFelt_14 ⟨Nat.zero_le _, Nat.zero_le _⟩) ?_
  refine lv_istore_n (lv' := [(3, .int r6), (2, .int r5), (0, .ref this), (1, .int person)]) (pc := 17) hx hb dX6_lackingMoreAmongFelt_17 rfl hl (Nat.le_of_ble_eq_true rfl) rfl (fun ls hl => ?_)
  refine lv_iconst (v := 0) (pc := 18) hx hb dX6_lackingMoreAmongFelt_18 (by decide) ?_
  refine lv_istore (lv' := [(4, .int 0), (3, .int r6), (2, .int r5), (0, .ref this), (1, .int person)]) (pc := 19) hx hb dX6_lackingMoreAmongFelt_19 hl (Nat.le_of_ble_eq_true rfl) rfl (fun ls hl => ?_)
  refine lv_iconst (v := 0) (pc := 21) hx hb dX6_lackingMoreAmongFelt_21 (by decide) ?_
  refine lv_istore (lv' := [(5, .int 0), (4, .int 0), (3, .int r6), (2, .int r5), (0, .ref this), (1, .int person)]) (pc := 22) hx hb dX6_lackingMoreAmongFelt_22 hl (Nat.le_of_ble_eq_true rfl) rfl (fun ls hl => ?_)
  exact h_24 FU r5 r6 0 0 ls (lv_sub hl [4, 3, 2, 1, 0] rfl) hm
theorem dX6_feltBy_0 : decode cX6_feltBy 0 = .ok (.iconst 0, 1) := by decide +kernel
theorem dX6_feltBy_1 : decode cX6_feltBy 1 = .ok (.istore_n 2, 1) := by decide +kernel
theorem dX6_feltBy_2 : decode cX6_feltBy 2 = .ok (.iconst 0, 1) := by decide +kernel
theorem dX6_feltBy_3 : decode cX6_feltBy 3 = .ok (.istore_n 3, 1) := by decide +kernel
theorem dX6_feltBy_4 : decode cX6_feltBy 4 = .ok (.iload_n 3, 1) := by decide +kernel
theorem dX6_feltBy_5 : decode cX6_feltBy 5 = .ok (.bipush 6, 2) := by decide +kernel
theorem dX6_feltBy_7 : decode cX6_feltBy 7 = .ok (.if_icmp .ge 32, 3) := by decide +kernel
theorem dX6_feltBy_10 : decode cX6_feltBy 10 = .ok (.iload_n 2, 1) := by decide +kernel
theorem dX6_feltBy_11 : decode cX6_feltBy 11 = .ok (.iload_n 1, 1) := by decide +kernel
theorem dX6_feltBy_12 : decode cX6_feltBy 12 = .ok (.iload_n 3, 1) := by decide +kernel
theorem dX6_feltBy_13 : decode cX6_feltBy 13 = .ok (.invokestatic 38, 3) := by decide +kernel
theorem dX6_feltBy_16 : decode cX6_feltBy 16 = .ok (.ifCond .eq 14, 3) := by decide +kernel
theorem dX6_feltBy_19 : decode cX6_feltBy 19 = .ok (.aload_n 0, 1) := by decide +kernel
theorem dX6_feltBy_20 : decode cX6_feltBy 20 = .ok (.getfield 15, 3) := by decide +kernel
theorem dX6_feltBy_23 : decode cX6_feltBy 23 = .ok (.iload_n 3, 1) := by decide +kernel
theorem dX6_feltBy_24 : decode cX6_feltBy 24 = .ok (.invokestatic 34, 3) := by decide +kernel
theorem dX6_feltBy_27 : decode cX6_feltBy 27 = .ok (.goto 4, 3) := by decide +kernel
theorem dX6_feltBy_30 : decode cX6_feltBy 30 = .ok (.iconst 0, 1) := by decide +kernel
theorem dX6_feltBy_31 : decode cX6_feltBy 31 = .ok (.ior, 1) := by decide +kernel
theorem dX6_feltBy_32 : decode cX6_feltBy 32 = .ok (.istore_n 2, 1) := by decide +kernel
theorem dX6_feltBy_33 : decode cX6_feltBy 33 = .ok (.iinc 3 1, 3) := by decide +kernel
theorem dX6_feltBy_36 : decode cX6_feltBy 36 = .ok (.goto (-32), 3) := by decide +kernel
theorem dX6_feltBy_39 : decode cX6_feltBy 39 = .ok (.iload_n 2, 1) := by decide +kernel
theorem dX6_feltBy_40 : decode cX6_feltBy 40 = .ok (.ireturn, 1) := by decide +kernel
abbrev wd_X6_feltBy (k : Nat → ClassId) (this : Nat) (this_lacks : Nat) (this_lacks_f : Nat → Int32) (this_feels : Nat) (this_feels_f : Nat → Int32) (this_date : Int32) : va_W := [(this, .inr (5, [.ref this_lacks, .ref this_feels, .int this_date])), (this_lacks, .inl (k 0, 6, .inl this_lacks_f)), (this_feels, .inl (k 0, 6, .inl this_feels_f))]
set_option maxHeartbeats 4000000 in
set_option maxRecDepth 100000 in
theorem c_X6_feltBy (l : Launch) (D : va_G) (k : Nat → ClassId) (this : Nat) (this_lacks : Nat) (this_lacks_f : Nat → Int32) (this_feels : Nat) (this_feels_f : Nat → Int32) (this_date : Int32) (set : Int32) (R0 : Int32) (hm : m_X6_feltBy this_feels_f set = some R0) : CR l D (TY k) yX6_feltBy cX6_feltBy 4 (some .int) 2 41 [.ref this, .int set] (wd_X6_feltBy k this this_lacks this_lacks_f this_feels this_feels_f this_date) (some (.int R0)) := by
  refine CR.mk (by decide) (Nat.le_of_ble_eq_true rfl) ?_
  intro p e s m args below meth c ls ⟨hx, hb, hr, hts, hown, hlocks, hml⟩ hP hG hl
  have hl : lv_has ls 4 [(0, .ref this), (1, .int set)] := hl
  have h_4 : ∀ (n : Nat), ∀ (x2 : Int32) (x3 : Int32) (ls : Array Slot), lv_has ls 4 [(0, .ref this), (1, .int set), (2, .int x2), (3, .int x3)] → m_X6_feltBy_4 this_feels_f set n x2 x3 = some R0 → W p l e (Rm 2 41) s m args below meth c s.heap [] 0 0 (MQ below (QR (some (.int R0))) args s 0 0 (fun _ => False)) (F0 m 4 ls []) := by
    intro n
    induction n with
    | zero => intro x2 x3 ls hl hm; cases hm
    | succ n ih =>
      intro x2 x3 ls hl hm
      unfold m_X6_feltBy_4 at hm
      refine lv_iload_n (pc := 4) hx hb dX6_feltBy_4 rfl (lv_at hl 3 rfl) ?_
      refine lv_bipush (v := 6) (pc := 5) hx hb dX6_feltBy_5 (by decide) ?_
      refine lv_icmp_ge (tgt := 39) (pc := 7) hx hb dX6_feltBy_7 (by decide) (fun hc => ?_) (fun hc => ?_)
      · rw [if_pos hc] at hm
        refine lv_iload_n (pc := 39) hx hb dX6_feltBy_39 rfl (lv_at hl 2 rfl) ?_
        rw [← Option.some.inj hm]
        exact W.iret hx hb hr (fun t ht _ => ⟨rfl, ht⟩) (fun _ h => by cases h) dX6_feltBy_40 hlocks
      · rw [if_neg hc] at hm
        refine lv_iload_n (pc := 10) hx hb dX6_feltBy_10 rfl (lv_at hl 2 rfl) ?_
        refine lv_iload_n (pc := 11) hx hb dX6_feltBy_11 rfl (lv_at hl 1 rfl) ?_
        refine lv_iload_n (pc := 12) hx hb dX6_feltBy_12 rfl (lv_at hl 3 rfl) ?_
        obtain ⟨r3, hcl, hm⟩ := bd hm
        refine cr_back (run_SN (pc := 13) (n := 2) (As := [.int set, .int x3]) (rest := [.int x2]) ⟨hx, hb, hml, hown, hts⟩ (c_X11_holds l D k set x3 r3 hcl) ⟨kw_604, kw_1, by decide +kernel⟩ hG kn_602 kw_603 ⟨Nat.le_of_ble_eq_true rfl, Nat.le_of_ble_eq_true rfl⟩ pr_blind (prR (hP.sub [] rfl) hG) rfl hl.1 rfl (Nat.le_of_ble_eq_true rfl) dX6_feltBy_13 ⟨Nat.zero_le _, Nat.zero_le _⟩) ?_
        refine lv_if_eq (tgt := 30) (pc := 16) hx hb dX6_feltBy_16 (by decide) (fun hc => ?_) (fun hc => ?_)
        · rw [if_pos hc] at hm
          refine lv_iconst (v := 0) (pc := 30) hx hb dX6_feltBy_30 (by decide) ?_
          refine lv_ior (pc := 31) hx hb dX6_feltBy_31 ?_
          refine lv_istore_n (lv' := [(2, .int (x2 ||| 0)), (0, .ref this), (1, .int set), (3, .int x3)]) (pc := 32) hx hb dX6_feltBy_32 rfl hl (Nat.le_of_ble_eq_true rfl) rfl (fun ls hl => ?_)
          refine lv_iinc (k := 3) (v := x3 + 1) (lv' := [(3, .int (x3 + 1)), (2, .int (x2 ||| 0)), (0, .ref this), (1, .int set)]) (pc := 33) hx hb dX6_feltBy_33 hl rfl rfl (Nat.le_of_ble_eq_true rfl) rfl (fun ls hl => ?_)
          refine lv_goto (tgt := 4) (pc := 36) hx hb dX6_feltBy_36 (by decide) ?_
          exact ih (x2 ||| 0) (x3 + 1) ls (lv_sub hl [2, 3, 1, 0] rfl) hm
        · rw [if_neg hc] at hm
          refine lv_aload_n (pc := 19) hx hb dX6_feltBy_19 rfl (lv_at hl 0 rfl) ?_
          refine va_get (pc := 20) (D := D) (ci := 5) (C := RX6) (T := TX6) (N := 3) hx hb hts hiX6 hown hG.1 hP 0 rfl rfl 1 (Nat.le_of_ble_eq_true rfl) (hts _ kw_97) (fun _ h9 => h9) rfl dX6_feltBy_20 ?_
          refine lv_iload_n (pc := 23) hx hb dX6_feltBy_23 rfl (lv_at hl 3 rfl) ?_
          obtain ⟨r4, hcl, hm⟩ := bd hm
          refine cr_back (run_SN (pc := 24) (n := 2) (As := [.ref this_feels, .int x3]) (rest := [.int x2]) ⟨hx, hb, hml, hown, hts⟩ (c_X11_at l D k this_feels 6 this_feels_f x3 r4 hcl) ⟨kw_329, kw_1, by decide +kernel⟩ hG kn_601 kw_328 ⟨Nat.le_of_ble_eq_true rfl, Nat.le_of_ble_eq_true rfl⟩ pr_blind (prR (hP.sub [2] rfl) hG) rfl hl.1 rfl (Nat.le_of_ble_eq_true rfl) dX6_feltBy_24 ⟨Nat.zero_le _, Nat.zero_le _⟩) ?_
          refine lv_goto (tgt := 31) (pc := 27) hx hb dX6_feltBy_27 (by decide) ?_
          refine lv_ior (pc := 31) hx hb dX6_feltBy_31 ?_
          refine lv_istore_n (lv' := [(2, .int (x2 ||| r4)), (0, .ref this), (1, .int set), (3, .int x3)]) (pc := 32) hx hb dX6_feltBy_32 rfl hl (Nat.le_of_ble_eq_true rfl) rfl (fun ls hl => ?_)
          refine lv_iinc (k := 3) (v := x3 + 1) (lv' := [(3, .int (x3 + 1)), (2, .int (x2 ||| r4)), (0, .ref this), (1, .int set)]) (pc := 33) hx hb dX6_feltBy_33 hl rfl rfl (Nat.le_of_ble_eq_true rfl) rfl (fun ls hl => ?_)
          refine lv_goto (tgt := 4) (pc := 36) hx hb dX6_feltBy_36 (by decide) ?_
          exact ih (x2 ||| r4) (x3 + 1) ls (lv_sub hl [2, 3, 1, 0] rfl) hm
  unfold m_X6_feltBy at hm
  refine lv_iconst (v := 0) (pc := 0) hx hb dX6_feltBy_0 (by decide) ?_
  refine lv_istore_n (lv' := [(2, .int 0), (0, .ref this), (1, .int set)]) (pc := 1) hx hb dX6_feltBy_1 rfl hl (Nat.le_of_ble_eq_true rfl) rfl (fun ls hl => ?_)
  refine lv_iconst (v := 0) (pc := 2) hx hb dX6_feltBy_2 (by decide) ?_
  refine lv_istore_n (lv' := [(3, .int 0), (2, .int 0), (0, .ref this), (1, .int set)]) (pc := 3) hx hb dX6_feltBy_3 rfl hl (Nat.le_of_ble_eq_true rfl) rfl (fun ls hl => ?_)
  exact h_4 FU 0 0 ls (lv_sub hl [2, 3, 1, 0] rfl) hm
theorem dX6_feltFrom_0 : decode cX6_feltFrom 0 = .ok (.aload_n 0, 1) := by decide +kernel
theorem dX6_feltFrom_1 : decode cX6_feltFrom 1 = .ok (.getfield 15, 3) := by decide +kernel
theorem dX6_feltFrom_4 : decode cX6_feltFrom 4 = .ok (.iload_n 1, 1) := by decide +kernel
theorem dX6_feltFrom_5 : decode cX6_feltFrom 5 = .ok (.invokestatic 34, 3) := by decide +kernel
theorem dX6_feltFrom_8 : decode cX6_feltFrom 8 = .ok (.istore_n 2, 1) := by decide +kernel
theorem dX6_feltFrom_9 : decode cX6_feltFrom 9 = .ok (.iconst 1, 1) := by decide +kernel
theorem dX6_feltFrom_10 : decode cX6_feltFrom 10 = .ok (.istore_n 3, 1) := by decide +kernel
theorem dX6_feltFrom_11 : decode cX6_feltFrom 11 = .ok (.iload_n 3, 1) := by decide +kernel
theorem dX6_feltFrom_12 : decode cX6_feltFrom 12 = .ok (.bipush 6, 2) := by decide +kernel
theorem dX6_feltFrom_14 : decode cX6_feltFrom 14 = .ok (.if_icmp .ge 17, 3) := by decide +kernel
theorem dX6_feltFrom_17 : decode cX6_feltFrom 17 = .ok (.iload_n 2, 1) := by decide +kernel
theorem dX6_feltFrom_18 : decode cX6_feltFrom 18 = .ok (.aload_n 0, 1) := by decide +kernel
theorem dX6_feltFrom_19 : decode cX6_feltFrom 19 = .ok (.iload_n 2, 1) := by decide +kernel
theorem dX6_feltFrom_20 : decode cX6_feltFrom 20 = .ok (.invokevirtual 50, 3) := by decide +kernel
theorem dX6_feltFrom_23 : decode cX6_feltFrom 23 = .ok (.ior, 1) := by decide +kernel
theorem dX6_feltFrom_24 : decode cX6_feltFrom 24 = .ok (.istore_n 2, 1) := by decide +kernel
theorem dX6_feltFrom_25 : decode cX6_feltFrom 25 = .ok (.iinc 3 1, 3) := by decide +kernel
theorem dX6_feltFrom_28 : decode cX6_feltFrom 28 = .ok (.goto (-17), 3) := by decide +kernel
theorem dX6_feltFrom_31 : decode cX6_feltFrom 31 = .ok (.iload_n 2, 1) := by decide +kernel
theorem dX6_feltFrom_32 : decode cX6_feltFrom 32 = .ok (.ireturn, 1) := by decide +kernel
abbrev wd_X6_feltFrom (k : Nat → ClassId) (this : Nat) (this_lacks : Nat) (this_lacks_f : Nat → Int32) (this_feels : Nat) (this_feels_f : Nat → Int32) (this_date : Int32) : va_W := [(this, .inr (5, [.ref this_lacks, .ref this_feels, .int this_date])), (this_lacks, .inl (k 0, 6, .inl this_lacks_f)), (this_feels, .inl (k 0, 6, .inl this_feels_f))]
set_option maxHeartbeats 4000000 in
set_option maxRecDepth 100000 in
theorem c_X6_feltFrom (l : Launch) (D : va_G) (k : Nat → ClassId) (this : Nat) (this_lacks : Nat) (this_lacks_f : Nat → Int32) (this_feels : Nat) (this_feels_f : Nat → Int32) (this_date : Int32) (person : Int32) (R0 : Int32) (hm : m_X6_feltFrom this_feels_f person = some R0) : CR l D (TY k) yX6_feltFrom cX6_feltFrom 4 (some .int) 3 64 [.ref this, .int person] (wd_X6_feltFrom k this this_lacks this_lacks_f this_feels this_feels_f this_date) (some (.int R0)) := by
  refine CR.mk (by decide) (Nat.le_of_ble_eq_true rfl) ?_
  intro p e s m args below meth c ls ⟨hx, hb, hr, hts, hown, hlocks, hml⟩ hP hG hl
  have hl : lv_has ls 4 [(0, .ref this), (1, .int person)] := hl
  have h_11 : ∀ (n : Nat), ∀ (x2 : Int32) (x3 : Int32) (ls : Array Slot), lv_has ls 4 [(0, .ref this), (2, .int x2), (3, .int x3)] → m_X6_feltFrom_11 this_feels_f person n x2 x3 = some R0 → W p l e (Rm 3 64) s m args below meth c s.heap [] 0 0 (MQ below (QR (some (.int R0))) args s 0 0 (fun _ => False)) (F0 m 11 ls []) := by
    intro n
    induction n with
    | zero => intro x2 x3 ls hl hm; cases hm
    | succ n ih =>
      intro x2 x3 ls hl hm
      unfold m_X6_feltFrom_11 at hm
      refine lv_iload_n (pc := 11) hx hb dX6_feltFrom_11 rfl (lv_at hl 2 rfl) ?_
      refine lv_bipush (v := 6) (pc := 12) hx hb dX6_feltFrom_12 (by decide) ?_
      refine lv_icmp_ge (tgt := 31) (pc := 14) hx hb dX6_feltFrom_14 (by decide) (fun hc => ?_) (fun hc => ?_)
      · rw [if_pos hc] at hm
        refine lv_iload_n (pc := 31) hx hb dX6_feltFrom_31 rfl (lv_at hl 1 rfl) ?_
        rw [← Option.some.inj hm]
        exact W.iret hx hb hr (fun t ht _ => ⟨rfl, ht⟩) (fun _ h => by cases h) dX6_feltFrom_32 hlocks
      · rw [if_neg hc] at hm
        refine lv_iload_n (pc := 17) hx hb dX6_feltFrom_17 rfl (lv_at hl 1 rfl) ?_
        refine lv_aload_n (pc := 18) hx hb dX6_feltFrom_18 rfl (lv_at hl 0 rfl) ?_
        refine lv_iload_n (pc := 19) hx hb dX6_feltFrom_19 rfl (lv_at hl 1 rfl) ?_
        obtain ⟨r3, hcl, hm⟩ := bd hm
        refine cr_back (run_V (pc := 20) (n := 1) (As := [.int x2]) (rest := [.int x2]) ⟨hx, hb, hml, hown, hts⟩ (c_X6_feltBy l D k this this_lacks this_lacks_f this_feels this_feels_f this_date x2 r3 hcl) ⟨kw_1012, kw_6, by decide +kernel⟩ kw_1009 kw_1011 ks_80 ⟨Nat.le_of_ble_eq_true rfl, Nat.le_of_ble_eq_true rfl⟩ pr_blind (prR (hP.sub [0, 1, 2] rfl) hG) (va_recv hG.1 hP (ci := 5) (q0 := 0) rfl rfl) rfl hl.1 rfl (Nat.le_of_ble_eq_true rfl) dX6_feltFrom_20 ⟨Nat.zero_le _, Nat.zero_le _⟩) ?_
        refine lv_ior (pc := 23) hx hb dX6_feltFrom_23 ?_
        refine lv_istore_n (lv' := [(2, .int (x2 ||| r3)), (0, .ref this), (3, .int x3)]) (pc := 24) hx hb dX6_feltFrom_24 rfl hl (Nat.le_of_ble_eq_true rfl) rfl (fun ls hl => ?_)
        refine lv_iinc (k := 2) (v := x3 + 1) (lv' := [(3, .int (x3 + 1)), (2, .int (x2 ||| r3)), (0, .ref this)]) (pc := 25) hx hb dX6_feltFrom_25 hl rfl rfl (Nat.le_of_ble_eq_true rfl) rfl (fun ls hl => ?_)
        refine lv_goto (tgt := 11) (pc := 28) hx hb dX6_feltFrom_28 (by decide) ?_
        exact ih (x2 ||| r3) (x3 + 1) ls (lv_sub hl [2, 1, 0] rfl) hm
  unfold m_X6_feltFrom at hm
  refine lv_aload_n (pc := 0) hx hb dX6_feltFrom_0 rfl (lv_at hl 0 rfl) ?_
  refine va_get (pc := 1) (D := D) (ci := 5) (C := RX6) (T := TX6) (N := 3) hx hb hts hiX6 hown hG.1 hP 0 rfl rfl 1 (Nat.le_of_ble_eq_true rfl) (hts _ kw_97) (fun _ h9 => h9) rfl dX6_feltFrom_1 ?_
  refine lv_iload_n (pc := 4) hx hb dX6_feltFrom_4 rfl (lv_at hl 1 rfl) ?_
  obtain ⟨r4, hcl, hm⟩ := bd hm
  refine cr_back (run_SN (pc := 5) (n := 2) (As := [.ref this_feels, .int person]) (rest := []) ⟨hx, hb, hml, hown, hts⟩ (c_X11_at l D k this_feels 6 this_feels_f person r4 hcl) ⟨kw_329, kw_1, by decide +kernel⟩ hG kn_601 kw_328 ⟨Nat.le_of_ble_eq_true rfl, Nat.le_of_ble_eq_true rfl⟩ pr_blind (prR (hP.sub [2] rfl) hG) rfl hl.1 rfl (Nat.le_of_ble_eq_true rfl) dX6_feltFrom_5 ⟨Nat.zero_le _, Nat.zero_le _⟩) ?_
  refine lv_istore_n (lv' := [(2, .int r4), (0, .ref this), (1, .int person)]) (pc := 8) hx hb dX6_feltFrom_8 rfl hl (Nat.le_of_ble_eq_true rfl) rfl (fun ls hl => ?_)
  refine lv_iconst (v := 1) (pc := 9) hx hb dX6_feltFrom_9 (by decide) ?_
  refine lv_istore_n (lv' := [(3, .int 1), (2, .int r4), (0, .ref this), (1, .int person)]) (pc := 10) hx hb dX6_feltFrom_10 rfl hl (Nat.le_of_ble_eq_true rfl) rfl (fun ls hl => ?_)
  exact h_11 FU r4 1 ls (lv_sub hl [2, 1, 0] rfl) hm
theorem dJ7_fill_53178_0 : decode cJ7_fill_53178 0 = .ok (.iconst 0, 1) := by decide +kernel
theorem dJ7_fill_53178_1 : decode cJ7_fill_53178 1 = .ok (.istore_n 2, 1) := by decide +kernel
theorem dJ7_fill_53178_2 : decode cJ7_fill_53178 2 = .ok (.aload_n 0, 1) := by decide +kernel
theorem dJ7_fill_53178_3 : decode cJ7_fill_53178 3 = .ok (.arraylength, 1) := by decide +kernel
theorem dJ7_fill_53178_4 : decode cJ7_fill_53178 4 = .ok (.istore_n 3, 1) := by decide +kernel
theorem dJ7_fill_53178_5 : decode cJ7_fill_53178 5 = .ok (.iload_n 2, 1) := by decide +kernel
theorem dJ7_fill_53178_6 : decode cJ7_fill_53178 6 = .ok (.iload_n 3, 1) := by decide +kernel
theorem dJ7_fill_53178_7 : decode cJ7_fill_53178 7 = .ok (.if_icmp .ge 13, 3) := by decide +kernel
theorem dJ7_fill_53178_10 : decode cJ7_fill_53178 10 = .ok (.aload_n 0, 1) := by decide +kernel
theorem dJ7_fill_53178_11 : decode cJ7_fill_53178 11 = .ok (.iload_n 2, 1) := by decide +kernel
theorem dJ7_fill_53178_12 : decode cJ7_fill_53178 12 = .ok (.iload_n 1, 1) := by decide +kernel
theorem dJ7_fill_53178_13 : decode cJ7_fill_53178 13 = .ok (.iastore, 1) := by decide +kernel
theorem dJ7_fill_53178_14 : decode cJ7_fill_53178 14 = .ok (.iinc 2 1, 3) := by decide +kernel
theorem dJ7_fill_53178_17 : decode cJ7_fill_53178 17 = .ok (.goto (-12), 3) := by decide +kernel
theorem dJ7_fill_53178_20 : decode cJ7_fill_53178 20 = .ok (.return_, 1) := by decide +kernel
abbrev wd_J7_fill_53178 (k : Nat → ClassId) (a : Nat) (a_n : Nat) (a_f : Nat → Int32) : va_W := [(a, .inl (k 0, a_n, .inl a_f))]
set_option maxHeartbeats 4000000 in
set_option maxRecDepth 100000 in
theorem c_J7_fill_53178 (l : Launch) (D : va_G) (k : Nat → ClassId) (a : Nat) (a_n : Nat) (a_f : Nat → Int32) (val : Int32) (R0 : (Nat → Int32)) (hm : m_J7_fill_53178 a_n a_f val = some R0) : CW l D (TY k) yJ7_fill_53178 cJ7_fill_53178 4 none 0 0 [.ref a, .int val] (wd_J7_fill_53178 k a a_n a_f) none (wd_J7_fill_53178 k a a_n R0) := by
  refine CW.mk (by decide) (Nat.le_of_ble_eq_true rfl) ?_
  intro p e s m args below meth c ls A ⟨hx, hb, hr, hts, hown, hlocks, hml⟩ hP hG hD hA hl hS hq
  have hl : lv_has ls 4 [(0, .ref a), (1, .int val)] := hl
  have h_5 : ∀ (n : Nat), ∀ (x2 : Int32) (x3 : Int32) (u_a_f : Nat → Int32) (H : Heap) (locs : List Loc) (ls : Array Slot), va_P D vwCl (wd_J7_fill_53178 k a a_n u_a_f) H → va_D A (wd_J7_fill_53178 k a a_n u_a_f) → va_S A s.heap H locs → lv_has ls 4 [(0, .ref a), (1, .int val), (2, .int x2), (3, .int x3)] → m_J7_fill_53178_5 a_n val n x2 x3 u_a_f = some R0 → W p l e (Rm 0 0) s m args below meth c H locs 0 0 (MQ below (QW D none (wd_J7_fill_53178 k a a_n a_f) (wd_J7_fill_53178 k a a_n R0) s.heap.size) args s 0 0 A) (F0 m 5 ls []) := by
    intro n
    induction n with
    | zero => intro x2 x3 u_a_f H locs ls hP hD hS hl hm; cases hm
    | succ n ih =>
      intro x2 x3 u_a_f H locs ls hP hD hS hl hm
      unfold m_J7_fill_53178_5 at hm
      refine lv_iload_n (pc := 5) hx hb dJ7_fill_53178_5 rfl (lv_at hl 2 rfl) ?_
      refine lv_iload_n (pc := 6) hx hb dJ7_fill_53178_6 rfl (lv_at hl 3 rfl) ?_
      refine lv_icmp_ge (tgt := 20) (pc := 7) hx hb dJ7_fill_53178_7 (by decide) (fun hc => ?_) (fun hc => ?_)
      · rw [if_pos hc] at hm
        rw [← Option.some.inj hm]
        exact W.vret hx hb hr (fun t ht _ => hq _ _ H t ht hP hD locs hS) hS.2.2 dJ7_fill_53178_20 hlocks
      · rw [if_neg hc] at hm
        refine lv_aload_n (pc := 10) hx hb dJ7_fill_53178_10 rfl (lv_at hl 0 rfl) ?_
        refine lv_iload_n (pc := 11) hx hb dJ7_fill_53178_11 rfl (lv_at hl 2 rfl) ?_
        refine lv_iload_n (pc := 12) hx hb dJ7_fill_53178_12 rfl (lv_at hl 1 rfl) ?_
        obtain ⟨hin, hm⟩ := gd hm
        refine va_iast (pc := 13) (D := D) hx hb hG.1 hP hD hS 0 0 rfl rfl hin dJ7_fill_53178_13 (fun H locs hP hD hS => ?_)
        have hP : va_P D vwCl (wd_J7_fill_53178 k a a_n (upd u_a_f x2.toNatClampNeg val)) H := hP
        have hD : va_D A (wd_J7_fill_53178 k a a_n (upd u_a_f x2.toNatClampNeg val)) := hD
        refine lv_iinc (k := 2) (v := x2 + 1) (lv' := [(2, .int (x2 + 1)), (0, .ref a), (1, .int val), (3, .int x3)]) (pc := 14) hx hb dJ7_fill_53178_14 hl rfl rfl (Nat.le_of_ble_eq_true rfl) rfl (fun ls hl => ?_)
        refine lv_goto (tgt := 5) (pc := 17) hx hb dJ7_fill_53178_17 (by decide) ?_
        exact ih (x2 + 1) x3 (upd u_a_f x2.toNatClampNeg val) H locs ls hP hD hS (lv_sub hl [1, 2, 0, 3] rfl) hm
  unfold m_J7_fill_53178 at hm
  suffices hgo : ∀ (H : Heap) (locs : List Loc), va_P D vwCl (wd_J7_fill_53178 k a a_n a_f) H → va_D A (wd_J7_fill_53178 k a a_n a_f) → va_S A s.heap H locs → W p l e (Rm 0 0) s m args below meth c H locs 0 0 (MQ below (QW D none (wd_J7_fill_53178 k a a_n a_f) (wd_J7_fill_53178 k a a_n R0) s.heap.size) args s 0 0 A) (F0 m 0 ls []) from hgo _ _ hP hD hS
  clear hP hD hS
  intro H locs hP hD hS
  refine lv_iconst (v := 0) (pc := 0) hx hb dJ7_fill_53178_0 (by decide) ?_
  refine lv_istore_n (lv' := [(2, .int 0), (0, .ref a), (1, .int val)]) (pc := 1) hx hb dJ7_fill_53178_1 rfl hl (Nat.le_of_ble_eq_true rfl) rfl (fun ls hl => ?_)
  refine lv_aload_n (pc := 2) hx hb dJ7_fill_53178_2 rfl (lv_at hl 1 rfl) ?_
  refine va_alen (pc := 3) (D := D) (v := Int32.ofNat a_n) hx hb hG.1 hP 0 0 rfl rfl rfl dJ7_fill_53178_3 ?_
  refine lv_istore_n (lv' := [(3, .int (Int32.ofNat a_n)), (2, .int 0), (0, .ref a), (1, .int val)]) (pc := 4) hx hb dJ7_fill_53178_4 rfl hl (Nat.le_of_ble_eq_true rfl) rfl (fun ls hl => ?_)
  exact h_5 FU 0 (Int32.ofNat a_n) a_f H locs ls hP hD hS (lv_sub hl [2, 3, 1, 0] rfl) hm
theorem dJ6_compare_7cf53_0 : decode cJ6_compare_7cf53 0 = .ok (.iload_n 0, 1) := by decide +kernel
theorem dJ6_compare_7cf53_1 : decode cJ6_compare_7cf53 1 = .ok (.iload_n 1, 1) := by decide +kernel
theorem dJ6_compare_7cf53_2 : decode cJ6_compare_7cf53 2 = .ok (.if_icmp .ge 7, 3) := by decide +kernel
theorem dJ6_compare_7cf53_5 : decode cJ6_compare_7cf53 5 = .ok (.iconst (-1), 1) := by decide +kernel
theorem dJ6_compare_7cf53_6 : decode cJ6_compare_7cf53 6 = .ok (.goto 13, 3) := by decide +kernel
theorem dJ6_compare_7cf53_9 : decode cJ6_compare_7cf53 9 = .ok (.iload_n 0, 1) := by decide +kernel
theorem dJ6_compare_7cf53_10 : decode cJ6_compare_7cf53 10 = .ok (.iload_n 1, 1) := by decide +kernel
theorem dJ6_compare_7cf53_11 : decode cJ6_compare_7cf53 11 = .ok (.if_icmp .ne 7, 3) := by decide +kernel
theorem dJ6_compare_7cf53_14 : decode cJ6_compare_7cf53 14 = .ok (.iconst 0, 1) := by decide +kernel
theorem dJ6_compare_7cf53_15 : decode cJ6_compare_7cf53 15 = .ok (.goto 4, 3) := by decide +kernel
theorem dJ6_compare_7cf53_18 : decode cJ6_compare_7cf53 18 = .ok (.iconst 1, 1) := by decide +kernel
theorem dJ6_compare_7cf53_19 : decode cJ6_compare_7cf53 19 = .ok (.ireturn, 1) := by decide +kernel
abbrev wd_J6_compare_7cf53 (k : Nat → ClassId) : va_W := []
set_option maxHeartbeats 4000000 in
set_option maxRecDepth 100000 in
theorem c_J6_compare_7cf53 (l : Launch) (D : va_G) (k : Nat → ClassId) (x : Int32) (y : Int32) (R0 : Int32) (hm : m_J6_compare_7cf53 x y = some R0) : CR l D (TY k) yJ6_compare_7cf53 cJ6_compare_7cf53 2 (some .int) 0 0 [.int x, .int y] (wd_J6_compare_7cf53 k ) (some (.int R0)) := by
  refine CR.mk (by decide) (Nat.le_of_ble_eq_true rfl) ?_
  intro p e s m args below meth c ls ⟨hx, hb, hr, hts, hown, hlocks, hml⟩ hP hG hl
  have hl : lv_has ls 2 [(0, .int x), (1, .int y)] := hl
  unfold m_J6_compare_7cf53 at hm
  refine lv_iload_n (pc := 0) hx hb dJ6_compare_7cf53_0 rfl (lv_at hl 0 rfl) ?_
  refine lv_iload_n (pc := 1) hx hb dJ6_compare_7cf53_1 rfl (lv_at hl 1 rfl) ?_
  refine lv_icmp_ge (tgt := 9) (pc := 2) hx hb dJ6_compare_7cf53_2 (by decide) (fun hc => ?_) (fun hc => ?_)
  · rw [if_pos hc] at hm
    refine lv_iload_n (pc := 9) hx hb dJ6_compare_7cf53_9 rfl (lv_at hl 0 rfl) ?_
    refine lv_iload_n (pc := 10) hx hb dJ6_compare_7cf53_10 rfl (lv_at hl 1 rfl) ?_
    refine lv_icmp_ne (tgt := 18) (pc := 11) hx hb dJ6_compare_7cf53_11 (by decide) (fun hc => ?_) (fun hc => ?_)
    · rw [if_neg hc] at hm
      refine lv_iconst (v := 1) (pc := 18) hx hb dJ6_compare_7cf53_18 (by decide) ?_
      rw [← Option.some.inj hm]
      exact W.iret hx hb hr (fun t ht _ => ⟨rfl, ht⟩) (fun _ h => by cases h) dJ6_compare_7cf53_19 hlocks
    · rw [if_pos hc] at hm
      refine lv_iconst (v := 0) (pc := 14) hx hb dJ6_compare_7cf53_14 (by decide) ?_
      refine lv_goto (tgt := 19) (pc := 15) hx hb dJ6_compare_7cf53_15 (by decide) ?_
      rw [← Option.some.inj hm]
      exact W.iret hx hb hr (fun t ht _ => ⟨rfl, ht⟩) (fun _ h => by cases h) dJ6_compare_7cf53_19 hlocks
  · rw [if_neg hc] at hm
    refine lv_iconst (v := (-1)) (pc := 5) hx hb dJ6_compare_7cf53_5 (by decide) ?_
    refine lv_goto (tgt := 19) (pc := 6) hx hb dJ6_compare_7cf53_6 (by decide) ?_
    rw [← Option.some.inj hm]
    exact W.iret hx hb hr (fun t ht _ => ⟨rfl, ht⟩) (fun _ h => by cases h) dJ6_compare_7cf53_19 hlocks
theorem dJ6_bitCount_0f7a4_0 : decode cJ6_bitCount_0f7a4 0 = .ok (.iload_n 0, 1) := by decide +kernel
theorem dJ6_bitCount_0f7a4_1 : decode cJ6_bitCount_0f7a4 1 = .ok (.iload_n 0, 1) := by decide +kernel
theorem dJ6_bitCount_0f7a4_2 : decode cJ6_bitCount_0f7a4 2 = .ok (.iconst 1, 1) := by decide +kernel
theorem dJ6_bitCount_0f7a4_3 : decode cJ6_bitCount_0f7a4 3 = .ok (.iushr, 1) := by decide +kernel
theorem dJ6_bitCount_0f7a4_4 : decode cJ6_bitCount_0f7a4 4 = .ok (.ldc_w 265, 3) := by decide +kernel
theorem dJ6_bitCount_0f7a4_7 : decode cJ6_bitCount_0f7a4 7 = .ok (.iand, 1) := by decide +kernel
theorem dJ6_bitCount_0f7a4_8 : decode cJ6_bitCount_0f7a4 8 = .ok (.isub, 1) := by decide +kernel
theorem dJ6_bitCount_0f7a4_9 : decode cJ6_bitCount_0f7a4 9 = .ok (.istore_n 0, 1) := by decide +kernel
theorem dJ6_bitCount_0f7a4_10 : decode cJ6_bitCount_0f7a4 10 = .ok (.iload_n 0, 1) := by decide +kernel
theorem dJ6_bitCount_0f7a4_11 : decode cJ6_bitCount_0f7a4 11 = .ok (.ldc_w 266, 3) := by decide +kernel
theorem dJ6_bitCount_0f7a4_14 : decode cJ6_bitCount_0f7a4 14 = .ok (.iand, 1) := by decide +kernel
theorem dJ6_bitCount_0f7a4_15 : decode cJ6_bitCount_0f7a4 15 = .ok (.iload_n 0, 1) := by decide +kernel
theorem dJ6_bitCount_0f7a4_16 : decode cJ6_bitCount_0f7a4 16 = .ok (.iconst 2, 1) := by decide +kernel
theorem dJ6_bitCount_0f7a4_17 : decode cJ6_bitCount_0f7a4 17 = .ok (.iushr, 1) := by decide +kernel
theorem dJ6_bitCount_0f7a4_18 : decode cJ6_bitCount_0f7a4 18 = .ok (.ldc_w 266, 3) := by decide +kernel
theorem dJ6_bitCount_0f7a4_21 : decode cJ6_bitCount_0f7a4 21 = .ok (.iand, 1) := by decide +kernel
theorem dJ6_bitCount_0f7a4_22 : decode cJ6_bitCount_0f7a4 22 = .ok (.iadd, 1) := by decide +kernel
theorem dJ6_bitCount_0f7a4_23 : decode cJ6_bitCount_0f7a4 23 = .ok (.istore_n 0, 1) := by decide +kernel
theorem dJ6_bitCount_0f7a4_24 : decode cJ6_bitCount_0f7a4 24 = .ok (.iload_n 0, 1) := by decide +kernel
theorem dJ6_bitCount_0f7a4_25 : decode cJ6_bitCount_0f7a4 25 = .ok (.iload_n 0, 1) := by decide +kernel
theorem dJ6_bitCount_0f7a4_26 : decode cJ6_bitCount_0f7a4 26 = .ok (.iconst 4, 1) := by decide +kernel
theorem dJ6_bitCount_0f7a4_27 : decode cJ6_bitCount_0f7a4 27 = .ok (.iushr, 1) := by decide +kernel
theorem dJ6_bitCount_0f7a4_28 : decode cJ6_bitCount_0f7a4 28 = .ok (.iadd, 1) := by decide +kernel
theorem dJ6_bitCount_0f7a4_29 : decode cJ6_bitCount_0f7a4 29 = .ok (.ldc_w 267, 3) := by decide +kernel
theorem dJ6_bitCount_0f7a4_32 : decode cJ6_bitCount_0f7a4 32 = .ok (.iand, 1) := by decide +kernel
theorem dJ6_bitCount_0f7a4_33 : decode cJ6_bitCount_0f7a4 33 = .ok (.istore_n 0, 1) := by decide +kernel
theorem dJ6_bitCount_0f7a4_34 : decode cJ6_bitCount_0f7a4 34 = .ok (.iload_n 0, 1) := by decide +kernel
theorem dJ6_bitCount_0f7a4_35 : decode cJ6_bitCount_0f7a4 35 = .ok (.iload_n 0, 1) := by decide +kernel
theorem dJ6_bitCount_0f7a4_36 : decode cJ6_bitCount_0f7a4 36 = .ok (.bipush 8, 2) := by decide +kernel
theorem dJ6_bitCount_0f7a4_38 : decode cJ6_bitCount_0f7a4 38 = .ok (.iushr, 1) := by decide +kernel
theorem dJ6_bitCount_0f7a4_39 : decode cJ6_bitCount_0f7a4 39 = .ok (.iadd, 1) := by decide +kernel
theorem dJ6_bitCount_0f7a4_40 : decode cJ6_bitCount_0f7a4 40 = .ok (.istore_n 0, 1) := by decide +kernel
theorem dJ6_bitCount_0f7a4_41 : decode cJ6_bitCount_0f7a4 41 = .ok (.iload_n 0, 1) := by decide +kernel
theorem dJ6_bitCount_0f7a4_42 : decode cJ6_bitCount_0f7a4 42 = .ok (.iload_n 0, 1) := by decide +kernel
theorem dJ6_bitCount_0f7a4_43 : decode cJ6_bitCount_0f7a4 43 = .ok (.bipush 16, 2) := by decide +kernel
theorem dJ6_bitCount_0f7a4_45 : decode cJ6_bitCount_0f7a4 45 = .ok (.iushr, 1) := by decide +kernel
theorem dJ6_bitCount_0f7a4_46 : decode cJ6_bitCount_0f7a4 46 = .ok (.iadd, 1) := by decide +kernel
theorem dJ6_bitCount_0f7a4_47 : decode cJ6_bitCount_0f7a4 47 = .ok (.istore_n 0, 1) := by decide +kernel
theorem dJ6_bitCount_0f7a4_48 : decode cJ6_bitCount_0f7a4 48 = .ok (.iload_n 0, 1) := by decide +kernel
theorem dJ6_bitCount_0f7a4_49 : decode cJ6_bitCount_0f7a4 49 = .ok (.bipush 63, 2) := by decide +kernel
theorem dJ6_bitCount_0f7a4_51 : decode cJ6_bitCount_0f7a4 51 = .ok (.iand, 1) := by decide +kernel
theorem dJ6_bitCount_0f7a4_52 : decode cJ6_bitCount_0f7a4 52 = .ok (.ireturn, 1) := by decide +kernel
abbrev wd_J6_bitCount_0f7a4 (k : Nat → ClassId) : va_W := []
set_option maxHeartbeats 4000000 in
set_option maxRecDepth 100000 in
theorem c_J6_bitCount_0f7a4 (l : Launch) (D : va_G) (k : Nat → ClassId) (i : Int32) (R0 : Int32) (hm : m_J6_bitCount_0f7a4 i = some R0) : CR l D (TY k) yJ6_bitCount_0f7a4 cJ6_bitCount_0f7a4 1 (some .int) 0 0 [.int i] (wd_J6_bitCount_0f7a4 k ) (some (.int R0)) := by
  refine CR.mk (by decide) (Nat.le_of_ble_eq_true rfl) ?_
  intro p e s m args below meth c ls ⟨hx, hb, hr, hts, hown, hlocks, hml⟩ hP hG hl
  have hl : lv_has ls 1 [(0, .int i)] := hl
  unfold m_J6_bitCount_0f7a4 at hm
  refine lv_iload_n (pc := 0) hx hb dJ6_bitCount_0f7a4_0 rfl (lv_at hl 0 rfl) ?_
  refine lv_iload_n (pc := 1) hx hb dJ6_bitCount_0f7a4_1 rfl (lv_at hl 0 rfl) ?_
  refine lv_iconst (v := 1) (pc := 2) hx hb dJ6_bitCount_0f7a4_2 (by decide) ?_
  refine lv_iushr (pc := 3) hx hb dJ6_bitCount_0f7a4_3 rfl ?_
  refine lv_ldcw (pc := 4) (own := RJ6) hx hb hown (hts _ kw_904) dJ6_bitCount_0f7a4_4 ?_
  refine lv_iand (pc := 7) hx hb dJ6_bitCount_0f7a4_7 ?_
  refine lv_isub (pc := 8) hx hb dJ6_bitCount_0f7a4_8 ?_
  obtain ⟨z6, hv, hm⟩ := bd hm
  refine lv_topi (fun w ew => ?_)
  obtain rfl : z6 = w := (Option.some.inj hv).symm.trans ew.symm
  refine lv_istore_n (lv' := [(0, .int z6)]) (pc := 9) hx hb dJ6_bitCount_0f7a4_9 rfl hl (Nat.le_of_ble_eq_true rfl) rfl (fun ls hl => ?_)
  refine lv_iload_n (pc := 10) hx hb dJ6_bitCount_0f7a4_10 rfl (lv_at hl 0 rfl) ?_
  refine lv_ldcw (pc := 11) (own := RJ6) hx hb hown (hts _ kw_905) dJ6_bitCount_0f7a4_11 ?_
  refine lv_iand (pc := 14) hx hb dJ6_bitCount_0f7a4_14 ?_
  refine lv_iload_n (pc := 15) hx hb dJ6_bitCount_0f7a4_15 rfl (lv_at hl 0 rfl) ?_
  refine lv_iconst (v := 2) (pc := 16) hx hb dJ6_bitCount_0f7a4_16 (by decide) ?_
  refine lv_iushr (pc := 17) hx hb dJ6_bitCount_0f7a4_17 rfl ?_
  refine lv_ldcw (pc := 18) (own := RJ6) hx hb hown (hts _ kw_905) dJ6_bitCount_0f7a4_18 ?_
  refine lv_iand (pc := 21) hx hb dJ6_bitCount_0f7a4_21 ?_
  refine lv_iadd (pc := 22) hx hb dJ6_bitCount_0f7a4_22 ?_
  obtain ⟨z7, hv, hm⟩ := bd hm
  refine lv_topi (fun w ew => ?_)
  obtain rfl : z7 = w := (Option.some.inj hv).symm.trans ew.symm
  refine lv_istore_n (lv' := [(0, .int z7)]) (pc := 23) hx hb dJ6_bitCount_0f7a4_23 rfl hl (Nat.le_of_ble_eq_true rfl) rfl (fun ls hl => ?_)
  refine lv_iload_n (pc := 24) hx hb dJ6_bitCount_0f7a4_24 rfl (lv_at hl 0 rfl) ?_
  refine lv_iload_n (pc := 25) hx hb dJ6_bitCount_0f7a4_25 rfl (lv_at hl 0 rfl) ?_
  refine lv_iconst (v := 4) (pc := 26) hx hb dJ6_bitCount_0f7a4_26 (by decide) ?_
  refine lv_iushr (pc := 27) hx hb dJ6_bitCount_0f7a4_27 rfl ?_
  refine lv_iadd (pc := 28) hx hb dJ6_bitCount_0f7a4_28 ?_
  refine lv_ldcw (pc := 29) (own := RJ6) hx hb hown (hts _ kw_906) dJ6_bitCount_0f7a4_29 ?_
  refine lv_iand (pc := 32) hx hb dJ6_bitCount_0f7a4_32 ?_
  obtain ⟨z8, hv, hm⟩ := bd hm
  refine lv_topi (fun w ew => ?_)
  obtain rfl : z8 = w := (Option.some.inj hv).symm.trans ew.symm
  refine lv_istore_n (lv' := [(0, .int z8)]) (pc := 33) hx hb dJ6_bitCount_0f7a4_33 rfl hl (Nat.le_of_ble_eq_true rfl) rfl (fun ls hl => ?_)
  refine lv_iload_n (pc := 34) hx hb dJ6_bitCount_0f7a4_34 rfl (lv_at hl 0 rfl) ?_
  refine lv_iload_n (pc := 35) hx hb dJ6_bitCount_0f7a4_35 rfl (lv_at hl 0 rfl) ?_
  refine lv_bipush (v := 8) (pc := 36) hx hb dJ6_bitCount_0f7a4_36 (by decide) ?_
  refine lv_iushr (pc := 38) hx hb dJ6_bitCount_0f7a4_38 rfl ?_
  refine lv_iadd (pc := 39) hx hb dJ6_bitCount_0f7a4_39 ?_
  obtain ⟨z9, hv, hm⟩ := bd hm
  refine lv_topi (fun w ew => ?_)
  obtain rfl : z9 = w := (Option.some.inj hv).symm.trans ew.symm
  refine lv_istore_n (lv' := [(0, .int z9)]) (pc := 40) hx hb dJ6_bitCount_0f7a4_40 rfl hl (Nat.le_of_ble_eq_true rfl) rfl (fun ls hl => ?_)
  refine lv_iload_n (pc := 41) hx hb dJ6_bitCount_0f7a4_41 rfl (lv_at hl 0 rfl) ?_
  refine lv_iload_n (pc := 42) hx hb dJ6_bitCount_0f7a4_42 rfl (lv_at hl 0 rfl) ?_
  refine lv_bipush (v := 16) (pc := 43) hx hb dJ6_bitCount_0f7a4_43 (by decide) ?_
  refine lv_iushr (pc := 45) hx hb dJ6_bitCount_0f7a4_45 rfl ?_
  refine lv_iadd (pc := 46) hx hb dJ6_bitCount_0f7a4_46 ?_
  obtain ⟨z10, hv, hm⟩ := bd hm
  refine lv_topi (fun w ew => ?_)
  obtain rfl : z10 = w := (Option.some.inj hv).symm.trans ew.symm
  refine lv_istore_n (lv' := [(0, .int z10)]) (pc := 47) hx hb dJ6_bitCount_0f7a4_47 rfl hl (Nat.le_of_ble_eq_true rfl) rfl (fun ls hl => ?_)
  refine lv_iload_n (pc := 48) hx hb dJ6_bitCount_0f7a4_48 rfl (lv_at hl 0 rfl) ?_
  refine lv_bipush (v := 63) (pc := 49) hx hb dJ6_bitCount_0f7a4_49 (by decide) ?_
  refine lv_iand (pc := 51) hx hb dJ6_bitCount_0f7a4_51 ?_
  rw [← Option.some.inj hm]
  exact W.iret hx hb hr (fun t ht _ => ⟨rfl, ht⟩) (fun _ h => by cases h) dJ6_bitCount_0f7a4_52 hlocks
theorem dX6_clear_0 : decode cX6_clear 0 = .ok (.aload_n 0, 1) := by decide +kernel
theorem dX6_clear_1 : decode cX6_clear 1 = .ok (.getfield 9, 3) := by decide +kernel
theorem dX6_clear_4 : decode cX6_clear 4 = .ok (.iconst 0, 1) := by decide +kernel
theorem dX6_clear_5 : decode cX6_clear 5 = .ok (.invokestatic 18, 3) := by decide +kernel
theorem dX6_clear_8 : decode cX6_clear 8 = .ok (.aload_n 0, 1) := by decide +kernel
theorem dX6_clear_9 : decode cX6_clear 9 = .ok (.getfield 15, 3) := by decide +kernel
theorem dX6_clear_12 : decode cX6_clear 12 = .ok (.iconst 0, 1) := by decide +kernel
theorem dX6_clear_13 : decode cX6_clear 13 = .ok (.invokestatic 18, 3) := by decide +kernel
theorem dX6_clear_16 : decode cX6_clear 16 = .ok (.aload_n 0, 1) := by decide +kernel
theorem dX6_clear_17 : decode cX6_clear 17 = .ok (.iconst 0, 1) := by decide +kernel
theorem dX6_clear_18 : decode cX6_clear 18 = .ok (.putfield 24, 3) := by decide +kernel
theorem dX6_clear_21 : decode cX6_clear 21 = .ok (.return_, 1) := by decide +kernel
abbrev wd_X6_clear (k : Nat → ClassId) (this : Nat) (this_lacks : Nat) (this_lacks_f : Nat → Int32) (this_feels : Nat) (this_feels_f : Nat → Int32) (this_date : Int32) : va_W := [(this, .inr (5, [.ref this_lacks, .ref this_feels, .int this_date])), (this_lacks, .inl (k 0, 6, .inl this_lacks_f)), (this_feels, .inl (k 0, 6, .inl this_feels_f))]
set_option maxHeartbeats 4000000 in
set_option maxRecDepth 100000 in
theorem c_X6_clear (l : Launch) (D : va_G) (k : Nat → ClassId) (this : Nat) (this_lacks : Nat) (this_lacks_f : Nat → Int32) (this_feels : Nat) (this_feels_f : Nat → Int32) (this_date : Int32) (R0 : Int32 × (Nat → Int32) × (Nat → Int32)) (hm : m_X6_clear this_lacks_f this_feels_f = some R0) : CW l D (TY k) yX6_clear cX6_clear 1 none 1 23 [.ref this] (wd_X6_clear k this this_lacks this_lacks_f this_feels this_feels_f this_date) none (wd_X6_clear k this this_lacks R0.2.1 this_feels R0.2.2 R0.1) := by
  refine CW.mk (by decide) (Nat.le_of_ble_eq_true rfl) ?_
  intro p e s m args below meth c ls A ⟨hx, hb, hr, hts, hown, hlocks, hml⟩ hP hG hD hA hl hS hq
  have hl : lv_has ls 1 [(0, .ref this)] := hl
  unfold m_X6_clear at hm
  suffices hgo : ∀ (H : Heap) (locs : List Loc), va_P D vwCl (wd_X6_clear k this this_lacks this_lacks_f this_feels this_feels_f this_date) H → va_D A (wd_X6_clear k this this_lacks this_lacks_f this_feels this_feels_f this_date) → va_S A s.heap H locs → W p l e (Rm 1 23) s m args below meth c H locs 0 0 (MQ below (QW D none (wd_X6_clear k this this_lacks this_lacks_f this_feels this_feels_f this_date) (wd_X6_clear k this this_lacks R0.2.1 this_feels R0.2.2 R0.1) s.heap.size) args s 0 0 A) (F0 m 0 ls []) from hgo _ _ hP hD hS
  clear hP hD hS
  intro H locs hP hD hS
  refine lv_aload_n (pc := 0) hx hb dX6_clear_0 rfl (lv_at hl 0 rfl) ?_
  refine va_get (pc := 1) (D := D) (ci := 5) (C := RX6) (T := TX6) (N := 3) hx hb hts hiX6 hown hG.1 hP 0 rfl rfl 0 (Nat.le_of_ble_eq_true rfl) (hts _ kw_94) (fun _ h9 => h9) rfl dX6_clear_1 ?_
  refine lv_iconst (v := 0) (pc := 4) hx hb dX6_clear_4 (by decide) ?_
  obtain ⟨r3, hcl, hm⟩ := bd hm
  refine cw_mask (ws' := (wd_X6_clear k this this_lacks r3 this_feels this_feels_f this_date)) (run_S (pc := 5) (n := 2) (As := [.ref this_lacks, .int 0]) (rest := []) ⟨hx, hb, hml, hown, hts⟩ ((c_J7_fill_53178 l D k this_lacks 6 this_lacks_f 0 r3 hcl) H.size) ⟨kw_288, kw_13, by decide +kernel⟩ kw_286 kw_287 ⟨Nat.le_of_ble_eq_true rfl, Nat.le_of_ble_eq_true rfl⟩ pw_blind (prW (P_pick [false, true] rfl hP) hG (D_pick [false, true] rfl hD)) rfl hl.1 rfl (Nat.le_of_ble_eq_true rfl) dX6_clear_5 ⟨Nat.zero_le _, Nat.zero_le _⟩) hP hD hS hA [false, true] rfl rfl rfl (fun H locs hP hD hS => ?_)
  refine lv_aload_n (pc := 8) hx hb dX6_clear_8 rfl (lv_at hl 0 rfl) ?_
  refine va_get (pc := 9) (D := D) (ci := 5) (C := RX6) (T := TX6) (N := 3) hx hb hts hiX6 hown hG.1 hP 0 rfl rfl 1 (Nat.le_of_ble_eq_true rfl) (hts _ kw_97) (fun _ h9 => h9) rfl dX6_clear_9 ?_
  refine lv_iconst (v := 0) (pc := 12) hx hb dX6_clear_12 (by decide) ?_
  obtain ⟨r4, hcl, hm⟩ := bd hm
  refine cw_mask (ws' := (wd_X6_clear k this this_lacks r3 this_feels r4 this_date)) (run_S (pc := 13) (n := 2) (As := [.ref this_feels, .int 0]) (rest := []) ⟨hx, hb, hml, hown, hts⟩ ((c_J7_fill_53178 l D k this_feels 6 this_feels_f 0 r4 hcl) H.size) ⟨kw_288, kw_13, by decide +kernel⟩ kw_286 kw_287 ⟨Nat.le_of_ble_eq_true rfl, Nat.le_of_ble_eq_true rfl⟩ pw_blind (prW (P_pick [false, false, true] rfl hP) hG (D_pick [false, false, true] rfl hD)) rfl hl.1 rfl (Nat.le_of_ble_eq_true rfl) dX6_clear_13 ⟨Nat.zero_le _, Nat.zero_le _⟩) hP hD hS hA [false, false, true] rfl rfl rfl (fun H locs hP hD hS => ?_)
  refine lv_aload_n (pc := 16) hx hb dX6_clear_16 rfl (lv_at hl 0 rfl) ?_
  refine lv_iconst (v := 0) (pc := 17) hx hb dX6_clear_17 (by decide) ?_
  refine va_put (pc := 18) (D := D) (ci := 5) (v := .int 0) (ty := .int) (C := RX6) (T := TX6) (N := 3) hx hb hts hiX6 tyX6 tyX6_ok nmX6 hown hG.1 hP hD hS 0 rfl rfl 2 (Nat.le_of_ble_eq_true rfl) (hts _ kw_99) (fun _ h9 => h9) rfl (by decide +kernel) rfl rfl (Nat.le_of_ble_eq_true rfl) dX6_clear_18 (fun H locs hP hD hS => ?_)
  have hP : va_P D vwCl (wd_X6_clear k this this_lacks r3 this_feels r4 0) H := hP
  have hD : va_D A (wd_X6_clear k this this_lacks r3 this_feels r4 0) := hD
  rw [← Option.some.inj hm]
  exact W.vret hx hb hr (fun t ht _ => hq _ _ H t ht hP hD locs hS) hS.2.2 dX6_clear_21 hlocks
theorem dX6_copy_0 : decode cX6_copy 0 = .ok (.aload_n 1, 1) := by decide +kernel
theorem dX6_copy_1 : decode cX6_copy 1 = .ok (.getfield 9, 3) := by decide +kernel
theorem dX6_copy_4 : decode cX6_copy 4 = .ok (.iconst 0, 1) := by decide +kernel
theorem dX6_copy_5 : decode cX6_copy 5 = .ok (.aload_n 0, 1) := by decide +kernel
theorem dX6_copy_6 : decode cX6_copy 6 = .ok (.getfield 9, 3) := by decide +kernel
theorem dX6_copy_9 : decode cX6_copy 9 = .ok (.iconst 0, 1) := by decide +kernel
theorem dX6_copy_10 : decode cX6_copy 10 = .ok (.bipush 6, 2) := by decide +kernel
theorem dX6_copy_12 : decode cX6_copy 12 = .ok (.invokestatic 28, 3) := by decide +kernel
theorem dX6_copy_15 : decode cX6_copy 15 = .ok (.aload_n 1, 1) := by decide +kernel
theorem dX6_copy_16 : decode cX6_copy 16 = .ok (.getfield 15, 3) := by decide +kernel
theorem dX6_copy_19 : decode cX6_copy 19 = .ok (.iconst 0, 1) := by decide +kernel
theorem dX6_copy_20 : decode cX6_copy 20 = .ok (.aload_n 0, 1) := by decide +kernel
theorem dX6_copy_21 : decode cX6_copy 21 = .ok (.getfield 15, 3) := by decide +kernel
theorem dX6_copy_24 : decode cX6_copy 24 = .ok (.iconst 0, 1) := by decide +kernel
theorem dX6_copy_25 : decode cX6_copy 25 = .ok (.bipush 6, 2) := by decide +kernel
theorem dX6_copy_27 : decode cX6_copy 27 = .ok (.invokestatic 28, 3) := by decide +kernel
theorem dX6_copy_30 : decode cX6_copy 30 = .ok (.aload_n 0, 1) := by decide +kernel
theorem dX6_copy_31 : decode cX6_copy 31 = .ok (.aload_n 1, 1) := by decide +kernel
theorem dX6_copy_32 : decode cX6_copy 32 = .ok (.getfield 24, 3) := by decide +kernel
theorem dX6_copy_35 : decode cX6_copy 35 = .ok (.putfield 24, 3) := by decide +kernel
theorem dX6_copy_38 : decode cX6_copy 38 = .ok (.return_, 1) := by decide +kernel
abbrev wd_X6_copy (k : Nat → ClassId) (this : Nat) (this_lacks : Nat) (this_lacks_f : Nat → Int32) (this_feels : Nat) (this_feels_f : Nat → Int32) (this_date : Int32) (other : Nat) (other_lacks : Nat) (other_lacks_f : Nat → Int32) (other_feels : Nat) (other_feels_f : Nat → Int32) (other_date : Int32) : va_W := [(this, .inr (5, [.ref this_lacks, .ref this_feels, .int this_date])), (this_lacks, .inl (k 0, 6, .inl this_lacks_f)), (this_feels, .inl (k 0, 6, .inl this_feels_f)), (other, .inr (5, [.ref other_lacks, .ref other_feels, .int other_date])), (other_lacks, .inl (k 0, 6, .inl other_lacks_f)), (other_feels, .inl (k 0, 6, .inl other_feels_f))]
set_option maxHeartbeats 4000000 in
set_option maxRecDepth 100000 in
theorem c_X6_copy (l : Launch) (D : va_G) (k : Nat → ClassId) (this : Nat) (this_lacks : Nat) (this_lacks_f : Nat → Int32) (this_feels : Nat) (this_feels_f : Nat → Int32) (this_date : Int32) (other : Nat) (other_lacks : Nat) (other_lacks_f : Nat → Int32) (other_feels : Nat) (other_feels_f : Nat → Int32) (other_date : Int32) (R0 : Int32 × (Nat → Int32) × (Nat → Int32)) (hm : m_X6_copy this_lacks_f this_feels_f other_lacks_f other_feels_f other_date = some R0) : CW l D (TY k) yX6_copy cX6_copy 2 none 1 60 [.ref this, .ref other] (wd_X6_copy k this this_lacks this_lacks_f this_feels this_feels_f this_date other other_lacks other_lacks_f other_feels other_feels_f other_date) none (wd_X6_copy k this this_lacks R0.2.1 this_feels R0.2.2 R0.1 other other_lacks other_lacks_f other_feels other_feels_f other_date) := by
  refine CW.mk (by decide) (Nat.le_of_ble_eq_true rfl) ?_
  intro p e s m args below meth c ls A ⟨hx, hb, hr, hts, hown, hlocks, hml⟩ hP hG hD hA hl hS hq
  have hl : lv_has ls 2 [(0, .ref this), (1, .ref other)] := hl
  unfold m_X6_copy at hm
  suffices hgo : ∀ (H : Heap) (locs : List Loc), va_P D vwCl (wd_X6_copy k this this_lacks this_lacks_f this_feels this_feels_f this_date other other_lacks other_lacks_f other_feels other_feels_f other_date) H → va_D A (wd_X6_copy k this this_lacks this_lacks_f this_feels this_feels_f this_date other other_lacks other_lacks_f other_feels other_feels_f other_date) → va_S A s.heap H locs → W p l e (Rm 1 60) s m args below meth c H locs 0 0 (MQ below (QW D none (wd_X6_copy k this this_lacks this_lacks_f this_feels this_feels_f this_date other other_lacks other_lacks_f other_feels other_feels_f other_date) (wd_X6_copy k this this_lacks R0.2.1 this_feels R0.2.2 R0.1 other other_lacks other_lacks_f other_feels other_feels_f other_date) s.heap.size) args s 0 0 A) (F0 m 0 ls []) from hgo _ _ hP hD hS
  clear hP hD hS
  intro H locs hP hD hS
  refine lv_aload_n (pc := 0) hx hb dX6_copy_0 rfl (lv_at hl 1 rfl) ?_
  refine va_get (pc := 1) (D := D) (ci := 5) (C := RX6) (T := TX6) (N := 3) hx hb hts hiX6 hown hG.1 hP 3 rfl rfl 0 (Nat.le_of_ble_eq_true rfl) (hts _ kw_94) (fun _ h9 => h9) rfl dX6_copy_1 ?_
  refine lv_iconst (v := 0) (pc := 4) hx hb dX6_copy_4 (by decide) ?_
  refine lv_aload_n (pc := 5) hx hb dX6_copy_5 rfl (lv_at hl 0 rfl) ?_
  refine va_get (pc := 6) (D := D) (ci := 5) (C := RX6) (T := TX6) (N := 3) hx hb hts hiX6 hown hG.1 hP 0 rfl rfl 0 (Nat.le_of_ble_eq_true rfl) (hts _ kw_94) (fun _ h9 => h9) rfl dX6_copy_6 ?_
  refine lv_iconst (v := 0) (pc := 9) hx hb dX6_copy_9 (by decide) ?_
  refine lv_bipush (v := 6) (pc := 10) hx hb dX6_copy_10 (by decide) ?_
  refine va_copyi (pc := 12) (D := D) (ty := .int) hx hb (hml.trans hl.1.symm) (own := RX6) hown (hts _ kw_316) (hts _ kw_318) (hts _ kw_317) (hts _ kw_14) hG.1 hP hD hS 4 1 0 0 rfl rfl rfl rfl rfl (by decide) (by decide) (by decide) (by decide) (by decide) (fun _ _ => rfl) (Nat.le_of_ble_eq_true rfl) (by decide) dX6_copy_12 (fun H locs hP hD hS => ?_)
  have hP : va_P D vwCl (wd_X6_copy k this this_lacks (va_cpy other_lacks_f this_lacks_f 0 0 6) this_feels this_feels_f this_date other other_lacks other_lacks_f other_feels other_feels_f other_date) H := hP
  have hD : va_D A (wd_X6_copy k this this_lacks (va_cpy other_lacks_f this_lacks_f 0 0 6) this_feels this_feels_f this_date other other_lacks other_lacks_f other_feels other_feels_f other_date) := hD
  refine lv_aload_n (pc := 15) hx hb dX6_copy_15 rfl (lv_at hl 1 rfl) ?_
  refine va_get (pc := 16) (D := D) (ci := 5) (C := RX6) (T := TX6) (N := 3) hx hb hts hiX6 hown hG.1 hP 3 rfl rfl 1 (Nat.le_of_ble_eq_true rfl) (hts _ kw_97) (fun _ h9 => h9) rfl dX6_copy_16 ?_
  refine lv_iconst (v := 0) (pc := 19) hx hb dX6_copy_19 (by decide) ?_
  refine lv_aload_n (pc := 20) hx hb dX6_copy_20 rfl (lv_at hl 0 rfl) ?_
  refine va_get (pc := 21) (D := D) (ci := 5) (C := RX6) (T := TX6) (N := 3) hx hb hts hiX6 hown hG.1 hP 0 rfl rfl 1 (Nat.le_of_ble_eq_true rfl) (hts _ kw_97) (fun _ h9 => h9) rfl dX6_copy_21 ?_
  refine lv_iconst (v := 0) (pc := 24) hx hb dX6_copy_24 (by decide) ?_
  refine lv_bipush (v := 6) (pc := 25) hx hb dX6_copy_25 (by decide) ?_
  refine va_copyi (pc := 27) (D := D) (ty := .int) hx hb (hml.trans hl.1.symm) (own := RX6) hown (hts _ kw_316) (hts _ kw_318) (hts _ kw_317) (hts _ kw_14) hG.1 hP hD hS 5 2 0 0 rfl rfl rfl rfl rfl (by decide) (by decide) (by decide) (by decide) (by decide) (fun _ _ => rfl) (Nat.le_of_ble_eq_true rfl) (by decide) dX6_copy_27 (fun H locs hP hD hS => ?_)
  have hP : va_P D vwCl (wd_X6_copy k this this_lacks (va_cpy other_lacks_f this_lacks_f 0 0 6) this_feels (va_cpy other_feels_f this_feels_f 0 0 6) this_date other other_lacks other_lacks_f other_feels other_feels_f other_date) H := hP
  have hD : va_D A (wd_X6_copy k this this_lacks (va_cpy other_lacks_f this_lacks_f 0 0 6) this_feels (va_cpy other_feels_f this_feels_f 0 0 6) this_date other other_lacks other_lacks_f other_feels other_feels_f other_date) := hD
  refine lv_aload_n (pc := 30) hx hb dX6_copy_30 rfl (lv_at hl 0 rfl) ?_
  refine lv_aload_n (pc := 31) hx hb dX6_copy_31 rfl (lv_at hl 1 rfl) ?_
  refine va_get (pc := 32) (D := D) (ci := 5) (C := RX6) (T := TX6) (N := 3) hx hb hts hiX6 hown hG.1 hP 3 rfl rfl 2 (Nat.le_of_ble_eq_true rfl) (hts _ kw_99) (fun _ h9 => h9) rfl dX6_copy_32 ?_
  refine va_put (pc := 35) (D := D) (ci := 5) (v := .int other_date) (ty := .int) (C := RX6) (T := TX6) (N := 3) hx hb hts hiX6 tyX6 tyX6_ok nmX6 hown hG.1 hP hD hS 0 rfl rfl 2 (Nat.le_of_ble_eq_true rfl) (hts _ kw_99) (fun _ h9 => h9) rfl (by decide +kernel) rfl rfl (Nat.le_of_ble_eq_true rfl) dX6_copy_35 (fun H locs hP hD hS => ?_)
  have hP : va_P D vwCl (wd_X6_copy k this this_lacks (va_cpy other_lacks_f this_lacks_f 0 0 6) this_feels (va_cpy other_feels_f this_feels_f 0 0 6) other_date other other_lacks other_lacks_f other_feels other_feels_f other_date) H := hP
  have hD : va_D A (wd_X6_copy k this this_lacks (va_cpy other_lacks_f this_lacks_f 0 0 6) this_feels (va_cpy other_feels_f this_feels_f 0 0 6) other_date other other_lacks other_lacks_f other_feels other_feels_f other_date) := hD
  rw [← Option.some.inj hm]
  exact W.vret hx hb hr (fun t ht _ => hq _ _ H t ht hP hD locs hS) hS.2.2 dX6_copy_38 hlocks
