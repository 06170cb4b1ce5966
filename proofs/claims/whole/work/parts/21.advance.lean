theorem dJ0_isLatin1_aae02_0 : decode cJ0_isLatin1_aae02 0 = .ok (.getstatic 38, 3) := by decide +kernel
theorem dJ0_isLatin1_aae02_3 : decode cJ0_isLatin1_aae02 3 = .ok (.ifCond .eq 14, 3) := by decide +kernel
theorem dJ0_isLatin1_aae02_6 : decode cJ0_isLatin1_aae02 6 = .ok (.aload_n 0, 1) := by decide +kernel
theorem dJ0_isLatin1_aae02_7 : decode cJ0_isLatin1_aae02 7 = .ok (.getfield 15, 3) := by decide +kernel
theorem dJ0_isLatin1_aae02_10 : decode cJ0_isLatin1_aae02 10 = .ok (.ifCond .ne 7, 3) := by decide +kernel
theorem dJ0_isLatin1_aae02_13 : decode cJ0_isLatin1_aae02 13 = .ok (.iconst 1, 1) := by decide +kernel
theorem dJ0_isLatin1_aae02_14 : decode cJ0_isLatin1_aae02 14 = .ok (.goto 4, 3) := by decide +kernel
theorem dJ0_isLatin1_aae02_17 : decode cJ0_isLatin1_aae02 17 = .ok (.iconst 0, 1) := by decide +kernel
theorem dJ0_isLatin1_aae02_18 : decode cJ0_isLatin1_aae02 18 = .ok (.ireturn, 1) := by decide +kernel
abbrev wd_J0_isLatin1_aae02 (k : Nat → ClassId) (w : Nat → Nat) : va_W := []
set_option maxHeartbeats 4000000 in
set_option maxRecDepth 100000 in
theorem c_J0_isLatin1_aae02 (l : Launch) (D : va_G) (k : Nat → ClassId) (w : Nat → Nat) (R0 : Int32) (hm : m_J0_isLatin1_aae02 = some R0) : CRe w l D (TY k) yJ0_isLatin1_aae02 cJ0_isLatin1_aae02 1 (some .boolean) 0 0 [.ref (w 29)] (wd_J0_isLatin1_aae02 k w ) (some (.int R0)) := by
  refine CRe.mk (by decide) (Nat.le_of_ble_eq_true rfl) ?_
  intro p e s m args below meth c ls ⟨hx, hb, hr, hts, hown, hlocks, hml⟩ hP hG hE hl
  have hS : va_S (fun _ => False) s.heap s.heap [] := va_S.rf
  have hl : lv_has ls 1 [(0, .ref (w 29))] := hl
  unfold m_J0_isLatin1_aae02 at hm
  refine en_compact (pc := 0) (own := RJ0) hx hb hE hS hown (hts _ kw_450) dJ0_isLatin1_aae02_0 ?_
  refine lv_if_eq (tgt := 17) (pc := 3) hx hb dJ0_isLatin1_aae02_3 (by decide) (fun hc => absurd hc (by decide)) (fun hc => ?_)
  refine lv_aload_n (pc := 6) hx hb dJ0_isLatin1_aae02_6 rfl (lv_at hl 0 rfl) ?_
  refine en_coder (pc := 7) (own := RJ0) hx hb hE hS hown (hts _ kw_1770) dJ0_isLatin1_aae02_7 ?_
  refine lv_if_ne (tgt := 17) (pc := 10) hx hb dJ0_isLatin1_aae02_10 (by decide) (fun hc => absurd hc (by decide)) (fun hc => ?_)
  refine lv_iconst (v := 1) (pc := 13) hx hb dJ0_isLatin1_aae02_13 (by decide) ?_
  refine lv_goto (tgt := 18) (pc := 14) hx hb dJ0_isLatin1_aae02_14 (by decide) ?_
  rw [← Option.some.inj hm]
  exact W.zret hx hb hr (nar_bool (Or.inr rfl)) (fun t ht _ => ⟨rfl, ht⟩) (fun _ h => by cases h) dJ0_isLatin1_aae02_18 hlocks
theorem t_J0_isLatin1_aae02 (l : Launch) (D : va_G) (k : Nat → ClassId) (w : Nat → Nat) : CRe w l D (TY k) yJ0_isLatin1_aae02 cJ0_isLatin1_aae02 1 (some .boolean) 0 0 [.ref (w 29)] (wd_J0_isLatin1_aae02 k w) (some (.int 1)) := c_J0_isLatin1_aae02 l D k w 1 rfl
theorem dJ0_coder_7d493_0 : decode cJ0_coder_7d493 0 = .ok (.getstatic 38, 3) := by decide +kernel
theorem dJ0_coder_7d493_3 : decode cJ0_coder_7d493 3 = .ok (.ifCond .eq 10, 3) := by decide +kernel
theorem dJ0_coder_7d493_6 : decode cJ0_coder_7d493 6 = .ok (.aload_n 0, 1) := by decide +kernel
theorem dJ0_coder_7d493_7 : decode cJ0_coder_7d493 7 = .ok (.getfield 15, 3) := by decide +kernel
theorem dJ0_coder_7d493_10 : decode cJ0_coder_7d493 10 = .ok (.goto 4, 3) := by decide +kernel
theorem dJ0_coder_7d493_13 : decode cJ0_coder_7d493 13 = .ok (.iconst 1, 1) := by decide +kernel
theorem dJ0_coder_7d493_14 : decode cJ0_coder_7d493 14 = .ok (.ireturn, 1) := by decide +kernel
abbrev wd_J0_coder_7d493 (k : Nat → ClassId) (w : Nat → Nat) : va_W := []
set_option maxHeartbeats 4000000 in
set_option maxRecDepth 100000 in
theorem c_J0_coder_7d493 (l : Launch) (D : va_G) (k : Nat → ClassId) (w : Nat → Nat) (R0 : Int32) (hm : m_J0_coder_7d493 = some R0) : CRe w l D (TY k) yJ0_coder_7d493 cJ0_coder_7d493 1 (some .byte) 0 0 [.ref (w 29)] (wd_J0_coder_7d493 k w ) (some (.int R0)) := by
  refine CRe.mk (by decide) (Nat.le_of_ble_eq_true rfl) ?_
  intro p e s m args below meth c ls ⟨hx, hb, hr, hts, hown, hlocks, hml⟩ hP hG hE hl
  have hS : va_S (fun _ => False) s.heap s.heap [] := va_S.rf
  have hl : lv_has ls 1 [(0, .ref (w 29))] := hl
  unfold m_J0_coder_7d493 at hm
  refine en_compact (pc := 0) (own := RJ0) hx hb hE hS hown (hts _ kw_450) dJ0_coder_7d493_0 ?_
  refine lv_if_eq (tgt := 13) (pc := 3) hx hb dJ0_coder_7d493_3 (by decide) (fun hc => absurd hc (by decide)) (fun hc => ?_)
  refine lv_aload_n (pc := 6) hx hb dJ0_coder_7d493_6 rfl (lv_at hl 0 rfl) ?_
  refine en_coder (pc := 7) (own := RJ0) hx hb hE hS hown (hts _ kw_1770) dJ0_coder_7d493_7 ?_
  refine lv_goto (tgt := 14) (pc := 10) hx hb dJ0_coder_7d493_10 (by decide) ?_
  rw [← Option.some.inj hm]
  exact W.zret hx hb hr rfl (fun t ht _ => ⟨rfl, ht⟩) (fun _ h => by cases h) dJ0_coder_7d493_14 hlocks
theorem t_J0_coder_7d493 (l : Launch) (D : va_G) (k : Nat → ClassId) (w : Nat → Nat) : CRe w l D (TY k) yJ0_coder_7d493 cJ0_coder_7d493 1 (some .byte) 0 0 [.ref (w 29)] (wd_J0_coder_7d493 k w) (some (.int 0)) := c_J0_coder_7d493 l D k w 0 rfl
theorem dJ0_length_8abf5_0 : decode cJ0_length_8abf5 0 = .ok (.aload_n 0, 1) := by decide +kernel
theorem dJ0_length_8abf5_1 : decode cJ0_length_8abf5 1 = .ok (.getfield 9, 3) := by decide +kernel
theorem dJ0_length_8abf5_4 : decode cJ0_length_8abf5 4 = .ok (.arraylength, 1) := by decide +kernel
theorem dJ0_length_8abf5_5 : decode cJ0_length_8abf5 5 = .ok (.aload_n 0, 1) := by decide +kernel
theorem dJ0_length_8abf5_6 : decode cJ0_length_8abf5 6 = .ok (.invokevirtual 335, 3) := by decide +kernel
theorem dJ0_length_8abf5_9 : decode cJ0_length_8abf5 9 = .ok (.ishr, 1) := by decide +kernel
theorem dJ0_length_8abf5_10 : decode cJ0_length_8abf5 10 = .ok (.ireturn, 1) := by decide +kernel
abbrev wd_J0_length_8abf5 (k : Nat → ClassId) (w : Nat → Nat) : va_W := []
set_option maxHeartbeats 4000000 in
set_option maxRecDepth 100000 in
theorem c_J0_length_8abf5 (l : Launch) (D : va_G) (k : Nat → ClassId) (w : Nat → Nat) (R0 : Int32) (hm : m_J0_length_8abf5 = some R0) : CRe w l D (TY k) yJ0_length_8abf5 cJ0_length_8abf5 1 (some .int) 1 20 [.ref (w 29)] (wd_J0_length_8abf5 k w ) (some (.int R0)) := by
  refine CRe.mk (by decide) (Nat.le_of_ble_eq_true rfl) ?_
  intro p e s m args below meth c ls ⟨hx, hb, hr, hts, hown, hlocks, hml⟩ hP hG hE hl
  have hS : va_S (fun _ => False) s.heap s.heap [] := va_S.rf
  have hl : lv_has ls 1 [(0, .ref (w 29))] := hl
  unfold m_J0_length_8abf5 at hm
  refine lv_aload_n (pc := 0) hx hb dJ0_length_8abf5_0 rfl (lv_at hl 0 rfl) ?_
  refine en_value (pc := 1) (own := RJ0) hx hb hE hS hown (hts _ kw_1771) dJ0_length_8abf5_1 ?_
  refine en_blen (pc := 4) hx hb hE hS dJ0_length_8abf5_4 ?_
  refine lv_aload_n (pc := 5) hx hb dJ0_length_8abf5_5 rfl (lv_at hl 0 rfl) ?_
  refine cr_back (run_V (pc := 6) (n := 0) (As := []) (rest := [.int 8]) ⟨hx, hb, hml, hown, hts⟩ (t_J0_coder_7d493 l D k w) ⟨kw_459, kw_17, by decide +kernel⟩ kw_456 kw_457 kw_458 ⟨Nat.le_of_ble_eq_true rfl, Nat.le_of_ble_eq_true rfl⟩ pre_blind (prRe hE hS (hP.sub [] rfl) hG) (en_srec hE hS) rfl hl.1 rfl (Nat.le_of_ble_eq_true rfl) dJ0_length_8abf5_6 ⟨Nat.zero_le _, Nat.zero_le _⟩) ?_
  refine lv_ishr (pc := 9) hx hb dJ0_length_8abf5_9 ?_
  rw [← Option.some.inj hm]
  exact W.iret hx hb hr (fun t ht _ => ⟨rfl, ht⟩) (fun _ h => by cases h) dJ0_length_8abf5_10 hlocks
theorem dJ1_canEncode_9a6ad_0 : decode cJ1_canEncode_9a6ad 0 = .ok (.iload_n 0, 1) := by decide +kernel
theorem dJ1_canEncode_9a6ad_1 : decode cJ1_canEncode_9a6ad 1 = .ok (.ifCond .lt 14, 3) := by decide +kernel
theorem dJ1_canEncode_9a6ad_4 : decode cJ1_canEncode_9a6ad 4 = .ok (.iload_n 0, 1) := by decide +kernel
theorem dJ1_canEncode_9a6ad_5 : decode cJ1_canEncode_9a6ad 5 = .ok (.sipush 255, 3) := by decide +kernel
theorem dJ1_canEncode_9a6ad_8 : decode cJ1_canEncode_9a6ad 8 = .ok (.if_icmp .gt 7, 3) := by decide +kernel
theorem dJ1_canEncode_9a6ad_11 : decode cJ1_canEncode_9a6ad 11 = .ok (.iconst 1, 1) := by decide +kernel
theorem dJ1_canEncode_9a6ad_12 : decode cJ1_canEncode_9a6ad 12 = .ok (.goto 4, 3) := by decide +kernel
theorem dJ1_canEncode_9a6ad_15 : decode cJ1_canEncode_9a6ad 15 = .ok (.iconst 0, 1) := by decide +kernel
theorem dJ1_canEncode_9a6ad_16 : decode cJ1_canEncode_9a6ad 16 = .ok (.ireturn, 1) := by decide +kernel
abbrev wd_J1_canEncode_9a6ad (k : Nat → ClassId) (w : Nat → Nat) : va_W := []
set_option maxHeartbeats 4000000 in
set_option maxRecDepth 100000 in
theorem c_J1_canEncode_9a6ad (l : Launch) (D : va_G) (k : Nat → ClassId) (w : Nat → Nat) (cp : Int32) (R0 : Int32) (hm : m_J1_canEncode_9a6ad cp = some R0) : CRe w l D (TY k) yJ1_canEncode_9a6ad cJ1_canEncode_9a6ad 1 (some .boolean) 0 0 [.int cp] (wd_J1_canEncode_9a6ad k w ) (some (.int R0)) := by
  refine CRe.mk (by decide) (Nat.le_of_ble_eq_true rfl) ?_
  intro p e s m args below meth c ls ⟨hx, hb, hr, hts, hown, hlocks, hml⟩ hP hG hE hl
  have hS : va_S (fun _ => False) s.heap s.heap [] := va_S.rf
  have hl : lv_has ls 1 [(0, .int cp)] := hl
  unfold m_J1_canEncode_9a6ad at hm
  refine lv_iload_n (pc := 0) hx hb dJ1_canEncode_9a6ad_0 rfl (lv_at hl 0 rfl) ?_
  refine lv_if_lt (tgt := 15) (pc := 1) hx hb dJ1_canEncode_9a6ad_1 (by decide) (fun hc => ?_) (fun hc => ?_)
  · rw [if_pos hc] at hm
    refine lv_iconst (v := 0) (pc := 15) hx hb dJ1_canEncode_9a6ad_15 (by decide) ?_
    rw [← Option.some.inj hm]
    exact W.zret hx hb hr (nar_bool (Or.inl rfl)) (fun t ht _ => ⟨rfl, ht⟩) (fun _ h => by cases h) dJ1_canEncode_9a6ad_16 hlocks
  · rw [if_neg hc] at hm
    refine lv_iload_n (pc := 4) hx hb dJ1_canEncode_9a6ad_4 rfl (lv_at hl 0 rfl) ?_
    refine lv_sipush (v := 255) (pc := 5) hx hb dJ1_canEncode_9a6ad_5 (by decide) ?_
    refine lv_icmp_gt (tgt := 15) (pc := 8) hx hb dJ1_canEncode_9a6ad_8 (by decide) (fun hc => ?_) (fun hc => ?_)
    · rw [if_pos hc] at hm
      refine lv_iconst (v := 0) (pc := 15) hx hb dJ1_canEncode_9a6ad_15 (by decide) ?_
      rw [← Option.some.inj hm]
      exact W.zret hx hb hr (nar_bool (Or.inl rfl)) (fun t ht _ => ⟨rfl, ht⟩) (fun _ h => by cases h) dJ1_canEncode_9a6ad_16 hlocks
    · rw [if_neg hc] at hm
      refine lv_iconst (v := 1) (pc := 11) hx hb dJ1_canEncode_9a6ad_11 (by decide) ?_
      refine lv_goto (tgt := 16) (pc := 12) hx hb dJ1_canEncode_9a6ad_12 (by decide) ?_
      rw [← Option.some.inj hm]
      exact W.zret hx hb hr (nar_bool (Or.inr rfl)) (fun t ht _ => ⟨rfl, ht⟩) (fun _ h => by cases h) dJ1_canEncode_9a6ad_16 hlocks
theorem dJ1_indexOfChar_4cfef_0 : decode cJ1_indexOfChar_4cfef 0 = .ok (.iload_n 1, 1) := by decide +kernel
theorem dJ1_indexOfChar_4cfef_1 : decode cJ1_indexOfChar_4cfef 1 = .ok (.i2b, 1) := by decide +kernel
theorem dJ1_indexOfChar_4cfef_2 : decode cJ1_indexOfChar_4cfef 2 = .ok (.istore 4, 2) := by decide +kernel
theorem dJ1_indexOfChar_4cfef_4 : decode cJ1_indexOfChar_4cfef 4 = .ok (.iload_n 2, 1) := by decide +kernel
theorem dJ1_indexOfChar_4cfef_5 : decode cJ1_indexOfChar_4cfef 5 = .ok (.istore 5, 2) := by decide +kernel
theorem dJ1_indexOfChar_4cfef_7 : decode cJ1_indexOfChar_4cfef 7 = .ok (.iload 5, 2) := by decide +kernel
theorem dJ1_indexOfChar_4cfef_9 : decode cJ1_indexOfChar_4cfef 9 = .ok (.iload_n 3, 1) := by decide +kernel
theorem dJ1_indexOfChar_4cfef_10 : decode cJ1_indexOfChar_4cfef 10 = .ok (.if_icmp .ge 21, 3) := by decide +kernel
theorem dJ1_indexOfChar_4cfef_13 : decode cJ1_indexOfChar_4cfef 13 = .ok (.aload_n 0, 1) := by decide +kernel
theorem dJ1_indexOfChar_4cfef_14 : decode cJ1_indexOfChar_4cfef 14 = .ok (.iload 5, 2) := by decide +kernel
theorem dJ1_indexOfChar_4cfef_16 : decode cJ1_indexOfChar_4cfef 16 = .ok (.baload, 1) := by decide +kernel
theorem dJ1_indexOfChar_4cfef_17 : decode cJ1_indexOfChar_4cfef 17 = .ok (.iload 4, 2) := by decide +kernel
theorem dJ1_indexOfChar_4cfef_19 : decode cJ1_indexOfChar_4cfef 19 = .ok (.if_icmp .ne 6, 3) := by decide +kernel
theorem dJ1_indexOfChar_4cfef_22 : decode cJ1_indexOfChar_4cfef 22 = .ok (.iload 5, 2) := by decide +kernel
theorem dJ1_indexOfChar_4cfef_24 : decode cJ1_indexOfChar_4cfef 24 = .ok (.ireturn, 1) := by decide +kernel
theorem dJ1_indexOfChar_4cfef_25 : decode cJ1_indexOfChar_4cfef 25 = .ok (.iinc 5 1, 3) := by decide +kernel
theorem dJ1_indexOfChar_4cfef_28 : decode cJ1_indexOfChar_4cfef 28 = .ok (.goto (-21), 3) := by decide +kernel
theorem dJ1_indexOfChar_4cfef_31 : decode cJ1_indexOfChar_4cfef 31 = .ok (.iconst (-1), 1) := by decide +kernel
theorem dJ1_indexOfChar_4cfef_32 : decode cJ1_indexOfChar_4cfef 32 = .ok (.ireturn, 1) := by decide +kernel
abbrev wd_J1_indexOfChar_4cfef (k : Nat → ClassId) (w : Nat → Nat) : va_W := []
set_option maxHeartbeats 4000000 in
set_option maxRecDepth 100000 in
theorem c_J1_indexOfChar_4cfef (l : Launch) (D : va_G) (k : Nat → ClassId) (w : Nat → Nat) (ch : Int32) (fromIndex : Int32) (toIndex : Int32) (R0 : Int32) (hm : m_J1_indexOfChar_4cfef ch fromIndex toIndex = some R0) : CRe w l D (TY k) yJ1_indexOfChar_4cfef cJ1_indexOfChar_4cfef 6 (some .int) 0 0 [.ref (w 30), .int ch, .int fromIndex, .int toIndex] (wd_J1_indexOfChar_4cfef k w ) (some (.int R0)) := by
  refine CRe.mk (by decide) (Nat.le_of_ble_eq_true rfl) ?_
  intro p e s m args below meth c ls ⟨hx, hb, hr, hts, hown, hlocks, hml⟩ hP hG hE hl
  have hS : va_S (fun _ => False) s.heap s.heap [] := va_S.rf
  have hl : lv_has ls 6 [(0, .ref (w 30)), (1, .int ch), (2, .int fromIndex), (3, .int toIndex)] := hl
  have h_7 : ∀ (n : Nat), ∀ (x4 : Int32) (x5 : Int32) (ls : Array Slot), lv_has ls 6 [(0, .ref (w 30)), (3, .int toIndex), (4, .int x4), (5, .int x5)] → m_J1_indexOfChar_4cfef_7 ch fromIndex toIndex n x4 x5 = some R0 → W p l e (Rm 0 0) s m args below meth c s.heap [] 0 0 (MQ below (QR (some (.int R0))) args s 0 0 (fun _ => False)) (F0 m 7 ls []) := by
    intro n
    induction n with
    | zero => intro x4 x5 ls hl hm; cases hm
    | succ n ih =>
      intro x4 x5 ls hl hm
      unfold m_J1_indexOfChar_4cfef_7 at hm
      refine lv_iload (pc := 7) hx hb dJ1_indexOfChar_4cfef_7 (lv_at hl 3 rfl) ?_
      refine lv_iload_n (pc := 9) hx hb dJ1_indexOfChar_4cfef_9 rfl (lv_at hl 1 rfl) ?_
      refine lv_icmp_ge (tgt := 31) (pc := 10) hx hb dJ1_indexOfChar_4cfef_10 (by decide) (fun hc => ?_) (fun hc => ?_)
      · rw [if_pos hc] at hm
        refine lv_iconst (v := (-1)) (pc := 31) hx hb dJ1_indexOfChar_4cfef_31 (by decide) ?_
        rw [← Option.some.inj hm]
        exact W.iret hx hb hr (fun t ht _ => ⟨rfl, ht⟩) (fun _ h => by cases h) dJ1_indexOfChar_4cfef_32 hlocks
      · rw [if_neg hc] at hm
        refine lv_aload_n (pc := 13) hx hb dJ1_indexOfChar_4cfef_13 rfl (lv_at hl 0 rfl) ?_
        refine lv_iload (pc := 14) hx hb dJ1_indexOfChar_4cfef_14 (lv_at hl 3 rfl) ?_
        obtain ⟨hin, hm⟩ := gd hm
        refine en_bald (pc := 16) hx hb hE hS hin dJ1_indexOfChar_4cfef_16 ?_
        refine lv_iload (pc := 17) hx hb dJ1_indexOfChar_4cfef_17 (lv_at hl 2 rfl) ?_
        refine lv_icmp_ne (tgt := 25) (pc := 19) hx hb dJ1_indexOfChar_4cfef_19 (by decide) (fun hc => ?_) (fun hc => ?_)
        · rw [if_neg hc] at hm
          refine lv_iinc (k := 3) (v := x5 + 1) (lv' := [(5, .int (x5 + 1)), (0, .ref (w 30)), (3, .int toIndex), (4, .int x4)]) (pc := 25) hx hb dJ1_indexOfChar_4cfef_25 hl rfl rfl (Nat.le_of_ble_eq_true rfl) rfl (fun ls hl => ?_)
          refine lv_goto (tgt := 7) (pc := 28) hx hb dJ1_indexOfChar_4cfef_28 (by decide) ?_
          exact ih x4 (x5 + 1) ls (lv_sub hl [1, 2, 3, 0] rfl) hm
        · rw [if_pos hc] at hm
          refine lv_iload (pc := 22) hx hb dJ1_indexOfChar_4cfef_22 (lv_at hl 3 rfl) ?_
          rw [← Option.some.inj hm]
          exact W.iret hx hb hr (fun t ht _ => ⟨rfl, ht⟩) (fun _ h => by cases h) dJ1_indexOfChar_4cfef_24 hlocks
  unfold m_J1_indexOfChar_4cfef at hm
  refine lv_iload_n (pc := 0) hx hb dJ1_indexOfChar_4cfef_0 rfl (lv_at hl 1 rfl) ?_
  refine lv_i2b (pc := 1) hx hb dJ1_indexOfChar_4cfef_1 rfl ?_
  refine lv_istore (lv' := [(4, .int ch.toInt8.toInt32), (0, .ref (w 30)), (1, .int ch), (2, .int fromIndex), (3, .int toIndex)]) (pc := 2) hx hb dJ1_indexOfChar_4cfef_2 hl (Nat.le_of_ble_eq_true rfl) rfl (fun ls hl => ?_)
  refine lv_iload_n (pc := 4) hx hb dJ1_indexOfChar_4cfef_4 rfl (lv_at hl 3 rfl) ?_
  refine lv_istore (lv' := [(5, .int fromIndex), (4, .int ch.toInt8.toInt32), (0, .ref (w 30)), (1, .int ch), (2, .int fromIndex), (3, .int toIndex)]) (pc := 5) hx hb dJ1_indexOfChar_4cfef_5 hl (Nat.le_of_ble_eq_true rfl) rfl (fun ls hl => ?_)
  exact h_7 FU ch.toInt8.toInt32 fromIndex ls (lv_sub hl [2, 5, 1, 0] rfl) hm
theorem dJ1_indexOf_4cfef_0 : decode cJ1_indexOf_4cfef 0 = .ok (.iload_n 1, 1) := by decide +kernel
theorem dJ1_indexOf_4cfef_1 : decode cJ1_indexOf_4cfef 1 = .ok (.invokestatic 88, 3) := by decide +kernel
theorem dJ1_indexOf_4cfef_4 : decode cJ1_indexOf_4cfef 4 = .ok (.ifCond .ne 5, 3) := by decide +kernel
theorem dJ1_indexOf_4cfef_7 : decode cJ1_indexOf_4cfef 7 = .ok (.iconst (-1), 1) := by decide +kernel
theorem dJ1_indexOf_4cfef_8 : decode cJ1_indexOf_4cfef 8 = .ok (.ireturn, 1) := by decide +kernel
theorem dJ1_indexOf_4cfef_9 : decode cJ1_indexOf_4cfef 9 = .ok (.iload_n 2, 1) := by decide +kernel
theorem dJ1_indexOf_4cfef_10 : decode cJ1_indexOf_4cfef 10 = .ok (.iconst 0, 1) := by decide +kernel
theorem dJ1_indexOf_4cfef_11 : decode cJ1_indexOf_4cfef 11 = .ok (.invokestatic 92, 3) := by decide +kernel
theorem dJ1_indexOf_4cfef_14 : decode cJ1_indexOf_4cfef 14 = .ok (.istore_n 2, 1) := by decide +kernel
theorem dJ1_indexOf_4cfef_15 : decode cJ1_indexOf_4cfef 15 = .ok (.iload_n 3, 1) := by decide +kernel
theorem dJ1_indexOf_4cfef_16 : decode cJ1_indexOf_4cfef 16 = .ok (.aload_n 0, 1) := by decide +kernel
theorem dJ1_indexOf_4cfef_17 : decode cJ1_indexOf_4cfef 17 = .ok (.arraylength, 1) := by decide +kernel
theorem dJ1_indexOf_4cfef_18 : decode cJ1_indexOf_4cfef 18 = .ok (.invokestatic 38, 3) := by decide +kernel
theorem dJ1_indexOf_4cfef_21 : decode cJ1_indexOf_4cfef 21 = .ok (.istore_n 3, 1) := by decide +kernel
theorem dJ1_indexOf_4cfef_22 : decode cJ1_indexOf_4cfef 22 = .ok (.iload_n 2, 1) := by decide +kernel
theorem dJ1_indexOf_4cfef_23 : decode cJ1_indexOf_4cfef 23 = .ok (.iload_n 3, 1) := by decide +kernel
theorem dJ1_indexOf_4cfef_24 : decode cJ1_indexOf_4cfef 24 = .ok (.if_icmp .lt 5, 3) := by decide +kernel
theorem dJ1_indexOf_4cfef_27 : decode cJ1_indexOf_4cfef 27 = .ok (.iconst (-1), 1) := by decide +kernel
theorem dJ1_indexOf_4cfef_28 : decode cJ1_indexOf_4cfef 28 = .ok (.ireturn, 1) := by decide +kernel
theorem dJ1_indexOf_4cfef_29 : decode cJ1_indexOf_4cfef 29 = .ok (.aload_n 0, 1) := by decide +kernel
theorem dJ1_indexOf_4cfef_30 : decode cJ1_indexOf_4cfef 30 = .ok (.iload_n 1, 1) := by decide +kernel
theorem dJ1_indexOf_4cfef_31 : decode cJ1_indexOf_4cfef 31 = .ok (.iload_n 2, 1) := by decide +kernel
theorem dJ1_indexOf_4cfef_32 : decode cJ1_indexOf_4cfef 32 = .ok (.iload_n 3, 1) := by decide +kernel
theorem dJ1_indexOf_4cfef_33 : decode cJ1_indexOf_4cfef 33 = .ok (.invokestatic 95, 3) := by decide +kernel
theorem dJ1_indexOf_4cfef_36 : decode cJ1_indexOf_4cfef 36 = .ok (.ireturn, 1) := by decide +kernel
abbrev wd_J1_indexOf_4cfef (k : Nat → ClassId) (w : Nat → Nat) : va_W := []
set_option maxHeartbeats 4000000 in
set_option maxRecDepth 100000 in
theorem c_J1_indexOf_4cfef (l : Launch) (D : va_G) (k : Nat → ClassId) (w : Nat → Nat) (ch : Int32) (fromIndex : Int32) (toIndex : Int32) (R0 : Int32) (hm : m_J1_indexOf_4cfef ch fromIndex toIndex = some R0) : CRe w l D (TY k) yJ1_indexOf_4cfef cJ1_indexOf_4cfef 4 (some .int) 1 25 [.ref (w 30), .int ch, .int fromIndex, .int toIndex] (wd_J1_indexOf_4cfef k w ) (some (.int R0)) := by
  refine CRe.mk (by decide) (Nat.le_of_ble_eq_true rfl) ?_
  intro p e s m args below meth c ls ⟨hx, hb, hr, hts, hown, hlocks, hml⟩ hP hG hE hl
  have hS : va_S (fun _ => False) s.heap s.heap [] := va_S.rf
  have hl : lv_has ls 4 [(0, .ref (w 30)), (1, .int ch), (2, .int fromIndex), (3, .int toIndex)] := hl
  unfold m_J1_indexOf_4cfef at hm
  refine lv_iload_n (pc := 0) hx hb dJ1_indexOf_4cfef_0 rfl (lv_at hl 1 rfl) ?_
  obtain ⟨r3, hcl, hm⟩ := bd hm
  refine cr_back (run_S (pc := 1) (n := 1) (As := [.int ch]) (rest := []) ⟨hx, hb, hml, hown, hts⟩ (c_J1_canEncode_9a6ad l D k w ch r3 hcl) ⟨kw_465, kw_18, by decide +kernel⟩ kw_463 kw_464 ⟨Nat.le_of_ble_eq_true rfl, Nat.le_of_ble_eq_true rfl⟩ pre_blind (prRe hE hS (hP.sub [] rfl) hG) rfl hl.1 rfl (Nat.le_of_ble_eq_true rfl) dJ1_indexOf_4cfef_1 ⟨Nat.zero_le _, Nat.zero_le _⟩) ?_
  refine lv_if_ne (tgt := 9) (pc := 4) hx hb dJ1_indexOf_4cfef_4 (by decide) (fun hc => ?_) (fun hc => ?_)
  · rw [if_neg hc] at hm
    refine lv_iload_n (pc := 9) hx hb dJ1_indexOf_4cfef_9 rfl (lv_at hl 2 rfl) ?_
    refine lv_iconst (v := 0) (pc := 10) hx hb dJ1_indexOf_4cfef_10 (by decide) ?_
    refine va_mmax (pc := 11) hx hb (hml.trans hl.1.symm) (own := RJ1) hown (hts _ kw_466) (hts _ kw_342) (hts _ kw_15) (hts _ kw_343) (Nat.le_of_ble_eq_true rfl) (Nat.le_of_ble_eq_true rfl) (Nat.zero_le _) (Nat.zero_le _) dJ1_indexOf_4cfef_11 ?_
    refine lv_istore_n (lv' := [(2, .int (if fromIndex < 0 then 0 else fromIndex)), (0, .ref (w 30)), (1, .int ch), (3, .int toIndex)]) (pc := 14) hx hb dJ1_indexOf_4cfef_14 rfl hl (Nat.le_of_ble_eq_true rfl) rfl (fun ls hl => ?_)
    refine lv_iload_n (pc := 15) hx hb dJ1_indexOf_4cfef_15 rfl (lv_at hl 3 rfl) ?_
    refine lv_aload_n (pc := 16) hx hb dJ1_indexOf_4cfef_16 rfl (lv_at hl 1 rfl) ?_
    refine en_blen (pc := 17) hx hb hE hS dJ1_indexOf_4cfef_17 ?_
    refine va_mmin (pc := 18) hx hb (hml.trans hl.1.symm) (own := RJ1) hown (hts _ kw_467) (hts _ kw_468) (hts _ kw_15) (hts _ kw_469) (Nat.le_of_ble_eq_true rfl) (Nat.le_of_ble_eq_true rfl) (Nat.zero_le _) (Nat.zero_le _) dJ1_indexOf_4cfef_18 ?_
    refine lv_istore_n (lv' := [(3, .int (if 8 < toIndex then 8 else toIndex)), (2, .int (if fromIndex < 0 then 0 else fromIndex)), (0, .ref (w 30)), (1, .int ch)]) (pc := 21) hx hb dJ1_indexOf_4cfef_21 rfl hl (Nat.le_of_ble_eq_true rfl) rfl (fun ls hl => ?_)
    refine lv_iload_n (pc := 22) hx hb dJ1_indexOf_4cfef_22 rfl (lv_at hl 1 rfl) ?_
    refine lv_iload_n (pc := 23) hx hb dJ1_indexOf_4cfef_23 rfl (lv_at hl 0 rfl) ?_
    refine lv_icmp_lt (tgt := 29) (pc := 24) hx hb dJ1_indexOf_4cfef_24 (by decide) (fun hc => ?_) (fun hc => ?_)
    · rw [if_pos hc] at hm
      refine lv_aload_n (pc := 29) hx hb dJ1_indexOf_4cfef_29 rfl (lv_at hl 2 rfl) ?_
      refine lv_iload_n (pc := 30) hx hb dJ1_indexOf_4cfef_30 rfl (lv_at hl 3 rfl) ?_
      refine lv_iload_n (pc := 31) hx hb dJ1_indexOf_4cfef_31 rfl (lv_at hl 1 rfl) ?_
      refine lv_iload_n (pc := 32) hx hb dJ1_indexOf_4cfef_32 rfl (lv_at hl 0 rfl) ?_
      obtain ⟨r4, hcl, hm⟩ := bd hm
      refine cr_back (run_S (pc := 33) (n := 4) (As := [.ref (w 30), .int ch, .int (if fromIndex < 0 then 0 else fromIndex), .int (if 8 < toIndex then 8 else toIndex)]) (rest := []) ⟨hx, hb, hml, hown, hts⟩ (c_J1_indexOfChar_4cfef l D k w ch (if fromIndex < 0 then 0 else fromIndex) (if 8 < toIndex then 8 else toIndex) r4 hcl) ⟨kw_472, kw_18, by decide +kernel⟩ kw_470 kw_471 ⟨Nat.le_of_ble_eq_true rfl, Nat.le_of_ble_eq_true rfl⟩ pre_blind (prRe hE hS (hP.sub [] rfl) hG) rfl hl.1 rfl (Nat.le_of_ble_eq_true rfl) dJ1_indexOf_4cfef_33 ⟨Nat.zero_le _, Nat.zero_le _⟩) ?_
      rw [← Option.some.inj hm]
      exact W.iret hx hb hr (fun t ht _ => ⟨rfl, ht⟩) (fun _ h => by cases h) dJ1_indexOf_4cfef_36 hlocks
    · rw [if_neg hc] at hm
      refine lv_iconst (v := (-1)) (pc := 27) hx hb dJ1_indexOf_4cfef_27 (by decide) ?_
      rw [← Option.some.inj hm]
      exact W.iret hx hb hr (fun t ht _ => ⟨rfl, ht⟩) (fun _ h => by cases h) dJ1_indexOf_4cfef_28 hlocks
  · rw [if_pos hc] at hm
    refine lv_iconst (v := (-1)) (pc := 7) hx hb dJ1_indexOf_4cfef_7 (by decide) ?_
    rw [← Option.some.inj hm]
    exact W.iret hx hb hr (fun t ht _ => ⟨rfl, ht⟩) (fun _ h => by cases h) dJ1_indexOf_4cfef_8 hlocks
theorem dJ0_indexOf_7cf53_0 : decode cJ0_indexOf_7cf53 0 = .ok (.aload_n 0, 1) := by decide +kernel
theorem dJ0_indexOf_7cf53_1 : decode cJ0_indexOf_7cf53 1 = .ok (.invokevirtual 492, 3) := by decide +kernel
theorem dJ0_indexOf_7cf53_4 : decode cJ0_indexOf_7cf53 4 = .ok (.ifCond .eq 19, 3) := by decide +kernel
theorem dJ0_indexOf_7cf53_7 : decode cJ0_indexOf_7cf53 7 = .ok (.aload_n 0, 1) := by decide +kernel
theorem dJ0_indexOf_7cf53_8 : decode cJ0_indexOf_7cf53 8 = .ok (.getfield 9, 3) := by decide +kernel
theorem dJ0_indexOf_7cf53_11 : decode cJ0_indexOf_7cf53 11 = .ok (.iload_n 1, 1) := by decide +kernel
theorem dJ0_indexOf_7cf53_12 : decode cJ0_indexOf_7cf53 12 = .ok (.iload_n 2, 1) := by decide +kernel
theorem dJ0_indexOf_7cf53_13 : decode cJ0_indexOf_7cf53 13 = .ok (.aload_n 0, 1) := by decide +kernel
theorem dJ0_indexOf_7cf53_14 : decode cJ0_indexOf_7cf53 14 = .ok (.invokevirtual 505, 3) := by decide +kernel
theorem dJ0_indexOf_7cf53_17 : decode cJ0_indexOf_7cf53 17 = .ok (.invokestatic 637, 3) := by decide +kernel
theorem dJ0_indexOf_7cf53_20 : decode cJ0_indexOf_7cf53 20 = .ok (.goto 16, 3) := by decide +kernel
theorem dJ0_indexOf_7cf53_23 : decode cJ0_indexOf_7cf53 23 = .ok (.aload_n 0, 1) := by decide +kernel
theorem dJ0_indexOf_7cf53_24 : decode cJ0_indexOf_7cf53 24 = .ok (.getfield 9, 3) := by decide +kernel
theorem dJ0_indexOf_7cf53_27 : decode cJ0_indexOf_7cf53 27 = .ok (.iload_n 1, 1) := by decide +kernel
theorem dJ0_indexOf_7cf53_28 : decode cJ0_indexOf_7cf53 28 = .ok (.iload_n 2, 1) := by decide +kernel
theorem dJ0_indexOf_7cf53_29 : decode cJ0_indexOf_7cf53 29 = .ok (.aload_n 0, 1) := by decide +kernel
theorem dJ0_indexOf_7cf53_30 : decode cJ0_indexOf_7cf53 30 = .ok (.invokevirtual 505, 3) := by decide +kernel
theorem dJ0_indexOf_7cf53_33 : decode cJ0_indexOf_7cf53 33 = .ok (.invokestatic 640, 3) := by decide +kernel
theorem dJ0_indexOf_7cf53_36 : decode cJ0_indexOf_7cf53 36 = .ok (.ireturn, 1) := by decide +kernel
abbrev wd_J0_indexOf_7cf53 (k : Nat → ClassId) (w : Nat → Nat) : va_W := []
set_option maxHeartbeats 4000000 in
set_option maxRecDepth 100000 in
theorem c_J0_indexOf_7cf53 (l : Launch) (D : va_G) (k : Nat → ClassId) (w : Nat → Nat) (ch : Int32) (fromIndex : Int32) (R0 : Int32) (hm : m_J0_indexOf_7cf53 ch fromIndex = some R0) : CRe w l D (TY k) yJ0_indexOf_7cf53 cJ0_indexOf_7cf53 3 (some .int) 2 48 [.ref (w 29), .int ch, .int fromIndex] (wd_J0_indexOf_7cf53 k w ) (some (.int R0)) := by
  refine CRe.mk (by decide) (Nat.le_of_ble_eq_true rfl) ?_
  intro p e s m args below meth c ls ⟨hx, hb, hr, hts, hown, hlocks, hml⟩ hP hG hE hl
  have hS : va_S (fun _ => False) s.heap s.heap [] := va_S.rf
  have hl : lv_has ls 3 [(0, .ref (w 29)), (1, .int ch), (2, .int fromIndex)] := hl
  unfold m_J0_indexOf_7cf53 at hm
  refine lv_aload_n (pc := 0) hx hb dJ0_indexOf_7cf53_0 rfl (lv_at hl 0 rfl) ?_
  refine cr_back (run_V (pc := 1) (n := 0) (As := []) (rest := []) ⟨hx, hb, hml, hown, hts⟩ (t_J0_isLatin1_aae02 l D k w) ⟨kw_449, kw_17, by decide +kernel⟩ kw_446 kw_447 kw_448 ⟨Nat.le_of_ble_eq_true rfl, Nat.le_of_ble_eq_true rfl⟩ pre_blind (prRe hE hS (hP.sub [] rfl) hG) (en_srec hE hS) rfl hl.1 rfl (Nat.le_of_ble_eq_true rfl) dJ0_indexOf_7cf53_1 ⟨Nat.zero_le _, Nat.zero_le _⟩) ?_
  refine lv_if_eq (tgt := 23) (pc := 4) hx hb dJ0_indexOf_7cf53_4 (by decide) (fun hc => absurd hc (by decide)) (fun hc => ?_)
  refine lv_aload_n (pc := 7) hx hb dJ0_indexOf_7cf53_7 rfl (lv_at hl 0 rfl) ?_
  refine en_value (pc := 8) (own := RJ0) hx hb hE hS hown (hts _ kw_1771) dJ0_indexOf_7cf53_8 ?_
  refine lv_iload_n (pc := 11) hx hb dJ0_indexOf_7cf53_11 rfl (lv_at hl 1 rfl) ?_
  refine lv_iload_n (pc := 12) hx hb dJ0_indexOf_7cf53_12 rfl (lv_at hl 2 rfl) ?_
  refine lv_aload_n (pc := 13) hx hb dJ0_indexOf_7cf53_13 rfl (lv_at hl 0 rfl) ?_
  obtain ⟨r3, hcl, hm⟩ := bd hm
  refine cr_back (run_V (pc := 14) (n := 0) (As := []) (rest := [.int fromIndex, .int ch, .ref (w 30)]) ⟨hx, hb, hml, hown, hts⟩ (c_J0_length_8abf5 l D k w r3 hcl) ⟨kw_455, kw_17, by decide +kernel⟩ kw_452 kw_453 kw_454 ⟨Nat.le_of_ble_eq_true rfl, Nat.le_of_ble_eq_true rfl⟩ pre_blind (prRe hE hS (hP.sub [] rfl) hG) (en_srec hE hS) rfl hl.1 rfl (Nat.le_of_ble_eq_true rfl) dJ0_indexOf_7cf53_14 ⟨Nat.zero_le _, Nat.zero_le _⟩) ?_
  obtain ⟨r4, hcl, hm⟩ := bd hm
  refine cr_back (run_S (pc := 17) (n := 4) (As := [.ref (w 30), .int ch, .int fromIndex, .int r3]) (rest := []) ⟨hx, hb, hml, hown, hts⟩ (c_J1_indexOf_4cfef l D k w ch fromIndex r3 r4 hcl) ⟨kw_462, kw_18, by decide +kernel⟩ kw_460 kw_461 ⟨Nat.le_of_ble_eq_true rfl, Nat.le_of_ble_eq_true rfl⟩ pre_blind (prRe hE hS (hP.sub [] rfl) hG) rfl hl.1 rfl (Nat.le_of_ble_eq_true rfl) dJ0_indexOf_7cf53_17 ⟨Nat.zero_le _, Nat.zero_le _⟩) ?_
  refine lv_goto (tgt := 36) (pc := 20) hx hb dJ0_indexOf_7cf53_20 (by decide) ?_
  rw [← Option.some.inj hm]
  exact W.iret hx hb hr (fun t ht _ => ⟨rfl, ht⟩) (fun _ h => by cases h) dJ0_indexOf_7cf53_36 hlocks
theorem dJ0_indexOf_0f7a4_0 : decode cJ0_indexOf_0f7a4 0 = .ok (.aload_n 0, 1) := by decide +kernel
theorem dJ0_indexOf_0f7a4_1 : decode cJ0_indexOf_0f7a4 1 = .ok (.iload_n 1, 1) := by decide +kernel
theorem dJ0_indexOf_0f7a4_2 : decode cJ0_indexOf_0f7a4 2 = .ok (.iconst 0, 1) := by decide +kernel
theorem dJ0_indexOf_0f7a4_3 : decode cJ0_indexOf_0f7a4 3 = .ok (.invokevirtual 633, 3) := by decide +kernel
theorem dJ0_indexOf_0f7a4_6 : decode cJ0_indexOf_0f7a4 6 = .ok (.ireturn, 1) := by decide +kernel
abbrev wd_J0_indexOf_0f7a4 (k : Nat → ClassId) (w : Nat → Nat) : va_W := []
set_option maxHeartbeats 4000000 in
set_option maxRecDepth 100000 in
theorem c_J0_indexOf_0f7a4 (l : Launch) (D : va_G) (k : Nat → ClassId) (w : Nat → Nat) (ch : Int32) (R0 : Int32) (hm : m_J0_indexOf_0f7a4 ch = some R0) : CRe w l D (TY k) yJ0_indexOf_0f7a4 cJ0_indexOf_0f7a4 2 (some .int) 3 70 [.ref (w 29), .int ch] (wd_J0_indexOf_0f7a4 k w ) (some (.int R0)) := by
  refine CRe.mk (by decide) (Nat.le_of_ble_eq_true rfl) ?_
  intro p e s m args below meth c ls ⟨hx, hb, hr, hts, hown, hlocks, hml⟩ hP hG hE hl
  have hS : va_S (fun _ => False) s.heap s.heap [] := va_S.rf
  have hl : lv_has ls 2 [(0, .ref (w 29)), (1, .int ch)] := hl
  unfold m_J0_indexOf_0f7a4 at hm
  refine lv_aload_n (pc := 0) hx hb dJ0_indexOf_0f7a4_0 rfl (lv_at hl 0 rfl) ?_
  refine lv_iload_n (pc := 1) hx hb dJ0_indexOf_0f7a4_1 rfl (lv_at hl 1 rfl) ?_
  refine lv_iconst (v := 0) (pc := 2) hx hb dJ0_indexOf_0f7a4_2 (by decide) ?_
  obtain ⟨r2, hcl, hm⟩ := bd hm
  refine cr_back (run_V (pc := 3) (n := 2) (As := [.int ch, .int 0]) (rest := []) ⟨hx, hb, hml, hown, hts⟩ (c_J0_indexOf_7cf53 l D k w ch 0 r2 hcl) ⟨kw_445, kw_17, by decide +kernel⟩ kw_442 kw_443 kw_444 ⟨Nat.le_of_ble_eq_true rfl, Nat.le_of_ble_eq_true rfl⟩ pre_blind (prRe hE hS (hP.sub [] rfl) hG) (en_srec hE hS) rfl hl.1 rfl (Nat.le_of_ble_eq_true rfl) dJ0_indexOf_0f7a4_3 ⟨Nat.zero_le _, Nat.zero_le _⟩) ?_
  rw [← Option.some.inj hm]
  exact W.iret hx hb hr (fun t ht _ => ⟨rfl, ht⟩) (fun _ h => by cases h) dJ0_indexOf_0f7a4_6 hlocks
theorem dX7_advance_0 : decode cX7_advance 0 = .ok (.aload_n 0, 1) := by decide +kernel
theorem dX7_advance_1 : decode cX7_advance 1 = .ok (.getfield 35, 3) := by decide +kernel
theorem dX7_advance_4 : decode cX7_advance 4 = .ok (.ifCond .eq 4, 3) := by decide +kernel
theorem dX7_advance_7 : decode cX7_advance 7 = .ok (.return_, 1) := by decide +kernel
theorem dX7_advance_8 : decode cX7_advance 8 = .ok (.aload_n 0, 1) := by decide +kernel
theorem dX7_advance_9 : decode cX7_advance 9 = .ok (.aload_n 0, 1) := by decide +kernel
theorem dX7_advance_10 : decode cX7_advance 10 = .ok (.getfield 32, 3) := by decide +kernel
theorem dX7_advance_13 : decode cX7_advance 13 = .ok (.putfield 41, 3) := by decide +kernel
theorem dX7_advance_16 : decode cX7_advance 16 = .ok (.aload_n 0, 1) := by decide +kernel
theorem dX7_advance_17 : decode cX7_advance 17 = .ok (.getfield 41, 3) := by decide +kernel
theorem dX7_advance_20 : decode cX7_advance 20 = .ok (.aload_n 0, 1) := by decide +kernel
theorem dX7_advance_21 : decode cX7_advance 21 = .ok (.getfield 28, 3) := by decide +kernel
theorem dX7_advance_24 : decode cX7_advance 24 = .ok (.if_icmp .ge 42, 3) := by decide +kernel
theorem dX7_advance_27 : decode cX7_advance 27 = .ok (.aload_n 0, 1) := by decide +kernel
theorem dX7_advance_28 : decode cX7_advance 28 = .ok (.aload_n 0, 1) := by decide +kernel
theorem dX7_advance_29 : decode cX7_advance 29 = .ok (.getfield 41, 3) := by decide +kernel
theorem dX7_advance_32 : decode cX7_advance 32 = .ok (.invokevirtual 44, 3) := by decide +kernel
theorem dX7_advance_35 : decode cX7_advance 35 = .ok (.bipush 32, 2) := by decide +kernel
theorem dX7_advance_37 : decode cX7_advance 37 = .ok (.if_icmp .eq 16, 3) := by decide +kernel
theorem dX7_advance_40 : decode cX7_advance 40 = .ok (.aload_n 0, 1) := by decide +kernel
theorem dX7_advance_41 : decode cX7_advance 41 = .ok (.aload_n 0, 1) := by decide +kernel
theorem dX7_advance_42 : decode cX7_advance 42 = .ok (.getfield 41, 3) := by decide +kernel
theorem dX7_advance_45 : decode cX7_advance 45 = .ok (.invokevirtual 44, 3) := by decide +kernel
theorem dX7_advance_48 : decode cX7_advance 48 = .ok (.bipush 10, 2) := by decide +kernel
theorem dX7_advance_50 : decode cX7_advance 50 = .ok (.if_icmp .ne 16, 3) := by decide +kernel
theorem dX7_advance_53 : decode cX7_advance 53 = .ok (.aload_n 0, 1) := by decide +kernel
theorem dX7_advance_54 : decode cX7_advance 54 = .ok (.dup, 1) := by decide +kernel
theorem dX7_advance_55 : decode cX7_advance 55 = .ok (.getfield 41, 3) := by decide +kernel
theorem dX7_advance_58 : decode cX7_advance 58 = .ok (.iconst 1, 1) := by decide +kernel
theorem dX7_advance_59 : decode cX7_advance 59 = .ok (.iadd, 1) := by decide +kernel
theorem dX7_advance_60 : decode cX7_advance 60 = .ok (.putfield 41, 3) := by decide +kernel
theorem dX7_advance_63 : decode cX7_advance 63 = .ok (.goto (-47), 3) := by decide +kernel
theorem dX7_advance_66 : decode cX7_advance 66 = .ok (.aload_n 0, 1) := by decide +kernel
theorem dX7_advance_67 : decode cX7_advance 67 = .ok (.getstatic 15, 3) := by decide +kernel
theorem dX7_advance_70 : decode cX7_advance 70 = .ok (.putfield 21, 3) := by decide +kernel
theorem dX7_advance_73 : decode cX7_advance 73 = .ok (.aload_n 0, 1) := by decide +kernel
theorem dX7_advance_74 : decode cX7_advance 74 = .ok (.aload_n 0, 1) := by decide +kernel
theorem dX7_advance_75 : decode cX7_advance 75 = .ok (.getfield 41, 3) := by decide +kernel
theorem dX7_advance_78 : decode cX7_advance 78 = .ok (.invokevirtual 44, 3) := by decide +kernel
theorem dX7_advance_81 : decode cX7_advance 81 = .ok (.istore_n 1, 1) := by decide +kernel
theorem dX7_advance_82 : decode cX7_advance 82 = .ok (.aload_n 0, 1) := by decide +kernel
theorem dX7_advance_83 : decode cX7_advance 83 = .ok (.getfield 41, 3) := by decide +kernel
theorem dX7_advance_86 : decode cX7_advance 86 = .ok (.aload_n 0, 1) := by decide +kernel
theorem dX7_advance_87 : decode cX7_advance 87 = .ok (.getfield 28, 3) := by decide +kernel
theorem dX7_advance_90 : decode cX7_advance 90 = .ok (.if_icmp .lt 19, 3) := by decide +kernel
theorem dX7_advance_93 : decode cX7_advance 93 = .ok (.aload_n 0, 1) := by decide +kernel
theorem dX7_advance_94 : decode cX7_advance 94 = .ok (.iconst 0, 1) := by decide +kernel
theorem dX7_advance_95 : decode cX7_advance 95 = .ok (.putfield 48, 3) := by decide +kernel
theorem dX7_advance_98 : decode cX7_advance 98 = .ok (.aload_n 0, 1) := by decide +kernel
theorem dX7_advance_99 : decode cX7_advance 99 = .ok (.aload_n 0, 1) := by decide +kernel
theorem dX7_advance_100 : decode cX7_advance 100 = .ok (.getfield 41, 3) := by decide +kernel
theorem dX7_advance_103 : decode cX7_advance 103 = .ok (.putfield 32, 3) := by decide +kernel
theorem dX7_advance_106 : decode cX7_advance 106 = .ok (.goto 59, 3) := by decide +kernel
theorem dX7_advance_109 : decode cX7_advance 109 = .ok (.iload_n 1, 1) := by decide +kernel
theorem dX7_advance_110 : decode cX7_advance 110 = .ok (.invokestatic 51, 3) := by decide +kernel
theorem dX7_advance_113 : decode cX7_advance 113 = .ok (.ifCond .eq 10, 3) := by decide +kernel
theorem dX7_advance_116 : decode cX7_advance 116 = .ok (.aload_n 0, 1) := by decide +kernel
theorem dX7_advance_117 : decode cX7_advance 117 = .ok (.invokevirtual 55, 3) := by decide +kernel
theorem dX7_advance_120 : decode cX7_advance 120 = .ok (.goto 45, 3) := by decide +kernel
theorem dX7_advance_123 : decode cX7_advance 123 = .ok (.iload_n 1, 1) := by decide +kernel
theorem dX7_advance_124 : decode cX7_advance 124 = .ok (.invokestatic 58, 3) := by decide +kernel
theorem dX7_advance_127 : decode cX7_advance 127 = .ok (.ifCond .eq 10, 3) := by decide +kernel
theorem dX7_advance_130 : decode cX7_advance 130 = .ok (.aload_n 0, 1) := by decide +kernel
theorem dX7_advance_131 : decode cX7_advance 131 = .ok (.invokevirtual 61, 3) := by decide +kernel
theorem dX7_advance_134 : decode cX7_advance 134 = .ok (.goto 31, 3) := by decide +kernel
theorem dX7_advance_137 : decode cX7_advance 137 = .ok (.aload_n 0, 1) := by decide +kernel
theorem dX7_advance_138 : decode cX7_advance 138 = .ok (.ldc 64, 2) := by decide +kernel
theorem dX7_advance_140 : decode cX7_advance 140 = .ok (.iload_n 1, 1) := by decide +kernel
theorem dX7_advance_141 : decode cX7_advance 141 = .ok (.invokevirtual 66, 3) := by decide +kernel
theorem dX7_advance_144 : decode cX7_advance 144 = .ok (.ifCond .lt 7, 3) := by decide +kernel
theorem dX7_advance_147 : decode cX7_advance 147 = .ok (.iconst 3, 1) := by decide +kernel
theorem dX7_advance_148 : decode cX7_advance 148 = .ok (.goto 4, 3) := by decide +kernel
theorem dX7_advance_151 : decode cX7_advance 151 = .ok (.iconst 4, 1) := by decide +kernel
theorem dX7_advance_152 : decode cX7_advance 152 = .ok (.putfield 48, 3) := by decide +kernel
theorem dX7_advance_155 : decode cX7_advance 155 = .ok (.aload_n 0, 1) := by decide +kernel
theorem dX7_advance_156 : decode cX7_advance 156 = .ok (.aload_n 0, 1) := by decide +kernel
theorem dX7_advance_157 : decode cX7_advance 157 = .ok (.getfield 41, 3) := by decide +kernel
theorem dX7_advance_160 : decode cX7_advance 160 = .ok (.iconst 1, 1) := by decide +kernel
theorem dX7_advance_161 : decode cX7_advance 161 = .ok (.iadd, 1) := by decide +kernel
theorem dX7_advance_162 : decode cX7_advance 162 = .ok (.putfield 32, 3) := by decide +kernel
theorem dX7_advance_165 : decode cX7_advance 165 = .ok (.return_, 1) := by decide +kernel
abbrev wd_X7_advance (k : Nat → ClassId) (w : Nat → Nat) (this : Nat) (this_signs : Nat) (this_signs_f : Nat → Int32) (this_length : Int32) (this_place : Int32) (this_behind : Int32) (this_sort : Int32) (this_number : Int32) (this_letters : Int64) (this_word : Nat) (this_fault : Int32) : va_W := [(this, .inr (6, [.ref this_signs, .int this_length, .int this_place, .int this_behind, .int this_sort, .int this_number, .long this_letters, .ref (w this_word), .int this_fault])), (this_signs, .inl (k 2, 1000, .inl this_signs_f))]
set_option maxHeartbeats 4000000 in
set_option maxRecDepth 100000 in
theorem c_X7_advance (l : Launch) (D : va_G) (k : Nat → ClassId) (w : Nat → Nat) (this : Nat) (this_signs : Nat) (this_signs_f : Nat → Int32) (this_length : Int32) (this_place : Int32) (this_behind : Int32) (this_sort : Int32) (this_number : Int32) (this_letters : Int64) (this_word : Nat) (this_fault : Int32) (R0 : Int32 × Int32 × Int32 × Int32 × Int64 × Nat) (hm : m_X7_advance this_signs_f this_length this_place this_behind this_sort this_number this_letters this_word this_fault = some R0) : CWe w l D (TY k) yX7_advance cX7_advance 2 none 4 91 [.ref this] (wd_X7_advance k w this this_signs this_signs_f this_length this_place this_behind this_sort this_number this_letters this_word this_fault) none (wd_X7_advance k w this this_signs this_signs_f this_length R0.1 R0.2.1 R0.2.2.1 R0.2.2.2.1 R0.2.2.2.2.1 R0.2.2.2.2.2 this_fault) := by
  refine CWe.mk (by decide) (Nat.le_of_ble_eq_true rfl) ?_
  intro p e s m args below meth c ls A ⟨hx, hb, hr, hts, hown, hlocks, hml⟩ hP hG hE hD hA hl hS hq
  have hl : lv_has ls 2 [(0, .ref this)] := hl
  have h_152 : ∀ (t0 : Int32) (u_this_place : Int32) (u_this_behind : Int32) (u_this_sort : Int32) (u_this_number : Int32) (u_this_letters : Int64) (u_this_word : Nat) (H : Heap) (locs : List Loc) (ls : Array Slot), va_P D vwCl (wd_X7_advance k w this this_signs this_signs_f this_length u_this_place u_this_behind u_this_sort u_this_number u_this_letters u_this_word this_fault) H → va_D A (wd_X7_advance k w this this_signs this_signs_f this_length u_this_place u_this_behind u_this_sort u_this_number u_this_letters u_this_word this_fault) → va_S A s.heap H locs → lv_has ls 2 [(0, .ref this)] → m_X7_advance_152 this_signs_f this_length this_fault t0 u_this_place u_this_behind u_this_sort u_this_number u_this_letters u_this_word = some R0 → W p l e (Rm 4 91) s m args below meth c H locs 0 0 (MQ below (QW D none (wd_X7_advance k w this this_signs this_signs_f this_length this_place this_behind this_sort this_number this_letters this_word this_fault) (wd_X7_advance k w this this_signs this_signs_f this_length R0.1 R0.2.1 R0.2.2.1 R0.2.2.2.1 R0.2.2.2.2.1 R0.2.2.2.2.2 this_fault) s.heap.size) args s 0 0 A) (F0 m 152 ls [.int t0, .ref this]) := by
    intro  t0 u_this_place u_this_behind u_this_sort u_this_number u_this_letters u_this_word H locs ls hP hD hS hl hm
    unfold m_X7_advance_152 at hm
    refine va_put (pc := 152) (D := D) (ci := 6) (v := .int t0) (ty := .int) (C := RX7) (T := TX7) (N := 9) hx hb hts hiX7 tyX7 tyX7_ok nmX7 hown hG.1 hP hD hS 0 rfl rfl 4 (Nat.le_of_ble_eq_true rfl) (hts _ kw_49) (fun _ h9 => h9) rfl (by decide +kernel) rfl rfl (Nat.le_of_ble_eq_true rfl) dX7_advance_152 (fun H locs hP hD hS => ?_)
    have hP : va_P D vwCl (wd_X7_advance k w this this_signs this_signs_f this_length u_this_place u_this_behind t0 u_this_number u_this_letters u_this_word this_fault) H := hP
    have hD : va_D A (wd_X7_advance k w this this_signs this_signs_f this_length u_this_place u_this_behind t0 u_this_number u_this_letters u_this_word this_fault) := hD
    refine lv_aload_n (pc := 155) hx hb dX7_advance_155 rfl (lv_at hl 0 rfl) ?_
    refine lv_aload_n (pc := 156) hx hb dX7_advance_156 rfl (lv_at hl 0 rfl) ?_
    refine va_get (pc := 157) (D := D) (ci := 6) (C := RX7) (T := TX7) (N := 9) hx hb hts hiX7 hown hG.1 hP 0 rfl rfl 2 (Nat.le_of_ble_eq_true rfl) (hts _ kw_47) (fun _ h9 => h9) rfl dX7_advance_157 ?_
    refine lv_iconst (v := 1) (pc := 160) hx hb dX7_advance_160 (by decide) ?_
    refine lv_iadd (pc := 161) hx hb dX7_advance_161 ?_
    refine va_put (pc := 162) (D := D) (ci := 6) (v := .int (u_this_place + 1)) (ty := .int) (C := RX7) (T := TX7) (N := 9) hx hb hts hiX7 tyX7 tyX7_ok nmX7 hown hG.1 hP hD hS 0 rfl rfl 3 (Nat.le_of_ble_eq_true rfl) (hts _ kw_48) (fun _ h9 => h9) rfl (by decide +kernel) rfl rfl (Nat.le_of_ble_eq_true rfl) dX7_advance_162 (fun H locs hP hD hS => ?_)
    have hP : va_P D vwCl (wd_X7_advance k w this this_signs this_signs_f this_length u_this_place (u_this_place + 1) t0 u_this_number u_this_letters u_this_word this_fault) H := hP
    have hD : va_D A (wd_X7_advance k w this this_signs this_signs_f this_length u_this_place (u_this_place + 1) t0 u_this_number u_this_letters u_this_word this_fault) := hD
    rw [← Option.some.inj hm]
    exact W.vret hx hb hr (fun t ht _ => hq _ _ H t ht hP hD locs hS) hS.2.2 dX7_advance_165 hlocks
  have h_66 : ∀ (u_this_place : Int32) (u_this_behind : Int32) (u_this_sort : Int32) (u_this_number : Int32) (u_this_letters : Int64) (u_this_word : Nat) (H : Heap) (locs : List Loc) (ls : Array Slot), va_P D vwCl (wd_X7_advance k w this this_signs this_signs_f this_length u_this_place u_this_behind u_this_sort u_this_number u_this_letters u_this_word this_fault) H → va_D A (wd_X7_advance k w this this_signs this_signs_f this_length u_this_place u_this_behind u_this_sort u_this_number u_this_letters u_this_word this_fault) → va_S A s.heap H locs → lv_has ls 2 [(0, .ref this)] → m_X7_advance_66 this_signs_f this_length this_fault u_this_place u_this_behind u_this_sort u_this_number u_this_letters u_this_word = some R0 → W p l e (Rm 4 91) s m args below meth c H locs 0 0 (MQ below (QW D none (wd_X7_advance k w this this_signs this_signs_f this_length this_place this_behind this_sort this_number this_letters this_word this_fault) (wd_X7_advance k w this this_signs this_signs_f this_length R0.1 R0.2.1 R0.2.2.1 R0.2.2.2.1 R0.2.2.2.2.1 R0.2.2.2.2.2 this_fault) s.heap.size) args s 0 0 A) (F0 m 66 ls []) := by
    intro  u_this_place u_this_behind u_this_sort u_this_number u_this_letters u_this_word H locs ls hP hD hS hl hm
    unfold m_X7_advance_66 at hm
    refine lv_aload_n (pc := 66) hx hb dX7_advance_66 rfl (lv_at hl 0 rfl) ?_
    refine en_static (pc := 67) (own := RX7) hx hb hE hS 0 (Nat.le_of_ble_eq_true rfl) hown (hts _ kw_42) dX7_advance_67 ?_
    refine va_put (pc := 70) (D := D) (ci := 6) (v := .ref (w 0)) (ty := .object "HalfMast$Word") (C := RX7) (T := TX7) (N := 9) hx hb hts hiX7 tyX7 tyX7_ok nmX7 hown hG.1 hP hD hS 0 rfl rfl 7 (Nat.le_of_ble_eq_true rfl) (hts _ kw_54) (fun _ h9 => h9) rfl (by decide +kernel) rfl rfl (Nat.le_of_ble_eq_true rfl) dX7_advance_70 (fun H locs hP hD hS => ?_)
    have hP : va_P D vwCl (wd_X7_advance k w this this_signs this_signs_f this_length u_this_place u_this_behind u_this_sort u_this_number u_this_letters 0 this_fault) H := hP
    have hD : va_D A (wd_X7_advance k w this this_signs this_signs_f this_length u_this_place u_this_behind u_this_sort u_this_number u_this_letters 0 this_fault) := hD
    refine lv_aload_n (pc := 73) hx hb dX7_advance_73 rfl (lv_at hl 0 rfl) ?_
    refine lv_aload_n (pc := 74) hx hb dX7_advance_74 rfl (lv_at hl 0 rfl) ?_
    refine va_get (pc := 75) (D := D) (ci := 6) (C := RX7) (T := TX7) (N := 9) hx hb hts hiX7 hown hG.1 hP 0 rfl rfl 2 (Nat.le_of_ble_eq_true rfl) (hts _ kw_47) (fun _ h9 => h9) rfl dX7_advance_75 ?_
    obtain ⟨r9, hcl, hm⟩ := bd hm
    refine cr_back (run_V (pc := 78) (n := 1) (As := [.int u_this_place]) (rest := []) ⟨hx, hb, hml, hown, hts⟩ (c_X7_signAt l D k w this this_signs this_signs_f this_length u_this_place u_this_behind u_this_sort u_this_number u_this_letters 0 this_fault u_this_place r9 hcl) ⟨kw_415, kw_2, by decide +kernel⟩ kw_412 kw_414 ks_16 ⟨Nat.le_of_ble_eq_true rfl, Nat.le_of_ble_eq_true rfl⟩ pre_blind (prRe hE hS (hP.sub [0, 1] rfl) hG) (va_recv hG.1 hP (ci := 6) (q0 := 0) rfl rfl) rfl hl.1 rfl (Nat.le_of_ble_eq_true rfl) dX7_advance_78 ⟨Nat.zero_le _, Nat.zero_le _⟩) ?_
    refine lv_istore_n (lv' := [(1, .int r9), (0, .ref this)]) (pc := 81) hx hb dX7_advance_81 rfl hl (Nat.le_of_ble_eq_true rfl) rfl (fun ls hl => ?_)
    refine lv_aload_n (pc := 82) hx hb dX7_advance_82 rfl (lv_at hl 1 rfl) ?_
    refine va_get (pc := 83) (D := D) (ci := 6) (C := RX7) (T := TX7) (N := 9) hx hb hts hiX7 hown hG.1 hP 0 rfl rfl 2 (Nat.le_of_ble_eq_true rfl) (hts _ kw_47) (fun _ h9 => h9) rfl dX7_advance_83 ?_
    refine lv_aload_n (pc := 86) hx hb dX7_advance_86 rfl (lv_at hl 1 rfl) ?_
    refine va_get (pc := 87) (D := D) (ci := 6) (C := RX7) (T := TX7) (N := 9) hx hb hts hiX7 hown hG.1 hP 0 rfl rfl 1 (Nat.le_of_ble_eq_true rfl) (hts _ kw_46) (fun _ h9 => h9) rfl dX7_advance_87 ?_
    refine lv_icmp_lt (tgt := 109) (pc := 90) hx hb dX7_advance_90 (by decide) (fun hc => ?_) (fun hc => ?_)
    · rw [if_pos hc] at hm
      refine lv_iload_n (pc := 109) hx hb dX7_advance_109 rfl (lv_at hl 0 rfl) ?_
      obtain ⟨r10, hcl, hm⟩ := bd hm
      refine cr_back (run_S (pc := 110) (n := 1) (As := [.int r9]) (rest := []) ⟨hx, hb, hml, hown, hts⟩ (c_X7_isLetter l D k w r9 r10 hcl) ⟨kw_418, kw_2, by decide +kernel⟩ kw_416 kw_417 ⟨Nat.le_of_ble_eq_true rfl, Nat.le_of_ble_eq_true rfl⟩ pre_blind (prRe hE hS (hP.sub [] rfl) hG) rfl hl.1 rfl (Nat.le_of_ble_eq_true rfl) dX7_advance_110 ⟨Nat.zero_le _, Nat.zero_le _⟩) ?_
      refine lv_if_eq (tgt := 123) (pc := 113) hx hb dX7_advance_113 (by decide) (fun hc => ?_) (fun hc => ?_)
      · rw [if_pos hc] at hm
        refine lv_iload_n (pc := 123) hx hb dX7_advance_123 rfl (lv_at hl 0 rfl) ?_
        obtain ⟨r11, hcl, hm⟩ := bd hm
        refine cr_back (run_S (pc := 124) (n := 1) (As := [.int r9]) (rest := []) ⟨hx, hb, hml, hown, hts⟩ (c_X7_isDigit l D k w r9 r11 hcl) ⟨kw_432, kw_2, by decide +kernel⟩ kw_430 kw_431 ⟨Nat.le_of_ble_eq_true rfl, Nat.le_of_ble_eq_true rfl⟩ pre_blind (prRe hE hS (hP.sub [] rfl) hG) rfl hl.1 rfl (Nat.le_of_ble_eq_true rfl) dX7_advance_124 ⟨Nat.zero_le _, Nat.zero_le _⟩) ?_
        refine lv_if_eq (tgt := 137) (pc := 127) hx hb dX7_advance_127 (by decide) (fun hc => ?_) (fun hc => ?_)
        · rw [if_pos hc] at hm
          refine lv_aload_n (pc := 137) hx hb dX7_advance_137 rfl (lv_at hl 1 rfl) ?_
          refine en_str (pc := 138) hx hb hE hown dX7_advance_138 ?_
          refine lv_iload_n (pc := 140) hx hb dX7_advance_140 rfl (lv_at hl 0 rfl) ?_
          obtain ⟨r12, hcl, hm⟩ := bd hm
          refine cr_back (run_V (pc := 141) (n := 1) (As := [.int r9]) (rest := [.ref this]) ⟨hx, hb, hml, hown, hts⟩ (c_J0_indexOf_0f7a4 l D k w r9 r12 hcl) ⟨kw_441, kw_17, by decide +kernel⟩ kw_438 kw_439 kw_440 ⟨Nat.le_of_ble_eq_true rfl, Nat.le_of_ble_eq_true rfl⟩ pre_blind (prRe hE hS (hP.sub [] rfl) hG) (en_srec hE hS) rfl hl.1 rfl (Nat.le_of_ble_eq_true rfl) dX7_advance_141 ⟨Nat.zero_le _, Nat.zero_le _⟩) ?_
          refine lv_if_lt (tgt := 151) (pc := 144) hx hb dX7_advance_144 (by decide) (fun hc => ?_) (fun hc => ?_)
          · rw [if_pos hc] at hm
            refine lv_iconst (v := 4) (pc := 151) hx hb dX7_advance_151 (by decide) ?_
            exact h_152 4 u_this_place u_this_behind u_this_sort u_this_number u_this_letters 0 H locs ls hP hD hS (lv_sub hl [1] rfl) hm
          · rw [if_neg hc] at hm
            refine lv_iconst (v := 3) (pc := 147) hx hb dX7_advance_147 (by decide) ?_
            refine lv_goto (tgt := 152) (pc := 148) hx hb dX7_advance_148 (by decide) ?_
            exact h_152 3 u_this_place u_this_behind u_this_sort u_this_number u_this_letters 0 H locs ls hP hD hS (lv_sub hl [1] rfl) hm
        · rw [if_neg hc] at hm
          refine lv_aload_n (pc := 130) hx hb dX7_advance_130 rfl (lv_at hl 1 rfl) ?_
          obtain ⟨r13, hcl, hm⟩ := bd hm
          refine cw_mask (ws' := (wd_X7_advance k w this this_signs this_signs_f this_length u_this_place r13.1 r13.2.1 r13.2.2 u_this_letters 0 this_fault)) (run_V (pc := 131) (n := 0) (As := []) (rest := []) ⟨hx, hb, hml, hown, hts⟩ ((c_X7_takeInNumber l D k w this this_signs this_signs_f this_length u_this_place u_this_behind u_this_sort u_this_number u_this_letters 0 this_fault r13 hcl) H.size) ⟨kw_436, kw_2, by decide +kernel⟩ kw_433 kw_435 ks_18 ⟨Nat.le_of_ble_eq_true rfl, Nat.le_of_ble_eq_true rfl⟩ pwe_blind (prWe hE hS hA (P_pick [true, true] rfl hP) hG (D_pick [true, true] rfl hD)) (va_recv hG.1 hP (ci := 6) (q0 := 0) rfl rfl) rfl hl.1 rfl (Nat.le_of_ble_eq_true rfl) dX7_advance_131 ⟨Nat.zero_le _, Nat.zero_le _⟩) hP hD hS hA [true, true] rfl rfl rfl (fun H locs hP hD hS => ?_)
          refine lv_goto (tgt := 165) (pc := 134) hx hb dX7_advance_134 (by decide) ?_
          rw [← Option.some.inj hm]
          exact W.vret hx hb hr (fun t ht _ => hq _ _ H t ht hP hD locs hS) hS.2.2 dX7_advance_165 hlocks
      · rw [if_neg hc] at hm
        refine lv_aload_n (pc := 116) hx hb dX7_advance_116 rfl (lv_at hl 1 rfl) ?_
        obtain ⟨r14, hcl, hm⟩ := bd hm
        refine cw_mask (ws' := (wd_X7_advance k w this this_signs this_signs_f this_length u_this_place r14.1 r14.2.1 u_this_number r14.2.2.1 r14.2.2.2 this_fault)) (run_V (pc := 117) (n := 0) (As := []) (rest := []) ⟨hx, hb, hml, hown, hts⟩ ((c_X7_takeInWord l D k w this this_signs this_signs_f this_length u_this_place u_this_behind u_this_sort u_this_number u_this_letters 0 this_fault r14 hcl) H.size) ⟨kw_422, kw_2, by decide +kernel⟩ kw_419 kw_421 ks_17 ⟨Nat.le_of_ble_eq_true rfl, Nat.le_of_ble_eq_true rfl⟩ pwe_blind (prWe hE hS hA (P_pick [true, true] rfl hP) hG (D_pick [true, true] rfl hD)) (va_recv hG.1 hP (ci := 6) (q0 := 0) rfl rfl) rfl hl.1 rfl (Nat.le_of_ble_eq_true rfl) dX7_advance_117 ⟨Nat.zero_le _, Nat.zero_le _⟩) hP hD hS hA [true, true] rfl rfl rfl (fun H locs hP hD hS => ?_)
        refine lv_goto (tgt := 165) (pc := 120) hx hb dX7_advance_120 (by decide) ?_
        rw [← Option.some.inj hm]
        exact W.vret hx hb hr (fun t ht _ => hq _ _ H t ht hP hD locs hS) hS.2.2 dX7_advance_165 hlocks
    · rw [if_neg hc] at hm
      refine lv_aload_n (pc := 93) hx hb dX7_advance_93 rfl (lv_at hl 1 rfl) ?_
      refine lv_iconst (v := 0) (pc := 94) hx hb dX7_advance_94 (by decide) ?_
      refine va_put (pc := 95) (D := D) (ci := 6) (v := .int 0) (ty := .int) (C := RX7) (T := TX7) (N := 9) hx hb hts hiX7 tyX7 tyX7_ok nmX7 hown hG.1 hP hD hS 0 rfl rfl 4 (Nat.le_of_ble_eq_true rfl) (hts _ kw_49) (fun _ h9 => h9) rfl (by decide +kernel) rfl rfl (Nat.le_of_ble_eq_true rfl) dX7_advance_95 (fun H locs hP hD hS => ?_)
      have hP : va_P D vwCl (wd_X7_advance k w this this_signs this_signs_f this_length u_this_place u_this_behind 0 u_this_number u_this_letters 0 this_fault) H := hP
      have hD : va_D A (wd_X7_advance k w this this_signs this_signs_f this_length u_this_place u_this_behind 0 u_this_number u_this_letters 0 this_fault) := hD
      refine lv_aload_n (pc := 98) hx hb dX7_advance_98 rfl (lv_at hl 1 rfl) ?_
      refine lv_aload_n (pc := 99) hx hb dX7_advance_99 rfl (lv_at hl 1 rfl) ?_
      refine va_get (pc := 100) (D := D) (ci := 6) (C := RX7) (T := TX7) (N := 9) hx hb hts hiX7 hown hG.1 hP 0 rfl rfl 2 (Nat.le_of_ble_eq_true rfl) (hts _ kw_47) (fun _ h9 => h9) rfl dX7_advance_100 ?_
      refine va_put (pc := 103) (D := D) (ci := 6) (v := .int u_this_place) (ty := .int) (C := RX7) (T := TX7) (N := 9) hx hb hts hiX7 tyX7 tyX7_ok nmX7 hown hG.1 hP hD hS 0 rfl rfl 3 (Nat.le_of_ble_eq_true rfl) (hts _ kw_48) (fun _ h9 => h9) rfl (by decide +kernel) rfl rfl (Nat.le_of_ble_eq_true rfl) dX7_advance_103 (fun H locs hP hD hS => ?_)
      have hP : va_P D vwCl (wd_X7_advance k w this this_signs this_signs_f this_length u_this_place u_this_place 0 u_this_number u_this_letters 0 this_fault) H := hP
      have hD : va_D A (wd_X7_advance k w this this_signs this_signs_f this_length u_this_place u_this_place 0 u_this_number u_this_letters 0 this_fault) := hD
      refine lv_goto (tgt := 165) (pc := 106) hx hb dX7_advance_106 (by decide) ?_
      rw [← Option.some.inj hm]
      exact W.vret hx hb hr (fun t ht _ => hq _ _ H t ht hP hD locs hS) hS.2.2 dX7_advance_165 hlocks
  have h_53 : ∀ (K16 : Int32 → Int32 → Int32 → Int32 → Int64 → Nat → Option (Int32 × Int32 × Int32 × Int32 × Int64 × Nat)) (hK16 : ∀ (u_this_place : Int32) (u_this_behind : Int32) (u_this_sort : Int32) (u_this_number : Int32) (u_this_letters : Int64) (u_this_word : Nat) (H : Heap) (locs : List Loc) (ls : Array Slot), va_P D vwCl (wd_X7_advance k w this this_signs this_signs_f this_length u_this_place u_this_behind u_this_sort u_this_number u_this_letters u_this_word this_fault) H → va_D A (wd_X7_advance k w this this_signs this_signs_f this_length u_this_place u_this_behind u_this_sort u_this_number u_this_letters u_this_word this_fault) → va_S A s.heap H locs → lv_has ls 2 [(0, .ref this)] → K16 u_this_place u_this_behind u_this_sort u_this_number u_this_letters u_this_word = some R0 → W p l e (Rm 4 91) s m args below meth c H locs 0 0 (MQ below (QW D none (wd_X7_advance k w this this_signs this_signs_f this_length this_place this_behind this_sort this_number this_letters this_word this_fault) (wd_X7_advance k w this this_signs this_signs_f this_length R0.1 R0.2.1 R0.2.2.1 R0.2.2.2.1 R0.2.2.2.2.1 R0.2.2.2.2.2 this_fault) s.heap.size) args s 0 0 A) (F0 m 16 ls [])), ∀ (u_this_place : Int32) (u_this_behind : Int32) (u_this_sort : Int32) (u_this_number : Int32) (u_this_letters : Int64) (u_this_word : Nat) (H : Heap) (locs : List Loc) (ls : Array Slot), va_P D vwCl (wd_X7_advance k w this this_signs this_signs_f this_length u_this_place u_this_behind u_this_sort u_this_number u_this_letters u_this_word this_fault) H → va_D A (wd_X7_advance k w this this_signs this_signs_f this_length u_this_place u_this_behind u_this_sort u_this_number u_this_letters u_this_word this_fault) → va_S A s.heap H locs → lv_has ls 2 [(0, .ref this)] → m_X7_advance_53 this_signs_f this_length this_fault K16 u_this_place u_this_behind u_this_sort u_this_number u_this_letters u_this_word = some R0 → W p l e (Rm 4 91) s m args below meth c H locs 0 0 (MQ below (QW D none (wd_X7_advance k w this this_signs this_signs_f this_length this_place this_behind this_sort this_number this_letters this_word this_fault) (wd_X7_advance k w this this_signs this_signs_f this_length R0.1 R0.2.1 R0.2.2.1 R0.2.2.2.1 R0.2.2.2.2.1 R0.2.2.2.2.2 this_fault) s.heap.size) args s 0 0 A) (F0 m 53 ls []) := by
    intro K16 hK16 u_this_place u_this_behind u_this_sort u_this_number u_this_letters u_this_word H locs ls hP hD hS hl hm
    unfold m_X7_advance_53 at hm
    refine lv_aload_n (pc := 53) hx hb dX7_advance_53 rfl (lv_at hl 0 rfl) ?_
    refine lv_dup (pc := 54) hx hb dX7_advance_54 rfl ?_
    refine va_get (pc := 55) (D := D) (ci := 6) (C := RX7) (T := TX7) (N := 9) hx hb hts hiX7 hown hG.1 hP 0 rfl rfl 2 (Nat.le_of_ble_eq_true rfl) (hts _ kw_47) (fun _ h9 => h9) rfl dX7_advance_55 ?_
    refine lv_iconst (v := 1) (pc := 58) hx hb dX7_advance_58 (by decide) ?_
    refine lv_iadd (pc := 59) hx hb dX7_advance_59 ?_
    refine va_put (pc := 60) (D := D) (ci := 6) (v := .int (u_this_place + 1)) (ty := .int) (C := RX7) (T := TX7) (N := 9) hx hb hts hiX7 tyX7 tyX7_ok nmX7 hown hG.1 hP hD hS 0 rfl rfl 2 (Nat.le_of_ble_eq_true rfl) (hts _ kw_47) (fun _ h9 => h9) rfl (by decide +kernel) rfl rfl (Nat.le_of_ble_eq_true rfl) dX7_advance_60 (fun H locs hP hD hS => ?_)
    have hP : va_P D vwCl (wd_X7_advance k w this this_signs this_signs_f this_length (u_this_place + 1) u_this_behind u_this_sort u_this_number u_this_letters u_this_word this_fault) H := hP
    have hD : va_D A (wd_X7_advance k w this this_signs this_signs_f this_length (u_this_place + 1) u_this_behind u_this_sort u_this_number u_this_letters u_this_word this_fault) := hD
    refine lv_goto (tgt := 16) (pc := 63) hx hb dX7_advance_63 (by decide) ?_
    exact hK16 (u_this_place + 1) u_this_behind u_this_sort u_this_number u_this_letters u_this_word H locs ls hP hD hS (lv_sub hl [0] rfl) hm
  have h_16 : ∀ (n : Nat), ∀ (u_this_place : Int32) (u_this_behind : Int32) (u_this_sort : Int32) (u_this_number : Int32) (u_this_letters : Int64) (u_this_word : Nat) (H : Heap) (locs : List Loc) (ls : Array Slot), va_P D vwCl (wd_X7_advance k w this this_signs this_signs_f this_length u_this_place u_this_behind u_this_sort u_this_number u_this_letters u_this_word this_fault) H → va_D A (wd_X7_advance k w this this_signs this_signs_f this_length u_this_place u_this_behind u_this_sort u_this_number u_this_letters u_this_word this_fault) → va_S A s.heap H locs → lv_has ls 2 [(0, .ref this)] → m_X7_advance_16 this_signs_f this_length this_fault n u_this_place u_this_behind u_this_sort u_this_number u_this_letters u_this_word = some R0 → W p l e (Rm 4 91) s m args below meth c H locs 0 0 (MQ below (QW D none (wd_X7_advance k w this this_signs this_signs_f this_length this_place this_behind this_sort this_number this_letters this_word this_fault) (wd_X7_advance k w this this_signs this_signs_f this_length R0.1 R0.2.1 R0.2.2.1 R0.2.2.2.1 R0.2.2.2.2.1 R0.2.2.2.2.2 this_fault) s.heap.size) args s 0 0 A) (F0 m 16 ls []) := by
    intro n
    induction n with
    | zero => intro u_this_place u_this_behind u_this_sort u_this_number u_this_letters u_this_word H locs ls hP hD hS hl hm; cases hm
    | succ n ih =>
      intro u_this_place u_this_behind u_this_sort u_this_number u_this_letters u_this_word H locs ls hP hD hS hl hm
      unfold m_X7_advance_16 at hm
      refine lv_aload_n (pc := 16) hx hb dX7_advance_16 rfl (lv_at hl 0 rfl) ?_
      refine va_get (pc := 17) (D := D) (ci := 6) (C := RX7) (T := TX7) (N := 9) hx hb hts hiX7 hown hG.1 hP 0 rfl rfl 2 (Nat.le_of_ble_eq_true rfl) (hts _ kw_47) (fun _ h9 => h9) rfl dX7_advance_17 ?_
      refine lv_aload_n (pc := 20) hx hb dX7_advance_20 rfl (lv_at hl 0 rfl) ?_
      refine va_get (pc := 21) (D := D) (ci := 6) (C := RX7) (T := TX7) (N := 9) hx hb hts hiX7 hown hG.1 hP 0 rfl rfl 1 (Nat.le_of_ble_eq_true rfl) (hts _ kw_46) (fun _ h9 => h9) rfl dX7_advance_21 ?_
      refine lv_icmp_ge (tgt := 66) (pc := 24) hx hb dX7_advance_24 (by decide) (fun hc => ?_) (fun hc => ?_)
      · rw [if_pos hc] at hm
        exact h_66 u_this_place u_this_behind u_this_sort u_this_number u_this_letters u_this_word H locs ls hP hD hS (lv_sub hl [0] rfl) hm
      · rw [if_neg hc] at hm
        refine lv_aload_n (pc := 27) hx hb dX7_advance_27 rfl (lv_at hl 0 rfl) ?_
        refine lv_aload_n (pc := 28) hx hb dX7_advance_28 rfl (lv_at hl 0 rfl) ?_
        refine va_get (pc := 29) (D := D) (ci := 6) (C := RX7) (T := TX7) (N := 9) hx hb hts hiX7 hown hG.1 hP 0 rfl rfl 2 (Nat.le_of_ble_eq_true rfl) (hts _ kw_47) (fun _ h9 => h9) rfl dX7_advance_29 ?_
        obtain ⟨r15, hcl, hm⟩ := bd hm
        refine cr_back (run_V (pc := 32) (n := 1) (As := [.int u_this_place]) (rest := []) ⟨hx, hb, hml, hown, hts⟩ (c_X7_signAt l D k w this this_signs this_signs_f this_length u_this_place u_this_behind u_this_sort u_this_number u_this_letters u_this_word this_fault u_this_place r15 hcl) ⟨kw_415, kw_2, by decide +kernel⟩ kw_412 kw_414 ks_16 ⟨Nat.le_of_ble_eq_true rfl, Nat.le_of_ble_eq_true rfl⟩ pre_blind (prRe hE hS (hP.sub [0, 1] rfl) hG) (va_recv hG.1 hP (ci := 6) (q0 := 0) rfl rfl) rfl hl.1 rfl (Nat.le_of_ble_eq_true rfl) dX7_advance_32 ⟨Nat.zero_le _, Nat.zero_le _⟩) ?_
        refine lv_bipush (v := 32) (pc := 35) hx hb dX7_advance_35 (by decide) ?_
        refine lv_icmp_eq (tgt := 53) (pc := 37) hx hb dX7_advance_37 (by decide) (fun hc => ?_) (fun hc => ?_)
        · rw [if_pos hc] at hm
          exact h_53 (m_X7_advance_16 this_signs_f this_length this_fault n) ih u_this_place u_this_behind u_this_sort u_this_number u_this_letters u_this_word H locs ls hP hD hS (lv_sub hl [0] rfl) hm
        · rw [if_neg hc] at hm
          refine lv_aload_n (pc := 40) hx hb dX7_advance_40 rfl (lv_at hl 0 rfl) ?_
          refine lv_aload_n (pc := 41) hx hb dX7_advance_41 rfl (lv_at hl 0 rfl) ?_
          refine va_get (pc := 42) (D := D) (ci := 6) (C := RX7) (T := TX7) (N := 9) hx hb hts hiX7 hown hG.1 hP 0 rfl rfl 2 (Nat.le_of_ble_eq_true rfl) (hts _ kw_47) (fun _ h9 => h9) rfl dX7_advance_42 ?_
          obtain ⟨r16, hcl, hm⟩ := bd hm
          refine cr_back (run_V (pc := 45) (n := 1) (As := [.int u_this_place]) (rest := []) ⟨hx, hb, hml, hown, hts⟩ (c_X7_signAt l D k w this this_signs this_signs_f this_length u_this_place u_this_behind u_this_sort u_this_number u_this_letters u_this_word this_fault u_this_place r16 hcl) ⟨kw_415, kw_2, by decide +kernel⟩ kw_412 kw_414 ks_16 ⟨Nat.le_of_ble_eq_true rfl, Nat.le_of_ble_eq_true rfl⟩ pre_blind (prRe hE hS (hP.sub [0, 1] rfl) hG) (va_recv hG.1 hP (ci := 6) (q0 := 0) rfl rfl) rfl hl.1 rfl (Nat.le_of_ble_eq_true rfl) dX7_advance_45 ⟨Nat.zero_le _, Nat.zero_le _⟩) ?_
          refine lv_bipush (v := 10) (pc := 48) hx hb dX7_advance_48 (by decide) ?_
          refine lv_icmp_ne (tgt := 66) (pc := 50) hx hb dX7_advance_50 (by decide) (fun hc => ?_) (fun hc => ?_)
          · rw [if_neg hc] at hm
            exact h_66 u_this_place u_this_behind u_this_sort u_this_number u_this_letters u_this_word H locs ls hP hD hS (lv_sub hl [0] rfl) hm
          · rw [if_pos hc] at hm
            exact h_53 (m_X7_advance_16 this_signs_f this_length this_fault n) ih u_this_place u_this_behind u_this_sort u_this_number u_this_letters u_this_word H locs ls hP hD hS (lv_sub hl [0] rfl) hm
  unfold m_X7_advance at hm
  suffices hgo : ∀ (H : Heap) (locs : List Loc), va_P D vwCl (wd_X7_advance k w this this_signs this_signs_f this_length this_place this_behind this_sort this_number this_letters this_word this_fault) H → va_D A (wd_X7_advance k w this this_signs this_signs_f this_length this_place this_behind this_sort this_number this_letters this_word this_fault) → va_S A s.heap H locs → W p l e (Rm 4 91) s m args below meth c H locs 0 0 (MQ below (QW D none (wd_X7_advance k w this this_signs this_signs_f this_length this_place this_behind this_sort this_number this_letters this_word this_fault) (wd_X7_advance k w this this_signs this_signs_f this_length R0.1 R0.2.1 R0.2.2.1 R0.2.2.2.1 R0.2.2.2.2.1 R0.2.2.2.2.2 this_fault) s.heap.size) args s 0 0 A) (F0 m 0 ls []) from hgo _ _ hP hD hS
  clear hP hD hS
  intro H locs hP hD hS
  refine lv_aload_n (pc := 0) hx hb dX7_advance_0 rfl (lv_at hl 0 rfl) ?_
  refine va_get (pc := 1) (D := D) (ci := 6) (C := RX7) (T := TX7) (N := 9) hx hb hts hiX7 hown hG.1 hP 0 rfl rfl 8 (Nat.le_of_ble_eq_true rfl) (hts _ kw_58) (fun _ h9 => h9) rfl dX7_advance_1 ?_
  refine lv_if_eq (tgt := 8) (pc := 4) hx hb dX7_advance_4 (by decide) (fun hc => ?_) (fun hc => ?_)
  · rw [if_pos hc] at hm
    refine lv_aload_n (pc := 8) hx hb dX7_advance_8 rfl (lv_at hl 0 rfl) ?_
    refine lv_aload_n (pc := 9) hx hb dX7_advance_9 rfl (lv_at hl 0 rfl) ?_
    refine va_get (pc := 10) (D := D) (ci := 6) (C := RX7) (T := TX7) (N := 9) hx hb hts hiX7 hown hG.1 hP 0 rfl rfl 3 (Nat.le_of_ble_eq_true rfl) (hts _ kw_48) (fun _ h9 => h9) rfl dX7_advance_10 ?_
    refine va_put (pc := 13) (D := D) (ci := 6) (v := .int this_behind) (ty := .int) (C := RX7) (T := TX7) (N := 9) hx hb hts hiX7 tyX7 tyX7_ok nmX7 hown hG.1 hP hD hS 0 rfl rfl 2 (Nat.le_of_ble_eq_true rfl) (hts _ kw_47) (fun _ h9 => h9) rfl (by decide +kernel) rfl rfl (Nat.le_of_ble_eq_true rfl) dX7_advance_13 (fun H locs hP hD hS => ?_)
    have hP : va_P D vwCl (wd_X7_advance k w this this_signs this_signs_f this_length this_behind this_behind this_sort this_number this_letters this_word this_fault) H := hP
    have hD : va_D A (wd_X7_advance k w this this_signs this_signs_f this_length this_behind this_behind this_sort this_number this_letters this_word this_fault) := hD
    exact h_16 FU this_behind this_behind this_sort this_number this_letters this_word H locs ls hP hD hS (lv_sub hl [0] rfl) hm
  · rw [if_neg hc] at hm
    rw [← Option.some.inj hm]
    exact W.vret hx hb hr (fun t ht _ => hq _ _ H t ht hP hD locs hS) hS.2.2 dX7_advance_7 hlocks
theorem dX7_rewind_0 : decode cX7_rewind 0 = .ok (.aload_n 0, 1) := by decide +kernel
theorem dX7_rewind_1 : decode cX7_rewind 1 = .ok (.iconst 0, 1) := by decide +kernel
theorem dX7_rewind_2 : decode cX7_rewind 2 = .ok (.putfield 32, 3) := by decide +kernel
theorem dX7_rewind_5 : decode cX7_rewind 5 = .ok (.aload_n 0, 1) := by decide +kernel
theorem dX7_rewind_6 : decode cX7_rewind 6 = .ok (.iconst 0, 1) := by decide +kernel
theorem dX7_rewind_7 : decode cX7_rewind 7 = .ok (.putfield 35, 3) := by decide +kernel
theorem dX7_rewind_10 : decode cX7_rewind 10 = .ok (.aload_n 0, 1) := by decide +kernel
theorem dX7_rewind_11 : decode cX7_rewind 11 = .ok (.invokevirtual 38, 3) := by decide +kernel
theorem dX7_rewind_14 : decode cX7_rewind 14 = .ok (.return_, 1) := by decide +kernel
abbrev wd_X7_rewind (k : Nat → ClassId) (w : Nat → Nat) (this : Nat) (this_signs : Nat) (this_signs_f : Nat → Int32) (this_length : Int32) (this_place : Int32) (this_behind : Int32) (this_sort : Int32) (this_number : Int32) (this_letters : Int64) (this_word : Nat) (this_fault : Int32) : va_W := [(this, .inr (6, [.ref this_signs, .int this_length, .int this_place, .int this_behind, .int this_sort, .int this_number, .long this_letters, .ref (w this_word), .int this_fault])), (this_signs, .inl (k 2, 1000, .inl this_signs_f))]
set_option maxHeartbeats 4000000 in
set_option maxRecDepth 100000 in
theorem c_X7_rewind (l : Launch) (D : va_G) (k : Nat → ClassId) (w : Nat → Nat) (this : Nat) (this_signs : Nat) (this_signs_f : Nat → Int32) (this_length : Int32) (this_place : Int32) (this_behind : Int32) (this_sort : Int32) (this_number : Int32) (this_letters : Int64) (this_word : Nat) (this_fault : Int32) (R0 : Int32 × Int32 × Int32 × Int32 × Int64 × Nat × Int32) (hm : m_X7_rewind this_signs_f this_length this_place this_sort this_number this_letters this_word = some R0) : CWe w l D (TY k) yX7_rewind cX7_rewind 1 none 5 112 [.ref this] (wd_X7_rewind k w this this_signs this_signs_f this_length this_place this_behind this_sort this_number this_letters this_word this_fault) none (wd_X7_rewind k w this this_signs this_signs_f this_length R0.1 R0.2.1 R0.2.2.1 R0.2.2.2.1 R0.2.2.2.2.1 R0.2.2.2.2.2.1 R0.2.2.2.2.2.2) := by
  refine CWe.mk (by decide) (Nat.le_of_ble_eq_true rfl) ?_
  intro p e s m args below meth c ls A ⟨hx, hb, hr, hts, hown, hlocks, hml⟩ hP hG hE hD hA hl hS hq
  have hl : lv_has ls 1 [(0, .ref this)] := hl
  unfold m_X7_rewind at hm
  suffices hgo : ∀ (H : Heap) (locs : List Loc), va_P D vwCl (wd_X7_rewind k w this this_signs this_signs_f this_length this_place this_behind this_sort this_number this_letters this_word this_fault) H → va_D A (wd_X7_rewind k w this this_signs this_signs_f this_length this_place this_behind this_sort this_number this_letters this_word this_fault) → va_S A s.heap H locs → W p l e (Rm 5 112) s m args below meth c H locs 0 0 (MQ below (QW D none (wd_X7_rewind k w this this_signs this_signs_f this_length this_place this_behind this_sort this_number this_letters this_word this_fault) (wd_X7_rewind k w this this_signs this_signs_f this_length R0.1 R0.2.1 R0.2.2.1 R0.2.2.2.1 R0.2.2.2.2.1 R0.2.2.2.2.2.1 R0.2.2.2.2.2.2) s.heap.size) args s 0 0 A) (F0 m 0 ls []) from hgo _ _ hP hD hS
  clear hP hD hS
  intro H locs hP hD hS
  refine lv_aload_n (pc := 0) hx hb dX7_rewind_0 rfl (lv_at hl 0 rfl) ?_
  refine lv_iconst (v := 0) (pc := 1) hx hb dX7_rewind_1 (by decide) ?_
  refine va_put (pc := 2) (D := D) (ci := 6) (v := .int 0) (ty := .int) (C := RX7) (T := TX7) (N := 9) hx hb hts hiX7 tyX7 tyX7_ok nmX7 hown hG.1 hP hD hS 0 rfl rfl 3 (Nat.le_of_ble_eq_true rfl) (hts _ kw_48) (fun _ h9 => h9) rfl (by decide +kernel) rfl rfl (Nat.le_of_ble_eq_true rfl) dX7_rewind_2 (fun H locs hP hD hS => ?_)
  have hP : va_P D vwCl (wd_X7_rewind k w this this_signs this_signs_f this_length this_place 0 this_sort this_number this_letters this_word this_fault) H := hP
  have hD : va_D A (wd_X7_rewind k w this this_signs this_signs_f this_length this_place 0 this_sort this_number this_letters this_word this_fault) := hD
  refine lv_aload_n (pc := 5) hx hb dX7_rewind_5 rfl (lv_at hl 0 rfl) ?_
  refine lv_iconst (v := 0) (pc := 6) hx hb dX7_rewind_6 (by decide) ?_
  refine va_put (pc := 7) (D := D) (ci := 6) (v := .int 0) (ty := .int) (C := RX7) (T := TX7) (N := 9) hx hb hts hiX7 tyX7 tyX7_ok nmX7 hown hG.1 hP hD hS 0 rfl rfl 8 (Nat.le_of_ble_eq_true rfl) (hts _ kw_58) (fun _ h9 => h9) rfl (by decide +kernel) rfl rfl (Nat.le_of_ble_eq_true rfl) dX7_rewind_7 (fun H locs hP hD hS => ?_)
  have hP : va_P D vwCl (wd_X7_rewind k w this this_signs this_signs_f this_length this_place 0 this_sort this_number this_letters this_word 0) H := hP
  have hD : va_D A (wd_X7_rewind k w this this_signs this_signs_f this_length this_place 0 this_sort this_number this_letters this_word 0) := hD
  refine lv_aload_n (pc := 10) hx hb dX7_rewind_10 rfl (lv_at hl 0 rfl) ?_
  obtain ⟨r2, hcl, hm⟩ := bd hm
  refine cw_mask (ws' := (wd_X7_rewind k w this this_signs this_signs_f this_length r2.1 r2.2.1 r2.2.2.1 r2.2.2.2.1 r2.2.2.2.2.1 r2.2.2.2.2.2 0)) (run_V (pc := 11) (n := 0) (As := []) (rest := []) ⟨hx, hb, hml, hown, hts⟩ ((c_X7_advance l D k w this this_signs this_signs_f this_length this_place 0 this_sort this_number this_letters this_word 0 r2 hcl) H.size) ⟨kw_411, kw_2, by decide +kernel⟩ kw_408 kw_410 ks_15 ⟨Nat.le_of_ble_eq_true rfl, Nat.le_of_ble_eq_true rfl⟩ pwe_blind (prWe hE hS hA (P_pick [true, true] rfl hP) hG (D_pick [true, true] rfl hD)) (va_recv hG.1 hP (ci := 6) (q0 := 0) rfl rfl) rfl hl.1 rfl (Nat.le_of_ble_eq_true rfl) dX7_rewind_11 ⟨Nat.zero_le _, Nat.zero_le _⟩) hP hD hS hA [true, true] rfl rfl rfl (fun H locs hP hD hS => ?_)
  rw [← Option.some.inj hm]
  exact W.vret hx hb hr (fun t ht _ => hq _ _ H t ht hP hD locs hS) hS.2.2 dX7_rewind_14 hlocks
theorem dX7_takeSign_0 : decode cX7_takeSign 0 = .ok (.aload_n 0, 1) := by decide +kernel
theorem dX7_takeSign_1 : decode cX7_takeSign 1 = .ok (.iload_n 1, 1) := by decide +kernel
theorem dX7_takeSign_2 : decode cX7_takeSign 2 = .ok (.invokevirtual 89, 3) := by decide +kernel
theorem dX7_takeSign_5 : decode cX7_takeSign 5 = .ok (.ifCond .eq 10, 3) := by decide +kernel
theorem dX7_takeSign_8 : decode cX7_takeSign 8 = .ok (.aload_n 0, 1) := by decide +kernel
theorem dX7_takeSign_9 : decode cX7_takeSign 9 = .ok (.invokevirtual 38, 3) := by decide +kernel
theorem dX7_takeSign_12 : decode cX7_takeSign 12 = .ok (.goto 8, 3) := by decide +kernel
theorem dX7_takeSign_15 : decode cX7_takeSign 15 = .ok (.aload_n 0, 1) := by decide +kernel
theorem dX7_takeSign_16 : decode cX7_takeSign 16 = .ok (.iconst 1, 1) := by decide +kernel
theorem dX7_takeSign_17 : decode cX7_takeSign 17 = .ok (.invokevirtual 92, 3) := by decide +kernel
theorem dX7_takeSign_20 : decode cX7_takeSign 20 = .ok (.return_, 1) := by decide +kernel
abbrev wd_X7_takeSign (k : Nat → ClassId) (w : Nat → Nat) (this : Nat) (this_signs : Nat) (this_signs_f : Nat → Int32) (this_length : Int32) (this_place : Int32) (this_behind : Int32) (this_sort : Int32) (this_number : Int32) (this_letters : Int64) (this_word : Nat) (this_fault : Int32) : va_W := [(this, .inr (6, [.ref this_signs, .int this_length, .int this_place, .int this_behind, .int this_sort, .int this_number, .long this_letters, .ref (w this_word), .int this_fault])), (this_signs, .inl (k 2, 1000, .inl this_signs_f))]
set_option maxHeartbeats 4000000 in
set_option maxRecDepth 100000 in
theorem c_X7_takeSign (l : Launch) (D : va_G) (k : Nat → ClassId) (w : Nat → Nat) (this : Nat) (this_signs : Nat) (this_signs_f : Nat → Int32) (this_length : Int32) (this_place : Int32) (this_behind : Int32) (this_sort : Int32) (this_number : Int32) (this_letters : Int64) (this_word : Nat) (this_fault : Int32) (sign : Int32) (R0 : Int32 × Int32 × Int32 × Int32 × Int64 × Nat × Int32) (hm : m_X7_takeSign this_signs_f this_length this_place this_behind this_sort this_number this_letters this_word this_fault sign = some R0) : CWe w l D (TY k) yX7_takeSign cX7_takeSign 2 none 5 112 [.ref this, .int sign] (wd_X7_takeSign k w this this_signs this_signs_f this_length this_place this_behind this_sort this_number this_letters this_word this_fault) none (wd_X7_takeSign k w this this_signs this_signs_f this_length R0.1 R0.2.1 R0.2.2.1 R0.2.2.2.1 R0.2.2.2.2.1 R0.2.2.2.2.2.1 R0.2.2.2.2.2.2) := by
  refine CWe.mk (by decide) (Nat.le_of_ble_eq_true rfl) ?_
  intro p e s m args below meth c ls A ⟨hx, hb, hr, hts, hown, hlocks, hml⟩ hP hG hE hD hA hl hS hq
  have hl : lv_has ls 2 [(0, .ref this), (1, .int sign)] := hl
  unfold m_X7_takeSign at hm
  suffices hgo : ∀ (H : Heap) (locs : List Loc), va_P D vwCl (wd_X7_takeSign k w this this_signs this_signs_f this_length this_place this_behind this_sort this_number this_letters this_word this_fault) H → va_D A (wd_X7_takeSign k w this this_signs this_signs_f this_length this_place this_behind this_sort this_number this_letters this_word this_fault) → va_S A s.heap H locs → W p l e (Rm 5 112) s m args below meth c H locs 0 0 (MQ below (QW D none (wd_X7_takeSign k w this this_signs this_signs_f this_length this_place this_behind this_sort this_number this_letters this_word this_fault) (wd_X7_takeSign k w this this_signs this_signs_f this_length R0.1 R0.2.1 R0.2.2.1 R0.2.2.2.1 R0.2.2.2.2.1 R0.2.2.2.2.2.1 R0.2.2.2.2.2.2) s.heap.size) args s 0 0 A) (F0 m 0 ls []) from hgo _ _ hP hD hS
  clear hP hD hS
  intro H locs hP hD hS
  refine lv_aload_n (pc := 0) hx hb dX7_takeSign_0 rfl (lv_at hl 0 rfl) ?_
  refine lv_iload_n (pc := 1) hx hb dX7_takeSign_1 rfl (lv_at hl 1 rfl) ?_
  obtain ⟨r4, hcl, hm⟩ := bd hm
  refine cr_back (run_V (pc := 2) (n := 1) (As := [.int sign]) (rest := []) ⟨hx, hb, hml, hown, hts⟩ (c_X7_atSign l D k w this this_signs this_signs_f this_length this_place this_behind this_sort this_number this_letters this_word this_fault sign r4 hcl) ⟨kw_657, kw_2, by decide +kernel⟩ kw_665 kw_656 ks_41 ⟨Nat.le_of_ble_eq_true rfl, Nat.le_of_ble_eq_true rfl⟩ pre_blind (prRe hE hS (hP.sub [0, 1] rfl) hG) (va_recv hG.1 hP (ci := 6) (q0 := 0) rfl rfl) rfl hl.1 rfl (Nat.le_of_ble_eq_true rfl) dX7_takeSign_2 ⟨Nat.zero_le _, Nat.zero_le _⟩) ?_
  refine lv_if_eq (tgt := 15) (pc := 5) hx hb dX7_takeSign_5 (by decide) (fun hc => ?_) (fun hc => ?_)
  · rw [if_pos hc] at hm
    refine lv_aload_n (pc := 15) hx hb dX7_takeSign_15 rfl (lv_at hl 0 rfl) ?_
    refine lv_iconst (v := 1) (pc := 16) hx hb dX7_takeSign_16 (by decide) ?_
    obtain ⟨r5, hcl, hm⟩ := bd hm
    refine cw_mask (ws' := (wd_X7_takeSign k w this this_signs this_signs_f this_length this_place this_behind r5.1 this_number this_letters r5.2.1 r5.2.2)) (run_V (pc := 17) (n := 1) (As := [.int 1]) (rest := []) ⟨hx, hb, hml, hown, hts⟩ ((c_X7_refuse l D k w this this_signs this_length this_place this_behind this_sort this_number this_letters this_word this_fault 1 r5 hcl) H.size) ⟨kw_545, kw_2, by decide +kernel⟩ kw_575 kw_544 ks_22 ⟨Nat.le_of_ble_eq_true rfl, Nat.le_of_ble_eq_true rfl⟩ pwe_blind (prWe hE hS hA (P_pick [true] rfl hP) hG (D_pick [true] rfl hD)) (va_recv hG.1 hP (ci := 6) (q0 := 0) rfl rfl) rfl hl.1 rfl (Nat.le_of_ble_eq_true rfl) dX7_takeSign_17 ⟨Nat.zero_le _, Nat.zero_le _⟩) hP hD hS hA [true] rfl rfl rfl (fun H locs hP hD hS => ?_)
    rw [← Option.some.inj hm]
    exact W.vret hx hb hr (fun t ht _ => hq _ _ H t ht hP hD locs hS) hS.2.2 dX7_takeSign_20 hlocks
  · rw [if_neg hc] at hm
    refine lv_aload_n (pc := 8) hx hb dX7_takeSign_8 rfl (lv_at hl 0 rfl) ?_
    obtain ⟨r6, hcl, hm⟩ := bd hm
    refine cw_mask (ws' := (wd_X7_takeSign k w this this_signs this_signs_f this_length r6.1 r6.2.1 r6.2.2.1 r6.2.2.2.1 r6.2.2.2.2.1 r6.2.2.2.2.2 this_fault)) (run_V (pc := 9) (n := 0) (As := []) (rest := []) ⟨hx, hb, hml, hown, hts⟩ ((c_X7_advance l D k w this this_signs this_signs_f this_length this_place this_behind this_sort this_number this_letters this_word this_fault r6 hcl) H.size) ⟨kw_411, kw_2, by decide +kernel⟩ kw_408 kw_410 ks_15 ⟨Nat.le_of_ble_eq_true rfl, Nat.le_of_ble_eq_true rfl⟩ pwe_blind (prWe hE hS hA (P_pick [true, true] rfl hP) hG (D_pick [true, true] rfl hD)) (va_recv hG.1 hP (ci := 6) (q0 := 0) rfl rfl) rfl hl.1 rfl (Nat.le_of_ble_eq_true rfl) dX7_takeSign_9 ⟨Nat.zero_le _, Nat.zero_le _⟩) hP hD hS hA [true, true] rfl rfl rfl (fun H locs hP hD hS => ?_)
    refine lv_goto (tgt := 20) (pc := 12) hx hb dX7_takeSign_12 (by decide) ?_
    rw [← Option.some.inj hm]
    exact W.vret hx hb hr (fun t ht _ => hq _ _ H t ht hP hD locs hS) hS.2.2 dX7_takeSign_20 hlocks
theorem dX7_takeWord_0 : decode cX7_takeWord 0 = .ok (.aload_n 0, 1) := by decide +kernel
theorem dX7_takeWord_1 : decode cX7_takeWord 1 = .ok (.aload_n 1, 1) := by decide +kernel
theorem dX7_takeWord_2 : decode cX7_takeWord 2 = .ok (.invokevirtual 96, 3) := by decide +kernel
theorem dX7_takeWord_5 : decode cX7_takeWord 5 = .ok (.ifCond .eq 10, 3) := by decide +kernel
theorem dX7_takeWord_8 : decode cX7_takeWord 8 = .ok (.aload_n 0, 1) := by decide +kernel
theorem dX7_takeWord_9 : decode cX7_takeWord 9 = .ok (.invokevirtual 38, 3) := by decide +kernel
theorem dX7_takeWord_12 : decode cX7_takeWord 12 = .ok (.goto 8, 3) := by decide +kernel
theorem dX7_takeWord_15 : decode cX7_takeWord 15 = .ok (.aload_n 0, 1) := by decide +kernel
theorem dX7_takeWord_16 : decode cX7_takeWord 16 = .ok (.iconst 1, 1) := by decide +kernel
theorem dX7_takeWord_17 : decode cX7_takeWord 17 = .ok (.invokevirtual 92, 3) := by decide +kernel
theorem dX7_takeWord_20 : decode cX7_takeWord 20 = .ok (.return_, 1) := by decide +kernel
abbrev wd_X7_takeWord (k : Nat → ClassId) (w : Nat → Nat) (this : Nat) (this_signs : Nat) (this_signs_f : Nat → Int32) (this_length : Int32) (this_place : Int32) (this_behind : Int32) (this_sort : Int32) (this_number : Int32) (this_letters : Int64) (this_word : Nat) (this_fault : Int32) : va_W := [(this, .inr (6, [.ref this_signs, .int this_length, .int this_place, .int this_behind, .int this_sort, .int this_number, .long this_letters, .ref (w this_word), .int this_fault])), (this_signs, .inl (k 2, 1000, .inl this_signs_f))]
set_option maxHeartbeats 4000000 in
set_option maxRecDepth 100000 in
theorem c_X7_takeWord (l : Launch) (D : va_G) (k : Nat → ClassId) (w : Nat → Nat) (this : Nat) (this_signs : Nat) (this_signs_f : Nat → Int32) (this_length : Int32) (this_place : Int32) (this_behind : Int32) (this_sort : Int32) (this_number : Int32) (this_letters : Int64) (this_word : Nat) (this_fault : Int32) (wanted : Nat) (R0 : Int32 × Int32 × Int32 × Int32 × Int64 × Nat × Int32) (hm : m_X7_takeWord this_signs_f this_length this_place this_behind this_sort this_number this_letters this_word this_fault wanted = some R0) : CWe w l D (TY k) yX7_takeWord cX7_takeWord 2 none 5 112 [.ref this, .ref (w wanted)] (wd_X7_takeWord k w this this_signs this_signs_f this_length this_place this_behind this_sort this_number this_letters this_word this_fault) none (wd_X7_takeWord k w this this_signs this_signs_f this_length R0.1 R0.2.1 R0.2.2.1 R0.2.2.2.1 R0.2.2.2.2.1 R0.2.2.2.2.2.1 R0.2.2.2.2.2.2) := by
  refine CWe.mk (by decide) (Nat.le_of_ble_eq_true rfl) ?_
  intro p e s m args below meth c ls A ⟨hx, hb, hr, hts, hown, hlocks, hml⟩ hP hG hE hD hA hl hS hq
  have hl : lv_has ls 2 [(0, .ref this), (1, .ref (w wanted))] := hl
  unfold m_X7_takeWord at hm
  suffices hgo : ∀ (H : Heap) (locs : List Loc), va_P D vwCl (wd_X7_takeWord k w this this_signs this_signs_f this_length this_place this_behind this_sort this_number this_letters this_word this_fault) H → va_D A (wd_X7_takeWord k w this this_signs this_signs_f this_length this_place this_behind this_sort this_number this_letters this_word this_fault) → va_S A s.heap H locs → W p l e (Rm 5 112) s m args below meth c H locs 0 0 (MQ below (QW D none (wd_X7_takeWord k w this this_signs this_signs_f this_length this_place this_behind this_sort this_number this_letters this_word this_fault) (wd_X7_takeWord k w this this_signs this_signs_f this_length R0.1 R0.2.1 R0.2.2.1 R0.2.2.2.1 R0.2.2.2.2.1 R0.2.2.2.2.2.1 R0.2.2.2.2.2.2) s.heap.size) args s 0 0 A) (F0 m 0 ls []) from hgo _ _ hP hD hS
  clear hP hD hS
  intro H locs hP hD hS
  refine lv_aload_n (pc := 0) hx hb dX7_takeWord_0 rfl (lv_at hl 0 rfl) ?_
  refine lv_aload_n (pc := 1) hx hb dX7_takeWord_1 rfl (lv_at hl 1 rfl) ?_
  obtain ⟨r4, hcl, hm⟩ := bd hm
  refine cr_back (run_V (pc := 2) (n := 1) (As := [.ref (w wanted)]) (rest := []) ⟨hx, hb, hml, hown, hts⟩ (c_X7_atWord l D k w this this_signs this_length this_place this_behind this_sort this_number this_letters this_word this_fault wanted r4 hcl) ⟨kw_574, kw_2, by decide +kernel⟩ kw_571 kw_573 ks_27 ⟨Nat.le_of_ble_eq_true rfl, Nat.le_of_ble_eq_true rfl⟩ pre_blind (prRe hE hS (hP.sub [0] rfl) hG) (va_recv hG.1 hP (ci := 6) (q0 := 0) rfl rfl) rfl hl.1 rfl (Nat.le_of_ble_eq_true rfl) dX7_takeWord_2 ⟨Nat.zero_le _, Nat.zero_le _⟩) ?_
  refine lv_if_eq (tgt := 15) (pc := 5) hx hb dX7_takeWord_5 (by decide) (fun hc => ?_) (fun hc => ?_)
  · rw [if_pos hc] at hm
    refine lv_aload_n (pc := 15) hx hb dX7_takeWord_15 rfl (lv_at hl 0 rfl) ?_
    refine lv_iconst (v := 1) (pc := 16) hx hb dX7_takeWord_16 (by decide) ?_
    obtain ⟨r5, hcl, hm⟩ := bd hm
    refine cw_mask (ws' := (wd_X7_takeWord k w this this_signs this_signs_f this_length this_place this_behind r5.1 this_number this_letters r5.2.1 r5.2.2)) (run_V (pc := 17) (n := 1) (As := [.int 1]) (rest := []) ⟨hx, hb, hml, hown, hts⟩ ((c_X7_refuse l D k w this this_signs this_length this_place this_behind this_sort this_number this_letters this_word this_fault 1 r5 hcl) H.size) ⟨kw_545, kw_2, by decide +kernel⟩ kw_575 kw_544 ks_22 ⟨Nat.le_of_ble_eq_true rfl, Nat.le_of_ble_eq_true rfl⟩ pwe_blind (prWe hE hS hA (P_pick [true] rfl hP) hG (D_pick [true] rfl hD)) (va_recv hG.1 hP (ci := 6) (q0 := 0) rfl rfl) rfl hl.1 rfl (Nat.le_of_ble_eq_true rfl) dX7_takeWord_17 ⟨Nat.zero_le _, Nat.zero_le _⟩) hP hD hS hA [true] rfl rfl rfl (fun H locs hP hD hS => ?_)
    rw [← Option.some.inj hm]
    exact W.vret hx hb hr (fun t ht _ => hq _ _ H t ht hP hD locs hS) hS.2.2 dX7_takeWord_20 hlocks
  · rw [if_neg hc] at hm
    refine lv_aload_n (pc := 8) hx hb dX7_takeWord_8 rfl (lv_at hl 0 rfl) ?_
    obtain ⟨r6, hcl, hm⟩ := bd hm
    refine cw_mask (ws' := (wd_X7_takeWord k w this this_signs this_signs_f this_length r6.1 r6.2.1 r6.2.2.1 r6.2.2.2.1 r6.2.2.2.2.1 r6.2.2.2.2.2 this_fault)) (run_V (pc := 9) (n := 0) (As := []) (rest := []) ⟨hx, hb, hml, hown, hts⟩ ((c_X7_advance l D k w this this_signs this_signs_f this_length this_place this_behind this_sort this_number this_letters this_word this_fault r6 hcl) H.size) ⟨kw_411, kw_2, by decide +kernel⟩ kw_408 kw_410 ks_15 ⟨Nat.le_of_ble_eq_true rfl, Nat.le_of_ble_eq_true rfl⟩ pwe_blind (prWe hE hS hA (P_pick [true, true] rfl hP) hG (D_pick [true, true] rfl hD)) (va_recv hG.1 hP (ci := 6) (q0 := 0) rfl rfl) rfl hl.1 rfl (Nat.le_of_ble_eq_true rfl) dX7_takeWord_9 ⟨Nat.zero_le _, Nat.zero_le _⟩) hP hD hS hA [true, true] rfl rfl rfl (fun H locs hP hD hS => ?_)
    refine lv_goto (tgt := 20) (pc := 12) hx hb dX7_takeWord_12 (by decide) ?_
    rw [← Option.some.inj hm]
    exact W.vret hx hb hr (fun t ht _ => hq _ _ H t ht hP hD locs hS) hS.2.2 dX7_takeWord_20 hlocks
theorem dX7_takeNumber_0 : decode cX7_takeNumber 0 = .ok (.aload_n 0, 1) := by decide +kernel
theorem dX7_takeNumber_1 : decode cX7_takeNumber 1 = .ok (.getfield 82, 3) := by decide +kernel
theorem dX7_takeNumber_4 : decode cX7_takeNumber 4 = .ok (.istore_n 3, 1) := by decide +kernel
theorem dX7_takeNumber_5 : decode cX7_takeNumber 5 = .ok (.aload_n 0, 1) := by decide +kernel
theorem dX7_takeNumber_6 : decode cX7_takeNumber 6 = .ok (.invokevirtual 100, 3) := by decide +kernel
theorem dX7_takeNumber_9 : decode cX7_takeNumber 9 = .ok (.ifCond .ne 11, 3) := by decide +kernel
theorem dX7_takeNumber_12 : decode cX7_takeNumber 12 = .ok (.aload_n 0, 1) := by decide +kernel
theorem dX7_takeNumber_13 : decode cX7_takeNumber 13 = .ok (.iconst 1, 1) := by decide +kernel
theorem dX7_takeNumber_14 : decode cX7_takeNumber 14 = .ok (.invokevirtual 92, 3) := by decide +kernel
theorem dX7_takeNumber_17 : decode cX7_takeNumber 17 = .ok (.goto 17, 3) := by decide +kernel
theorem dX7_takeNumber_20 : decode cX7_takeNumber 20 = .ok (.iload_n 3, 1) := by decide +kernel
theorem dX7_takeNumber_21 : decode cX7_takeNumber 21 = .ok (.iload_n 1, 1) := by decide +kernel
theorem dX7_takeNumber_22 : decode cX7_takeNumber 22 = .ok (.iload_n 2, 1) := by decide +kernel
theorem dX7_takeNumber_23 : decode cX7_takeNumber 23 = .ok (.invokestatic 24, 3) := by decide +kernel
theorem dX7_takeNumber_26 : decode cX7_takeNumber 26 = .ok (.ifCond .ne 8, 3) := by decide +kernel
theorem dX7_takeNumber_29 : decode cX7_takeNumber 29 = .ok (.aload_n 0, 1) := by decide +kernel
theorem dX7_takeNumber_30 : decode cX7_takeNumber 30 = .ok (.iconst 4, 1) := by decide +kernel
theorem dX7_takeNumber_31 : decode cX7_takeNumber 31 = .ok (.invokevirtual 92, 3) := by decide +kernel
theorem dX7_takeNumber_34 : decode cX7_takeNumber 34 = .ok (.aload_n 0, 1) := by decide +kernel
theorem dX7_takeNumber_35 : decode cX7_takeNumber 35 = .ok (.invokevirtual 38, 3) := by decide +kernel
theorem dX7_takeNumber_38 : decode cX7_takeNumber 38 = .ok (.iload_n 3, 1) := by decide +kernel
theorem dX7_takeNumber_39 : decode cX7_takeNumber 39 = .ok (.ireturn, 1) := by decide +kernel
abbrev wd_X7_takeNumber (k : Nat → ClassId) (w : Nat → Nat) (this : Nat) (this_signs : Nat) (this_signs_f : Nat → Int32) (this_length : Int32) (this_place : Int32) (this_behind : Int32) (this_sort : Int32) (this_number : Int32) (this_letters : Int64) (this_word : Nat) (this_fault : Int32) : va_W := [(this, .inr (6, [.ref this_signs, .int this_length, .int this_place, .int this_behind, .int this_sort, .int this_number, .long this_letters, .ref (w this_word), .int this_fault])), (this_signs, .inl (k 2, 1000, .inl this_signs_f))]
set_option maxHeartbeats 4000000 in
set_option maxRecDepth 100000 in
theorem c_X7_takeNumber (l : Launch) (D : va_G) (k : Nat → ClassId) (w : Nat → Nat) (this : Nat) (this_signs : Nat) (this_signs_f : Nat → Int32) (this_length : Int32) (this_place : Int32) (this_behind : Int32) (this_sort : Int32) (this_number : Int32) (this_letters : Int64) (this_word : Nat) (this_fault : Int32) (least : Int32) (most : Int32) (R0 : Int32 × Int32 × Int32 × Int32 × Int32 × Int64 × Nat × Int32) (hm : m_X7_takeNumber this_signs_f this_length this_place this_behind this_sort this_number this_letters this_word this_fault least most = some R0) : CWe w l D (TY k) yX7_takeNumber cX7_takeNumber 4 (some .int) 5 112 [.ref this, .int least, .int most] (wd_X7_takeNumber k w this this_signs this_signs_f this_length this_place this_behind this_sort this_number this_letters this_word this_fault) (some (.int R0.1)) (wd_X7_takeNumber k w this this_signs this_signs_f this_length R0.2.1 R0.2.2.1 R0.2.2.2.1 R0.2.2.2.2.1 R0.2.2.2.2.2.1 R0.2.2.2.2.2.2.1 R0.2.2.2.2.2.2.2) := by
  refine CWe.mk (by decide) (Nat.le_of_ble_eq_true rfl) ?_
  intro p e s m args below meth c ls A ⟨hx, hb, hr, hts, hown, hlocks, hml⟩ hP hG hE hD hA hl hS hq
  have hl : lv_has ls 4 [(0, .ref this), (1, .int least), (2, .int most)] := hl
  have h_34 : ∀ (x3 : Int32) (u_this_place : Int32) (u_this_behind : Int32) (u_this_sort : Int32) (u_this_number : Int32) (u_this_letters : Int64) (u_this_word : Nat) (u_this_fault : Int32) (H : Heap) (locs : List Loc) (ls : Array Slot), va_P D vwCl (wd_X7_takeNumber k w this this_signs this_signs_f this_length u_this_place u_this_behind u_this_sort u_this_number u_this_letters u_this_word u_this_fault) H → va_D A (wd_X7_takeNumber k w this this_signs this_signs_f this_length u_this_place u_this_behind u_this_sort u_this_number u_this_letters u_this_word u_this_fault) → va_S A s.heap H locs → lv_has ls 4 [(0, .ref this), (3, .int x3)] → m_X7_takeNumber_34 this_signs_f this_length least most x3 u_this_place u_this_behind u_this_sort u_this_number u_this_letters u_this_word u_this_fault = some R0 → W p l e (Rm 5 112) s m args below meth c H locs 0 0 (MQ below (QW D (some (.int R0.1)) (wd_X7_takeNumber k w this this_signs this_signs_f this_length this_place this_behind this_sort this_number this_letters this_word this_fault) (wd_X7_takeNumber k w this this_signs this_signs_f this_length R0.2.1 R0.2.2.1 R0.2.2.2.1 R0.2.2.2.2.1 R0.2.2.2.2.2.1 R0.2.2.2.2.2.2.1 R0.2.2.2.2.2.2.2) s.heap.size) args s 0 0 A) (F0 m 34 ls []) := by
    intro  x3 u_this_place u_this_behind u_this_sort u_this_number u_this_letters u_this_word u_this_fault H locs ls hP hD hS hl hm
    unfold m_X7_takeNumber_34 at hm
    refine lv_aload_n (pc := 34) hx hb dX7_takeNumber_34 rfl (lv_at hl 0 rfl) ?_
    obtain ⟨r6, hcl, hm⟩ := bd hm
    refine cw_mask (ws' := (wd_X7_takeNumber k w this this_signs this_signs_f this_length r6.1 r6.2.1 r6.2.2.1 r6.2.2.2.1 r6.2.2.2.2.1 r6.2.2.2.2.2 u_this_fault)) (run_V (pc := 35) (n := 0) (As := []) (rest := []) ⟨hx, hb, hml, hown, hts⟩ ((c_X7_advance l D k w this this_signs this_signs_f this_length u_this_place u_this_behind u_this_sort u_this_number u_this_letters u_this_word u_this_fault r6 hcl) H.size) ⟨kw_411, kw_2, by decide +kernel⟩ kw_408 kw_410 ks_15 ⟨Nat.le_of_ble_eq_true rfl, Nat.le_of_ble_eq_true rfl⟩ pwe_blind (prWe hE hS hA (P_pick [true, true] rfl hP) hG (D_pick [true, true] rfl hD)) (va_recv hG.1 hP (ci := 6) (q0 := 0) rfl rfl) rfl hl.1 rfl (Nat.le_of_ble_eq_true rfl) dX7_takeNumber_35 ⟨Nat.zero_le _, Nat.zero_le _⟩) hP hD hS hA [true, true] rfl rfl rfl (fun H locs hP hD hS => ?_)
    refine lv_iload_n (pc := 38) hx hb dX7_takeNumber_38 rfl (lv_at hl 1 rfl) ?_
    rw [← Option.some.inj hm]
    exact W.iret hx hb hr (fun t ht _ => hq _ _ H t ht hP hD locs hS) hS.2.2 dX7_takeNumber_39 hlocks
  unfold m_X7_takeNumber at hm
  suffices hgo : ∀ (H : Heap) (locs : List Loc), va_P D vwCl (wd_X7_takeNumber k w this this_signs this_signs_f this_length this_place this_behind this_sort this_number this_letters this_word this_fault) H → va_D A (wd_X7_takeNumber k w this this_signs this_signs_f this_length this_place this_behind this_sort this_number this_letters this_word this_fault) → va_S A s.heap H locs → W p l e (Rm 5 112) s m args below meth c H locs 0 0 (MQ below (QW D (some (.int R0.1)) (wd_X7_takeNumber k w this this_signs this_signs_f this_length this_place this_behind this_sort this_number this_letters this_word this_fault) (wd_X7_takeNumber k w this this_signs this_signs_f this_length R0.2.1 R0.2.2.1 R0.2.2.2.1 R0.2.2.2.2.1 R0.2.2.2.2.2.1 R0.2.2.2.2.2.2.1 R0.2.2.2.2.2.2.2) s.heap.size) args s 0 0 A) (F0 m 0 ls []) from hgo _ _ hP hD hS
  clear hP hD hS
  intro H locs hP hD hS
  refine lv_aload_n (pc := 0) hx hb dX7_takeNumber_0 rfl (lv_at hl 0 rfl) ?_
  refine va_get (pc := 1) (D := D) (ci := 6) (C := RX7) (T := TX7) (N := 9) hx hb hts hiX7 hown hG.1 hP 0 rfl rfl 5 (Nat.le_of_ble_eq_true rfl) (hts _ kw_50) (fun _ h9 => h9) rfl dX7_takeNumber_1 ?_
  refine lv_istore_n (lv' := [(3, .int this_number), (0, .ref this), (1, .int least), (2, .int most)]) (pc := 4) hx hb dX7_takeNumber_4 rfl hl (Nat.le_of_ble_eq_true rfl) rfl (fun ls hl => ?_)
  refine lv_aload_n (pc := 5) hx hb dX7_takeNumber_5 rfl (lv_at hl 1 rfl) ?_
  obtain ⟨r7, hcl, hm⟩ := bd hm
  refine cr_back (run_V (pc := 6) (n := 0) (As := []) (rest := []) ⟨hx, hb, hml, hown, hts⟩ (c_X7_atNumber l D k w this this_signs this_length this_place this_behind this_sort this_number this_letters this_word this_fault r7 hcl) ⟨kw_583, kw_2, by decide +kernel⟩ kw_580 kw_582 ks_29 ⟨Nat.le_of_ble_eq_true rfl, Nat.le_of_ble_eq_true rfl⟩ pre_blind (prRe hE hS (hP.sub [0] rfl) hG) (va_recv hG.1 hP (ci := 6) (q0 := 0) rfl rfl) rfl hl.1 rfl (Nat.le_of_ble_eq_true rfl) dX7_takeNumber_6 ⟨Nat.zero_le _, Nat.zero_le _⟩) ?_
  refine lv_if_ne (tgt := 20) (pc := 9) hx hb dX7_takeNumber_9 (by decide) (fun hc => ?_) (fun hc => ?_)
  · rw [if_neg hc] at hm
    refine lv_iload_n (pc := 20) hx hb dX7_takeNumber_20 rfl (lv_at hl 0 rfl) ?_
    refine lv_iload_n (pc := 21) hx hb dX7_takeNumber_21 rfl (lv_at hl 2 rfl) ?_
    refine lv_iload_n (pc := 22) hx hb dX7_takeNumber_22 rfl (lv_at hl 3 rfl) ?_
    obtain ⟨r8, hcl, hm⟩ := bd hm
    refine cr_back (run_SN (pc := 23) (n := 3) (As := [.int this_number, .int least, .int most]) (rest := []) ⟨hx, hb, hml, hown, hts⟩ (c_X11_within l D k this_number least most r8 hcl) ⟨kw_394, kw_1, by decide +kernel⟩ hG kn_392 kw_393 ⟨Nat.le_of_ble_eq_true rfl, Nat.le_of_ble_eq_true rfl⟩ pr_blind (prR (hP.sub [] rfl) hG) rfl hl.1 rfl (Nat.le_of_ble_eq_true rfl) dX7_takeNumber_23 ⟨Nat.zero_le _, Nat.zero_le _⟩) ?_
    refine lv_if_ne (tgt := 34) (pc := 26) hx hb dX7_takeNumber_26 (by decide) (fun hc => ?_) (fun hc => ?_)
    · rw [if_neg hc] at hm
      exact h_34 this_number this_place this_behind this_sort this_number this_letters this_word this_fault H locs ls hP hD hS (lv_sub hl [1, 0] rfl) hm
    · rw [if_pos hc] at hm
      refine lv_aload_n (pc := 29) hx hb dX7_takeNumber_29 rfl (lv_at hl 1 rfl) ?_
      refine lv_iconst (v := 4) (pc := 30) hx hb dX7_takeNumber_30 (by decide) ?_
      obtain ⟨r9, hcl, hm⟩ := bd hm
      refine cw_mask (ws' := (wd_X7_takeNumber k w this this_signs this_signs_f this_length this_place this_behind r9.1 this_number this_letters r9.2.1 r9.2.2)) (run_V (pc := 31) (n := 1) (As := [.int 4]) (rest := []) ⟨hx, hb, hml, hown, hts⟩ ((c_X7_refuse l D k w this this_signs this_length this_place this_behind this_sort this_number this_letters this_word this_fault 4 r9 hcl) H.size) ⟨kw_545, kw_2, by decide +kernel⟩ kw_575 kw_544 ks_22 ⟨Nat.le_of_ble_eq_true rfl, Nat.le_of_ble_eq_true rfl⟩ pwe_blind (prWe hE hS hA (P_pick [true] rfl hP) hG (D_pick [true] rfl hD)) (va_recv hG.1 hP (ci := 6) (q0 := 0) rfl rfl) rfl hl.1 rfl (Nat.le_of_ble_eq_true rfl) dX7_takeNumber_31 ⟨Nat.zero_le _, Nat.zero_le _⟩) hP hD hS hA [true] rfl rfl rfl (fun H locs hP hD hS => ?_)
      exact h_34 this_number this_place this_behind r9.1 this_number this_letters r9.2.1 r9.2.2 H locs ls hP hD hS (lv_sub hl [1, 0] rfl) hm
  · rw [if_pos hc] at hm
    refine lv_aload_n (pc := 12) hx hb dX7_takeNumber_12 rfl (lv_at hl 1 rfl) ?_
    refine lv_iconst (v := 1) (pc := 13) hx hb dX7_takeNumber_13 (by decide) ?_
    obtain ⟨r10, hcl, hm⟩ := bd hm
    refine cw_mask (ws' := (wd_X7_takeNumber k w this this_signs this_signs_f this_length this_place this_behind r10.1 this_number this_letters r10.2.1 r10.2.2)) (run_V (pc := 14) (n := 1) (As := [.int 1]) (rest := []) ⟨hx, hb, hml, hown, hts⟩ ((c_X7_refuse l D k w this this_signs this_length this_place this_behind this_sort this_number this_letters this_word this_fault 1 r10 hcl) H.size) ⟨kw_545, kw_2, by decide +kernel⟩ kw_575 kw_544 ks_22 ⟨Nat.le_of_ble_eq_true rfl, Nat.le_of_ble_eq_true rfl⟩ pwe_blind (prWe hE hS hA (P_pick [true] rfl hP) hG (D_pick [true] rfl hD)) (va_recv hG.1 hP (ci := 6) (q0 := 0) rfl rfl) rfl hl.1 rfl (Nat.le_of_ble_eq_true rfl) dX7_takeNumber_14 ⟨Nat.zero_le _, Nat.zero_le _⟩) hP hD hS hA [true] rfl rfl rfl (fun H locs hP hD hS => ?_)
    refine lv_goto (tgt := 34) (pc := 17) hx hb dX7_takeNumber_17 (by decide) ?_
    exact h_34 this_number this_place this_behind r10.1 this_number this_letters r10.2.1 r10.2.2 H locs ls hP hD hS (lv_sub hl [1, 0] rfl) hm
