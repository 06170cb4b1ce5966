theorem dX9_by_0 : decode cX9_by 0 = .ok (.getstatic 124, 3) := by decide +kernel
theorem dX9_by_3 : decode cX9_by 3 = .ok (.astore_n 2, 1) := by decide +kernel
theorem dX9_by_4 : decode cX9_by 4 = .ok (.aload_n 2, 1) := by decide +kernel
theorem dX9_by_5 : decode cX9_by 5 = .ok (.arraylength, 1) := by decide +kernel
theorem dX9_by_6 : decode cX9_by 6 = .ok (.istore_n 3, 1) := by decide +kernel
theorem dX9_by_7 : decode cX9_by 7 = .ok (.iconst 0, 1) := by decide +kernel
theorem dX9_by_8 : decode cX9_by 8 = .ok (.istore 4, 2) := by decide +kernel
theorem dX9_by_10 : decode cX9_by 10 = .ok (.iload 4, 2) := by decide +kernel
theorem dX9_by_12 : decode cX9_by 12 = .ok (.iload_n 3, 1) := by decide +kernel
theorem dX9_by_13 : decode cX9_by 13 = .ok (.if_icmp .ge 28, 3) := by decide +kernel
theorem dX9_by_16 : decode cX9_by 16 = .ok (.aload_n 2, 1) := by decide +kernel
theorem dX9_by_17 : decode cX9_by 17 = .ok (.iload 4, 2) := by decide +kernel
theorem dX9_by_19 : decode cX9_by 19 = .ok (.aaload, 1) := by decide +kernel
theorem dX9_by_20 : decode cX9_by 20 = .ok (.astore 5, 2) := by decide +kernel
theorem dX9_by_22 : decode cX9_by 22 = .ok (.aload 5, 2) := by decide +kernel
theorem dX9_by_24 : decode cX9_by 24 = .ok (.getfield 116, 3) := by decide +kernel
theorem dX9_by_27 : decode cX9_by 27 = .ok (.lload_n 0, 1) := by decide +kernel
theorem dX9_by_28 : decode cX9_by 28 = .ok (.lcmp, 1) := by decide +kernel
theorem dX9_by_29 : decode cX9_by 29 = .ok (.ifCond .ne 6, 3) := by decide +kernel
theorem dX9_by_32 : decode cX9_by 32 = .ok (.aload 5, 2) := by decide +kernel
theorem dX9_by_34 : decode cX9_by 34 = .ok (.areturn, 1) := by decide +kernel
theorem dX9_by_35 : decode cX9_by 35 = .ok (.iinc 4 1, 3) := by decide +kernel
theorem dX9_by_38 : decode cX9_by 38 = .ok (.goto (-28), 3) := by decide +kernel
theorem dX9_by_41 : decode cX9_by 41 = .ok (.getstatic 3, 3) := by decide +kernel
theorem dX9_by_44 : decode cX9_by 44 = .ok (.areturn, 1) := by decide +kernel
abbrev wd_X9_by (k : Nat → ClassId) (w : Nat → Nat) : va_W := []
set_option maxHeartbeats 4000000 in
set_option maxRecDepth 100000 in
theorem c_X9_by (l : Launch) (D : va_G) (k : Nat → ClassId) (w : Nat → Nat) (letters : Int64) (R0 : Nat) (hm : m_X9_by letters = some R0) : CRe w l D (TY k) yX9_by cX9_by 6 (some (.object "HalfMast$Word")) 0 0 [.long letters] (wd_X9_by k w ) (some (.ref (w R0))) := by
  refine CRe.mk (by decide) (Nat.le_of_ble_eq_true rfl) ?_
  intro p e s m args below meth c ls ⟨hx, hb, hr, hts, hown, hlocks, hml⟩ hP hG hE hl
  have hS : va_S (fun _ => False) s.heap s.heap [] := va_S.rf
  have hl : lv_has ls 6 [(0, .long letters)] := hl
  have h_10 : ∀ (n : Nat), ∀ (x0 : Int64) (x3 : Int32) (x4 : Int32) (ls : Array Slot), lv_has ls 6 [(0, .long x0), (2, .ref (w 27)), (3, .int x3), (4, .int x4)] → m_X9_by_10 letters n x0 x3 x4 = some R0 → W p l e (Rm 0 0) s m args below meth c s.heap [] 0 0 (MQ below (QR (some (.ref (w R0)))) args s 0 0 (fun _ => False)) (F0 m 10 ls []) := by
    intro n
    induction n with
    | zero => intro x0 x3 x4 ls hl hm; cases hm
    | succ n ih =>
      intro x0 x3 x4 ls hl hm
      unfold m_X9_by_10 at hm
      refine lv_iload (pc := 10) hx hb dX9_by_10 (lv_at hl 3 rfl) ?_
      refine lv_iload_n (pc := 12) hx hb dX9_by_12 rfl (lv_at hl 2 rfl) ?_
      refine lv_icmp_ge (tgt := 41) (pc := 13) hx hb dX9_by_13 (by decide) (fun hc => ?_) (fun hc => ?_)
      · rw [if_pos hc] at hm
        refine en_static (pc := 41) (own := RX9) hx hb hE hS 0 (Nat.le_of_ble_eq_true rfl) hown (hts _ kw_429) dX9_by_41 ?_
        rw [← Option.some.inj hm]
        exact W.aret hx hb hr (Or.inl ⟨_, rfl⟩) (Or.inr ⟨_, rfl⟩) (fun t ht _ => ⟨rfl, ht⟩) (fun _ h => by cases h) dX9_by_44 hlocks
      · rw [if_neg hc] at hm
        refine lv_aload_n (pc := 16) hx hb dX9_by_16 rfl (lv_at hl 1 rfl) ?_
        refine lv_iload (pc := 17) hx hb dX9_by_17 (lv_at hl 3 rfl) ?_
        obtain ⟨hin, hm⟩ := gd hm
        refine en_allld (pc := 19) hx hb hE hS hin dX9_by_19 ?_
        refine lv_astore (lv' := [(5, .ref (w x4.toNatClampNeg)), (0, .long x0), (2, .ref (w 27)), (3, .int x3), (4, .int x4)]) (pc := 20) hx hb dX9_by_20 hl (Nat.le_of_ble_eq_true rfl) rfl (fun ls hl => ?_)
        refine lv_aload (pc := 22) hx hb dX9_by_22 (lv_at hl 0 rfl) ?_
        obtain ⟨hw, hm⟩ := gd hm
        refine en_let (pc := 24) (own := RX9) hx hb hE hS hw hown (hts _ kw_1769) dX9_by_24 ?_
        refine lv_lload_n (pc := 27) hx hb dX9_by_27 rfl (lv_at hl 1 rfl) ?_
        refine W.lcmp (pc := 28) hx hb dX9_by_28 ?_
        refine lv_if_ne (tgt := 35) (pc := 29) hx hb dX9_by_29 (by decide) (fun hc => ?_) (fun hc => ?_)
        · rw [if_neg hc] at hm
          refine lv_iinc (k := 4) (v := x4 + 1) (lv' := [(4, .int (x4 + 1)), (5, .ref (w x4.toNatClampNeg)), (0, .long x0), (2, .ref (w 27)), (3, .int x3)]) (pc := 35) hx hb dX9_by_35 hl rfl rfl (Nat.le_of_ble_eq_true rfl) rfl (fun ls hl => ?_)
          refine lv_goto (tgt := 10) (pc := 38) hx hb dX9_by_38 (by decide) ?_
          exact ih x0 x3 (x4 + 1) ls (lv_sub hl [2, 3, 4, 0] rfl) hm
        · rw [if_pos hc] at hm
          refine lv_aload (pc := 32) hx hb dX9_by_32 (lv_at hl 0 rfl) ?_
          rw [← Option.some.inj hm]
          exact W.aret hx hb hr (Or.inl ⟨_, rfl⟩) (Or.inr ⟨_, rfl⟩) (fun t ht _ => ⟨rfl, ht⟩) (fun _ h => by cases h) dX9_by_34 hlocks
  unfold m_X9_by at hm
  refine en_all (pc := 0) (own := RX9) hx hb hE hS hown (hts _ kw_427) dX9_by_0 ?_
  refine lv_astore_n (lv' := [(2, .ref (w 27)), (0, .long letters)]) (pc := 3) hx hb dX9_by_3 rfl hl (Nat.le_of_ble_eq_true rfl) rfl (fun ls hl => ?_)
  refine lv_aload_n (pc := 4) hx hb dX9_by_4 rfl (lv_at hl 0 rfl) ?_
  refine en_len (pc := 5) hx hb hE hS dX9_by_5 ?_
  refine lv_istore_n (lv' := [(3, .int 27), (2, .ref (w 27)), (0, .long letters)]) (pc := 6) hx hb dX9_by_6 rfl hl (Nat.le_of_ble_eq_true rfl) rfl (fun ls hl => ?_)
  refine lv_iconst (v := 0) (pc := 7) hx hb dX9_by_7 (by decide) ?_
  refine lv_istore (lv' := [(4, .int 0), (3, .int 27), (2, .ref (w 27)), (0, .long letters)]) (pc := 8) hx hb dX9_by_8 hl (Nat.le_of_ble_eq_true rfl) rfl (fun ls hl => ?_)
  exact h_10 FU letters 27 0 ls (lv_sub hl [3, 2, 1, 0] rfl) hm
theorem dX7_append_0 : decode cX7_append 0 = .ok (.bipush 56, 2) := by decide +kernel
theorem dX7_append_2 : decode cX7_append 2 = .ok (.istore_n 3, 1) := by decide +kernel
theorem dX7_append_3 : decode cX7_append 3 = .ok (.iload_n 3, 1) := by decide +kernel
theorem dX7_append_4 : decode cX7_append 4 = .ok (.ifCond .lt 91, 3) := by decide +kernel
theorem dX7_append_7 : decode cX7_append 7 = .ok (.lload_n 1, 1) := by decide +kernel
theorem dX7_append_8 : decode cX7_append 8 = .ok (.iload_n 3, 1) := by decide +kernel
theorem dX7_append_9 : decode cX7_append 9 = .ok (.lushr, 1) := by decide +kernel
theorem dX7_append_10 : decode cX7_append 10 = .ok (.l2i, 1) := by decide +kernel
theorem dX7_append_11 : decode cX7_append 11 = .ok (.sipush 255, 3) := by decide +kernel
theorem dX7_append_14 : decode cX7_append 14 = .ok (.iand, 1) := by decide +kernel
theorem dX7_append_15 : decode cX7_append 15 = .ok (.istore 4, 2) := by decide +kernel
theorem dX7_append_17 : decode cX7_append 17 = .ok (.iload 4, 2) := by decide +kernel
theorem dX7_append_19 : decode cX7_append 19 = .ok (.bipush 10, 2) := by decide +kernel
theorem dX7_append_21 : decode cX7_append 21 = .ok (.if_icmp .eq 15, 3) := by decide +kernel
theorem dX7_append_24 : decode cX7_append 24 = .ok (.iload 4, 2) := by decide +kernel
theorem dX7_append_26 : decode cX7_append 26 = .ok (.bipush 32, 2) := by decide +kernel
theorem dX7_append_28 : decode cX7_append 28 = .ok (.bipush 126, 2) := by decide +kernel
theorem dX7_append_30 : decode cX7_append 30 = .ok (.invokestatic 24, 3) := by decide +kernel
theorem dX7_append_33 : decode cX7_append 33 = .ok (.ifCond .eq 7, 3) := by decide +kernel
theorem dX7_append_36 : decode cX7_append 36 = .ok (.iconst 1, 1) := by decide +kernel
theorem dX7_append_37 : decode cX7_append 37 = .ok (.goto 4, 3) := by decide +kernel
theorem dX7_append_40 : decode cX7_append 40 = .ok (.iconst 0, 1) := by decide +kernel
theorem dX7_append_41 : decode cX7_append 41 = .ok (.istore 5, 2) := by decide +kernel
theorem dX7_append_43 : decode cX7_append 43 = .ok (.iload 5, 2) := by decide +kernel
theorem dX7_append_45 : decode cX7_append 45 = .ok (.ifCond .eq 44, 3) := by decide +kernel
theorem dX7_append_48 : decode cX7_append 48 = .ok (.aload_n 0, 1) := by decide +kernel
theorem dX7_append_49 : decode cX7_append 49 = .ok (.getfield 28, 3) := by decide +kernel
theorem dX7_append_52 : decode cX7_append 52 = .ok (.ifCond .lt 37, 3) := by decide +kernel
theorem dX7_append_55 : decode cX7_append 55 = .ok (.aload_n 0, 1) := by decide +kernel
theorem dX7_append_56 : decode cX7_append 56 = .ok (.getfield 28, 3) := by decide +kernel
theorem dX7_append_59 : decode cX7_append 59 = .ok (.aload_n 0, 1) := by decide +kernel
theorem dX7_append_60 : decode cX7_append 60 = .ok (.getfield 9, 3) := by decide +kernel
theorem dX7_append_63 : decode cX7_append 63 = .ok (.arraylength, 1) := by decide +kernel
theorem dX7_append_64 : decode cX7_append 64 = .ok (.if_icmp .ge 25, 3) := by decide +kernel
theorem dX7_append_67 : decode cX7_append 67 = .ok (.aload_n 0, 1) := by decide +kernel
theorem dX7_append_68 : decode cX7_append 68 = .ok (.getfield 9, 3) := by decide +kernel
theorem dX7_append_71 : decode cX7_append 71 = .ok (.aload_n 0, 1) := by decide +kernel
theorem dX7_append_72 : decode cX7_append 72 = .ok (.getfield 28, 3) := by decide +kernel
theorem dX7_append_75 : decode cX7_append 75 = .ok (.iload 4, 2) := by decide +kernel
theorem dX7_append_77 : decode cX7_append 77 = .ok (.i2c, 1) := by decide +kernel
theorem dX7_append_78 : decode cX7_append 78 = .ok (.castore, 1) := by decide +kernel
theorem dX7_append_79 : decode cX7_append 79 = .ok (.aload_n 0, 1) := by decide +kernel
theorem dX7_append_80 : decode cX7_append 80 = .ok (.dup, 1) := by decide +kernel
theorem dX7_append_81 : decode cX7_append 81 = .ok (.getfield 28, 3) := by decide +kernel
theorem dX7_append_84 : decode cX7_append 84 = .ok (.iconst 1, 1) := by decide +kernel
theorem dX7_append_85 : decode cX7_append 85 = .ok (.iadd, 1) := by decide +kernel
theorem dX7_append_86 : decode cX7_append 86 = .ok (.putfield 28, 3) := by decide +kernel
theorem dX7_append_89 : decode cX7_append 89 = .ok (.iinc 3 (-8), 3) := by decide +kernel
theorem dX7_append_92 : decode cX7_append 92 = .ok (.goto (-89), 3) := by decide +kernel
theorem dX7_append_95 : decode cX7_append 95 = .ok (.return_, 1) := by decide +kernel
abbrev wd_X7_append (k : Nat → ClassId) (w : Nat → Nat) (this : Nat) (this_signs : Nat) (this_signs_f : Nat → Int32) (this_length : Int32) (this_place : Int32) (this_behind : Int32) (this_sort : Int32) (this_number : Int32) (this_letters : Int64) (this_word : Nat) (this_fault : Int32) : va_W := [(this, .inr (6, [.ref this_signs, .int this_length, .int this_place, .int this_behind, .int this_sort, .int this_number, .long this_letters, .ref (w this_word), .int this_fault])), (this_signs, .inl (k 2, 1000, .inl this_signs_f))]
set_option maxHeartbeats 4000000 in
set_option maxRecDepth 100000 in
theorem c_X7_append (l : Launch) (D : va_G) (k : Nat → ClassId) (w : Nat → Nat) (this : Nat) (this_signs : Nat) (this_signs_f : Nat → Int32) (this_length : Int32) (this_place : Int32) (this_behind : Int32) (this_sort : Int32) (this_number : Int32) (this_letters : Int64) (this_word : Nat) (this_fault : Int32) (bytes : Int64) (R0 : Int32 × (Nat → Int32)) (hm : m_X7_append this_signs_f this_length bytes = some R0) : CWe w l D (TY k) yX7_append cX7_append 6 none 1 22 [.ref this, .long bytes] (wd_X7_append k w this this_signs this_signs_f this_length this_place this_behind this_sort this_number this_letters this_word this_fault) none (wd_X7_append k w this this_signs R0.2 R0.1 this_place this_behind this_sort this_number this_letters this_word this_fault) := by
  refine CWe.mk (by decide) (Nat.le_of_ble_eq_true rfl) ?_
  intro p e s m args below meth c ls A ⟨hx, hb, hr, hts, hown, hlocks, hml⟩ hP hG hE hD hA hl hS hq
  have hl : lv_has ls 6 [(0, .ref this), (1, .long bytes)] := hl
  have h_41 : ∀ (K3 : Int64 → Int32 → Int32 → (Nat → Int32) → Option (Int32 × (Nat → Int32))) (hK3 : ∀ (x1 : Int64) (x3 : Int32) (u_this_length : Int32) (u_this_signs_f : Nat → Int32) (H : Heap) (locs : List Loc) (ls : Array Slot), va_P D vwCl (wd_X7_append k w this this_signs u_this_signs_f u_this_length this_place this_behind this_sort this_number this_letters this_word this_fault) H → va_D A (wd_X7_append k w this this_signs u_this_signs_f u_this_length this_place this_behind this_sort this_number this_letters this_word this_fault) → va_S A s.heap H locs → lv_has ls 6 [(0, .ref this), (1, .long x1), (3, .int x3)] → K3 x1 x3 u_this_length u_this_signs_f = some R0 → W p l e (Rm 1 22) s m args below meth c H locs 0 0 (MQ below (QW D none (wd_X7_append k w this this_signs this_signs_f this_length this_place this_behind this_sort this_number this_letters this_word this_fault) (wd_X7_append k w this this_signs R0.2 R0.1 this_place this_behind this_sort this_number this_letters this_word this_fault) s.heap.size) args s 0 0 A) (F0 m 3 ls [])), ∀ (x1 : Int64) (x3 : Int32) (x4 : Int32) (t0 : Int32) (u_this_length : Int32) (u_this_signs_f : Nat → Int32) (H : Heap) (locs : List Loc) (ls : Array Slot), va_P D vwCl (wd_X7_append k w this this_signs u_this_signs_f u_this_length this_place this_behind this_sort this_number this_letters this_word this_fault) H → va_D A (wd_X7_append k w this this_signs u_this_signs_f u_this_length this_place this_behind this_sort this_number this_letters this_word this_fault) → va_S A s.heap H locs → lv_has ls 6 [(0, .ref this), (1, .long x1), (3, .int x3), (4, .int x4)] → m_X7_append_41 bytes K3 x1 x3 x4 t0 u_this_length u_this_signs_f = some R0 → W p l e (Rm 1 22) s m args below meth c H locs 0 0 (MQ below (QW D none (wd_X7_append k w this this_signs this_signs_f this_length this_place this_behind this_sort this_number this_letters this_word this_fault) (wd_X7_append k w this this_signs R0.2 R0.1 this_place this_behind this_sort this_number this_letters this_word this_fault) s.heap.size) args s 0 0 A) (F0 m 41 ls [.int t0]) := by
    intro K3 hK3 x1 x3 x4 t0 u_this_length u_this_signs_f H locs ls hP hD hS hl hm
    unfold m_X7_append_41 at hm
    refine lv_istore (lv' := [(5, .int t0), (0, .ref this), (1, .long x1), (3, .int x3), (4, .int x4)]) (pc := 41) hx hb dX7_append_41 hl (Nat.le_of_ble_eq_true rfl) rfl (fun ls hl => ?_)
    refine lv_iload (pc := 43) hx hb dX7_append_43 (lv_at hl 0 rfl) ?_
    refine lv_if_eq (tgt := 89) (pc := 45) hx hb dX7_append_45 (by decide) (fun hc => ?_) (fun hc => ?_)
    · rw [if_pos hc] at hm
      refine lv_iinc (k := 3) (v := x3 + (-8)) (lv' := [(3, .int (x3 + (-8))), (5, .int t0), (0, .ref this), (1, .long x1), (4, .int x4)]) (pc := 89) hx hb dX7_append_89 hl rfl rfl (Nat.le_of_ble_eq_true rfl) rfl (fun ls hl => ?_)
      refine lv_goto (tgt := 3) (pc := 92) hx hb dX7_append_92 (by decide) ?_
      exact hK3 x1 (x3 + (-8)) u_this_length u_this_signs_f H locs ls hP hD hS (lv_sub hl [2, 3, 0] rfl) hm
    · rw [if_neg hc] at hm
      refine lv_aload_n (pc := 48) hx hb dX7_append_48 rfl (lv_at hl 1 rfl) ?_
      refine va_get (pc := 49) (D := D) (ci := 6) (C := RX7) (T := TX7) (N := 9) hx hb hts hiX7 hown hG.1 hP 0 rfl rfl 1 (Nat.le_of_ble_eq_true rfl) (hts _ kw_46) (fun _ h9 => h9) rfl dX7_append_49 ?_
      refine lv_if_lt (tgt := 89) (pc := 52) hx hb dX7_append_52 (by decide) (fun hc => ?_) (fun hc => ?_)
      · rw [if_pos hc] at hm
        refine lv_iinc (k := 3) (v := x3 + (-8)) (lv' := [(3, .int (x3 + (-8))), (5, .int t0), (0, .ref this), (1, .long x1), (4, .int x4)]) (pc := 89) hx hb dX7_append_89 hl rfl rfl (Nat.le_of_ble_eq_true rfl) rfl (fun ls hl => ?_)
        refine lv_goto (tgt := 3) (pc := 92) hx hb dX7_append_92 (by decide) ?_
        exact hK3 x1 (x3 + (-8)) u_this_length u_this_signs_f H locs ls hP hD hS (lv_sub hl [2, 3, 0] rfl) hm
      · rw [if_neg hc] at hm
        refine lv_aload_n (pc := 55) hx hb dX7_append_55 rfl (lv_at hl 1 rfl) ?_
        refine va_get (pc := 56) (D := D) (ci := 6) (C := RX7) (T := TX7) (N := 9) hx hb hts hiX7 hown hG.1 hP 0 rfl rfl 1 (Nat.le_of_ble_eq_true rfl) (hts _ kw_46) (fun _ h9 => h9) rfl dX7_append_56 ?_
        refine lv_aload_n (pc := 59) hx hb dX7_append_59 rfl (lv_at hl 1 rfl) ?_
        refine va_get (pc := 60) (D := D) (ci := 6) (C := RX7) (T := TX7) (N := 9) hx hb hts hiX7 hown hG.1 hP 0 rfl rfl 0 (Nat.le_of_ble_eq_true rfl) (hts _ kw_44) (fun _ h9 => h9) rfl dX7_append_60 ?_
        refine va_alen (pc := 63) (D := D) (v := 1000) hx hb hG.1 hP 1 2 rfl rfl rfl dX7_append_63 ?_
        refine lv_icmp_ge (tgt := 89) (pc := 64) hx hb dX7_append_64 (by decide) (fun hc => ?_) (fun hc => ?_)
        · rw [if_pos hc] at hm
          refine lv_iinc (k := 3) (v := x3 + (-8)) (lv' := [(3, .int (x3 + (-8))), (5, .int t0), (0, .ref this), (1, .long x1), (4, .int x4)]) (pc := 89) hx hb dX7_append_89 hl rfl rfl (Nat.le_of_ble_eq_true rfl) rfl (fun ls hl => ?_)
          refine lv_goto (tgt := 3) (pc := 92) hx hb dX7_append_92 (by decide) ?_
          exact hK3 x1 (x3 + (-8)) u_this_length u_this_signs_f H locs ls hP hD hS (lv_sub hl [2, 3, 0] rfl) hm
        · rw [if_neg hc] at hm
          refine lv_aload_n (pc := 67) hx hb dX7_append_67 rfl (lv_at hl 1 rfl) ?_
          refine va_get (pc := 68) (D := D) (ci := 6) (C := RX7) (T := TX7) (N := 9) hx hb hts hiX7 hown hG.1 hP 0 rfl rfl 0 (Nat.le_of_ble_eq_true rfl) (hts _ kw_44) (fun _ h9 => h9) rfl dX7_append_68 ?_
          refine lv_aload_n (pc := 71) hx hb dX7_append_71 rfl (lv_at hl 1 rfl) ?_
          refine va_get (pc := 72) (D := D) (ci := 6) (C := RX7) (T := TX7) (N := 9) hx hb hts hiX7 hown hG.1 hP 0 rfl rfl 1 (Nat.le_of_ble_eq_true rfl) (hts _ kw_46) (fun _ h9 => h9) rfl dX7_append_72 ?_
          refine lv_iload (pc := 75) hx hb dX7_append_75 (lv_at hl 4 rfl) ?_
          refine lv_i2c (pc := 77) hx hb dX7_append_77 rfl ?_
          obtain ⟨hin, hm⟩ := gd hm
          refine va_cast (pc := 78) (D := D) hx hb hG.1 hP hD hS 1 2 rfl rfl hin dX7_append_78 (fun H locs hP hD hS => ?_)
          have hP : va_P D vwCl (wd_X7_append k w this this_signs (upd u_this_signs_f u_this_length.toNatClampNeg (vp_nar .char ((x4.toUInt32 % 65536).toInt32))) u_this_length this_place this_behind this_sort this_number this_letters this_word this_fault) H := hP
          have hD : va_D A (wd_X7_append k w this this_signs (upd u_this_signs_f u_this_length.toNatClampNeg (vp_nar .char ((x4.toUInt32 % 65536).toInt32))) u_this_length this_place this_behind this_sort this_number this_letters this_word this_fault) := hD
          refine lv_aload_n (pc := 79) hx hb dX7_append_79 rfl (lv_at hl 1 rfl) ?_
          refine lv_dup (pc := 80) hx hb dX7_append_80 rfl ?_
          refine va_get (pc := 81) (D := D) (ci := 6) (C := RX7) (T := TX7) (N := 9) hx hb hts hiX7 hown hG.1 hP 0 rfl rfl 1 (Nat.le_of_ble_eq_true rfl) (hts _ kw_46) (fun _ h9 => h9) rfl dX7_append_81 ?_
          refine lv_iconst (v := 1) (pc := 84) hx hb dX7_append_84 (by decide) ?_
          refine lv_iadd (pc := 85) hx hb dX7_append_85 ?_
          refine va_put (pc := 86) (D := D) (ci := 6) (v := .int (u_this_length + 1)) (ty := .int) (C := RX7) (T := TX7) (N := 9) hx hb hts hiX7 tyX7 tyX7_ok nmX7 hown hG.1 hP hD hS 0 rfl rfl 1 (Nat.le_of_ble_eq_true rfl) (hts _ kw_46) (fun _ h9 => h9) rfl (by decide +kernel) rfl rfl (Nat.le_of_ble_eq_true rfl) dX7_append_86 (fun H locs hP hD hS => ?_)
          have hP : va_P D vwCl (wd_X7_append k w this this_signs (upd u_this_signs_f u_this_length.toNatClampNeg (vp_nar .char ((x4.toUInt32 % 65536).toInt32))) (u_this_length + 1) this_place this_behind this_sort this_number this_letters this_word this_fault) H := hP
          have hD : va_D A (wd_X7_append k w this this_signs (upd u_this_signs_f u_this_length.toNatClampNeg (vp_nar .char ((x4.toUInt32 % 65536).toInt32))) (u_this_length + 1) this_place this_behind this_sort this_number this_letters this_word this_fault) := hD
          refine lv_iinc (k := 3) (v := x3 + (-8)) (lv' := [(3, .int (x3 + (-8))), (5, .int t0), (0, .ref this), (1, .long x1), (4, .int x4)]) (pc := 89) hx hb dX7_append_89 hl rfl rfl (Nat.le_of_ble_eq_true rfl) rfl (fun ls hl => ?_)
          refine lv_goto (tgt := 3) (pc := 92) hx hb dX7_append_92 (by decide) ?_
          exact hK3 x1 (x3 + (-8)) (u_this_length + 1) (upd u_this_signs_f u_this_length.toNatClampNeg (vp_nar .char ((x4.toUInt32 % 65536).toInt32))) H locs ls hP hD hS (lv_sub hl [2, 3, 0] rfl) hm
  have h_36 : ∀ (K3 : Int64 → Int32 → Int32 → (Nat → Int32) → Option (Int32 × (Nat → Int32))) (hK3 : ∀ (x1 : Int64) (x3 : Int32) (u_this_length : Int32) (u_this_signs_f : Nat → Int32) (H : Heap) (locs : List Loc) (ls : Array Slot), va_P D vwCl (wd_X7_append k w this this_signs u_this_signs_f u_this_length this_place this_behind this_sort this_number this_letters this_word this_fault) H → va_D A (wd_X7_append k w this this_signs u_this_signs_f u_this_length this_place this_behind this_sort this_number this_letters this_word this_fault) → va_S A s.heap H locs → lv_has ls 6 [(0, .ref this), (1, .long x1), (3, .int x3)] → K3 x1 x3 u_this_length u_this_signs_f = some R0 → W p l e (Rm 1 22) s m args below meth c H locs 0 0 (MQ below (QW D none (wd_X7_append k w this this_signs this_signs_f this_length this_place this_behind this_sort this_number this_letters this_word this_fault) (wd_X7_append k w this this_signs R0.2 R0.1 this_place this_behind this_sort this_number this_letters this_word this_fault) s.heap.size) args s 0 0 A) (F0 m 3 ls [])), ∀ (x1 : Int64) (x3 : Int32) (x4 : Int32) (u_this_length : Int32) (u_this_signs_f : Nat → Int32) (H : Heap) (locs : List Loc) (ls : Array Slot), va_P D vwCl (wd_X7_append k w this this_signs u_this_signs_f u_this_length this_place this_behind this_sort this_number this_letters this_word this_fault) H → va_D A (wd_X7_append k w this this_signs u_this_signs_f u_this_length this_place this_behind this_sort this_number this_letters this_word this_fault) → va_S A s.heap H locs → lv_has ls 6 [(0, .ref this), (1, .long x1), (3, .int x3), (4, .int x4)] → m_X7_append_36 bytes K3 x1 x3 x4 u_this_length u_this_signs_f = some R0 → W p l e (Rm 1 22) s m args below meth c H locs 0 0 (MQ below (QW D none (wd_X7_append k w this this_signs this_signs_f this_length this_place this_behind this_sort this_number this_letters this_word this_fault) (wd_X7_append k w this this_signs R0.2 R0.1 this_place this_behind this_sort this_number this_letters this_word this_fault) s.heap.size) args s 0 0 A) (F0 m 36 ls []) := by
    intro K3 hK3 x1 x3 x4 u_this_length u_this_signs_f H locs ls hP hD hS hl hm
    unfold m_X7_append_36 at hm
    refine lv_iconst (v := 1) (pc := 36) hx hb dX7_append_36 (by decide) ?_
    refine lv_goto (tgt := 41) (pc := 37) hx hb dX7_append_37 (by decide) ?_
    exact h_41 K3 hK3 x1 x3 x4 1 u_this_length u_this_signs_f H locs ls hP hD hS (lv_sub hl [0, 1, 2, 3] rfl) hm
  have h_3 : ∀ (n : Nat), ∀ (x1 : Int64) (x3 : Int32) (u_this_length : Int32) (u_this_signs_f : Nat → Int32) (H : Heap) (locs : List Loc) (ls : Array Slot), va_P D vwCl (wd_X7_append k w this this_signs u_this_signs_f u_this_length this_place this_behind this_sort this_number this_letters this_word this_fault) H → va_D A (wd_X7_append k w this this_signs u_this_signs_f u_this_length this_place this_behind this_sort this_number this_letters this_word this_fault) → va_S A s.heap H locs → lv_has ls 6 [(0, .ref this), (1, .long x1), (3, .int x3)] → m_X7_append_3 bytes n x1 x3 u_this_length u_this_signs_f = some R0 → W p l e (Rm 1 22) s m args below meth c H locs 0 0 (MQ below (QW D none (wd_X7_append k w this this_signs this_signs_f this_length this_place this_behind this_sort this_number this_letters this_word this_fault) (wd_X7_append k w this this_signs R0.2 R0.1 this_place this_behind this_sort this_number this_letters this_word this_fault) s.heap.size) args s 0 0 A) (F0 m 3 ls []) := by
    intro n
    induction n with
    | zero => intro x1 x3 u_this_length u_this_signs_f H locs ls hP hD hS hl hm; cases hm
    | succ n ih =>
      intro x1 x3 u_this_length u_this_signs_f H locs ls hP hD hS hl hm
      unfold m_X7_append_3 at hm
      refine lv_iload_n (pc := 3) hx hb dX7_append_3 rfl (lv_at hl 2 rfl) ?_
      refine lv_if_lt (tgt := 95) (pc := 4) hx hb dX7_append_4 (by decide) (fun hc => ?_) (fun hc => ?_)
      · rw [if_pos hc] at hm
        rw [← Option.some.inj hm]
        exact W.vret hx hb hr (fun t ht _ => hq _ _ H t ht hP hD locs hS) hS.2.2 dX7_append_95 hlocks
      · rw [if_neg hc] at hm
        refine lv_lload_n (pc := 7) hx hb dX7_append_7 rfl (lv_at hl 1 rfl) ?_
        refine lv_iload_n (pc := 8) hx hb dX7_append_8 rfl (lv_at hl 2 rfl) ?_
        refine lv_lushr (pc := 9) hx hb dX7_append_9 rfl ?_
        refine lv_l2i (pc := 10) hx hb dX7_append_10 rfl ?_
        refine lv_sipush (v := 255) (pc := 11) hx hb dX7_append_11 (by decide) ?_
        refine lv_iand (pc := 14) hx hb dX7_append_14 ?_
        obtain ⟨z3, hv, hm⟩ := bd hm
        refine lv_topi (fun w ew => ?_)
        obtain rfl : z3 = w := (Option.some.inj hv).symm.trans ew.symm
        refine lv_istore (lv' := [(4, .int z3), (0, .ref this), (1, .long x1), (3, .int x3)]) (pc := 15) hx hb dX7_append_15 hl (Nat.le_of_ble_eq_true rfl) rfl (fun ls hl => ?_)
        refine lv_iload (pc := 17) hx hb dX7_append_17 (lv_at hl 0 rfl) ?_
        refine lv_bipush (v := 10) (pc := 19) hx hb dX7_append_19 (by decide) ?_
        refine lv_icmp_eq (tgt := 36) (pc := 21) hx hb dX7_append_21 (by decide) (fun hc => ?_) (fun hc => ?_)
        · rw [if_pos hc] at hm
          exact h_36 (m_X7_append_3 bytes n) ih x1 x3 z3 u_this_length u_this_signs_f H locs ls hP hD hS (lv_sub hl [1, 2, 3, 0] rfl) hm
        · rw [if_neg hc] at hm
          refine lv_iload (pc := 24) hx hb dX7_append_24 (lv_at hl 0 rfl) ?_
          refine lv_bipush (v := 32) (pc := 26) hx hb dX7_append_26 (by decide) ?_
          refine lv_bipush (v := 126) (pc := 28) hx hb dX7_append_28 (by decide) ?_
          obtain ⟨r4, hcl, hm⟩ := bd hm
          refine cr_back (run_SN (pc := 30) (n := 3) (As := [.int z3, .int 32, .int 126]) (rest := []) ⟨hx, hb, hml, hown, hts⟩ (c_X11_within l D k z3 32 126 r4 hcl) ⟨kw_394, kw_1, by decide +kernel⟩ hG kn_392 kw_393 ⟨Nat.le_of_ble_eq_true rfl, Nat.le_of_ble_eq_true rfl⟩ pr_blind (prR (hP.sub [] rfl) hG) rfl hl.1 rfl (Nat.le_of_ble_eq_true rfl) dX7_append_30 ⟨Nat.zero_le _, Nat.zero_le _⟩) ?_
          refine lv_if_eq (tgt := 40) (pc := 33) hx hb dX7_append_33 (by decide) (fun hc => ?_) (fun hc => ?_)
          · rw [if_pos hc] at hm
            refine lv_iconst (v := 0) (pc := 40) hx hb dX7_append_40 (by decide) ?_
            exact h_41 (m_X7_append_3 bytes n) ih x1 x3 z3 0 u_this_length u_this_signs_f H locs ls hP hD hS (lv_sub hl [1, 2, 3, 0] rfl) hm
          · rw [if_neg hc] at hm
            exact h_36 (m_X7_append_3 bytes n) ih x1 x3 z3 u_this_length u_this_signs_f H locs ls hP hD hS (lv_sub hl [1, 2, 3, 0] rfl) hm
  unfold m_X7_append at hm
  suffices hgo : ∀ (H : Heap) (locs : List Loc), va_P D vwCl (wd_X7_append k w this this_signs this_signs_f this_length this_place this_behind this_sort this_number this_letters this_word this_fault) H → va_D A (wd_X7_append k w this this_signs this_signs_f this_length this_place this_behind this_sort this_number this_letters this_word this_fault) → va_S A s.heap H locs → W p l e (Rm 1 22) s m args below meth c H locs 0 0 (MQ below (QW D none (wd_X7_append k w this this_signs this_signs_f this_length this_place this_behind this_sort this_number this_letters this_word this_fault) (wd_X7_append k w this this_signs R0.2 R0.1 this_place this_behind this_sort this_number this_letters this_word this_fault) s.heap.size) args s 0 0 A) (F0 m 0 ls []) from hgo _ _ hP hD hS
  clear hP hD hS
  intro H locs hP hD hS
  refine lv_bipush (v := 56) (pc := 0) hx hb dX7_append_0 (by decide) ?_
  refine lv_istore_n (lv' := [(3, .int 56), (0, .ref this), (1, .long bytes)]) (pc := 2) hx hb dX7_append_2 rfl hl (Nat.le_of_ble_eq_true rfl) rfl (fun ls hl => ?_)
  exact h_3 FU bytes 56 this_length this_signs_f H locs ls hP hD hS (lv_sub hl [1, 2, 0] rfl) hm
theorem dX7_clear_0 : decode cX7_clear 0 = .ok (.aload_n 0, 1) := by decide +kernel
theorem dX7_clear_1 : decode cX7_clear 1 = .ok (.iconst 0, 1) := by decide +kernel
theorem dX7_clear_2 : decode cX7_clear 2 = .ok (.putfield 28, 3) := by decide +kernel
theorem dX7_clear_5 : decode cX7_clear 5 = .ok (.return_, 1) := by decide +kernel
abbrev wd_X7_clear (k : Nat → ClassId) (w : Nat → Nat) (this : Nat) (this_signs : Nat) (this_length : Int32) (this_place : Int32) (this_behind : Int32) (this_sort : Int32) (this_number : Int32) (this_letters : Int64) (this_word : Nat) (this_fault : Int32) : va_W := [(this, .inr (6, [.ref this_signs, .int this_length, .int this_place, .int this_behind, .int this_sort, .int this_number, .long this_letters, .ref (w this_word), .int this_fault]))]
set_option maxHeartbeats 4000000 in
set_option maxRecDepth 100000 in
theorem c_X7_clear (l : Launch) (D : va_G) (k : Nat → ClassId) (w : Nat → Nat) (this : Nat) (this_signs : Nat) (this_length : Int32) (this_place : Int32) (this_behind : Int32) (this_sort : Int32) (this_number : Int32) (this_letters : Int64) (this_word : Nat) (this_fault : Int32) (R0 : Int32) (hm : m_X7_clear = some R0) : CWe w l D (TY k) yX7_clear cX7_clear 1 none 0 0 [.ref this] (wd_X7_clear k w this this_signs this_length this_place this_behind this_sort this_number this_letters this_word this_fault) none (wd_X7_clear k w this this_signs R0 this_place this_behind this_sort this_number this_letters this_word this_fault) := by
  refine CWe.mk (by decide) (Nat.le_of_ble_eq_true rfl) ?_
  intro p e s m args below meth c ls A ⟨hx, hb, hr, hts, hown, hlocks, hml⟩ hP hG hE hD hA hl hS hq
  have hl : lv_has ls 1 [(0, .ref this)] := hl
  unfold m_X7_clear at hm
  suffices hgo : ∀ (H : Heap) (locs : List Loc), va_P D vwCl (wd_X7_clear k w this this_signs this_length this_place this_behind this_sort this_number this_letters this_word this_fault) H → va_D A (wd_X7_clear k w this this_signs this_length this_place this_behind this_sort this_number this_letters this_word this_fault) → va_S A s.heap H locs → W p l e (Rm 0 0) s m args below meth c H locs 0 0 (MQ below (QW D none (wd_X7_clear k w this this_signs this_length this_place this_behind this_sort this_number this_letters this_word this_fault) (wd_X7_clear k w this this_signs R0 this_place this_behind this_sort this_number this_letters this_word this_fault) s.heap.size) args s 0 0 A) (F0 m 0 ls []) from hgo _ _ hP hD hS
  clear hP hD hS
  intro H locs hP hD hS
  refine lv_aload_n (pc := 0) hx hb dX7_clear_0 rfl (lv_at hl 0 rfl) ?_
  refine lv_iconst (v := 0) (pc := 1) hx hb dX7_clear_1 (by decide) ?_
  refine va_put (pc := 2) (D := D) (ci := 6) (v := .int 0) (ty := .int) (C := RX7) (T := TX7) (N := 9) hx hb hts hiX7 tyX7 tyX7_ok nmX7 hown hG.1 hP hD hS 0 rfl rfl 1 (Nat.le_of_ble_eq_true rfl) (hts _ kw_46) (fun _ h9 => h9) rfl (by decide +kernel) rfl rfl (Nat.le_of_ble_eq_true rfl) dX7_clear_2 (fun H locs hP hD hS => ?_)
  have hP : va_P D vwCl (wd_X7_clear k w this this_signs 0 this_place this_behind this_sort this_number this_letters this_word this_fault) H := hP
  have hD : va_D A (wd_X7_clear k w this this_signs 0 this_place this_behind this_sort this_number this_letters this_word this_fault) := hD
  rw [← Option.some.inj hm]
  exact W.vret hx hb hr (fun t ht _ => hq _ _ H t ht hP hD locs hS) hS.2.2 dX7_clear_5 hlocks
theorem dX7_signAt_0 : decode cX7_signAt 0 = .ok (.iload_n 1, 1) := by decide +kernel
theorem dX7_signAt_1 : decode cX7_signAt 1 = .ok (.ifCond .lt 29, 3) := by decide +kernel
theorem dX7_signAt_4 : decode cX7_signAt 4 = .ok (.iload_n 1, 1) := by decide +kernel
theorem dX7_signAt_5 : decode cX7_signAt 5 = .ok (.aload_n 0, 1) := by decide +kernel
theorem dX7_signAt_6 : decode cX7_signAt 6 = .ok (.getfield 28, 3) := by decide +kernel
theorem dX7_signAt_9 : decode cX7_signAt 9 = .ok (.if_icmp .ge 21, 3) := by decide +kernel
theorem dX7_signAt_12 : decode cX7_signAt 12 = .ok (.iload_n 1, 1) := by decide +kernel
theorem dX7_signAt_13 : decode cX7_signAt 13 = .ok (.aload_n 0, 1) := by decide +kernel
theorem dX7_signAt_14 : decode cX7_signAt 14 = .ok (.getfield 9, 3) := by decide +kernel
theorem dX7_signAt_17 : decode cX7_signAt 17 = .ok (.arraylength, 1) := by decide +kernel
theorem dX7_signAt_18 : decode cX7_signAt 18 = .ok (.if_icmp .ge 12, 3) := by decide +kernel
theorem dX7_signAt_21 : decode cX7_signAt 21 = .ok (.aload_n 0, 1) := by decide +kernel
theorem dX7_signAt_22 : decode cX7_signAt 22 = .ok (.getfield 9, 3) := by decide +kernel
theorem dX7_signAt_25 : decode cX7_signAt 25 = .ok (.iload_n 1, 1) := by decide +kernel
theorem dX7_signAt_26 : decode cX7_signAt 26 = .ok (.caload, 1) := by decide +kernel
theorem dX7_signAt_27 : decode cX7_signAt 27 = .ok (.goto 4, 3) := by decide +kernel
theorem dX7_signAt_30 : decode cX7_signAt 30 = .ok (.iconst 0, 1) := by decide +kernel
theorem dX7_signAt_31 : decode cX7_signAt 31 = .ok (.ireturn, 1) := by decide +kernel
abbrev wd_X7_signAt (k : Nat → ClassId) (w : Nat → Nat) (this : Nat) (this_signs : Nat) (this_signs_f : Nat → Int32) (this_length : Int32) (this_place : Int32) (this_behind : Int32) (this_sort : Int32) (this_number : Int32) (this_letters : Int64) (this_word : Nat) (this_fault : Int32) : va_W := [(this, .inr (6, [.ref this_signs, .int this_length, .int this_place, .int this_behind, .int this_sort, .int this_number, .long this_letters, .ref (w this_word), .int this_fault])), (this_signs, .inl (k 2, 1000, .inl this_signs_f))]
set_option maxHeartbeats 4000000 in
set_option maxRecDepth 100000 in
theorem c_X7_signAt (l : Launch) (D : va_G) (k : Nat → ClassId) (w : Nat → Nat) (this : Nat) (this_signs : Nat) (this_signs_f : Nat → Int32) (this_length : Int32) (this_place : Int32) (this_behind : Int32) (this_sort : Int32) (this_number : Int32) (this_letters : Int64) (this_word : Nat) (this_fault : Int32) (i : Int32) (R0 : Int32) (hm : m_X7_signAt this_signs_f this_length i = some R0) : CRe w l D (TY k) yX7_signAt cX7_signAt 2 (some .char) 0 0 [.ref this, .int i] (wd_X7_signAt k w this this_signs this_signs_f this_length this_place this_behind this_sort this_number this_letters this_word this_fault) (some (.int R0)) := by
  refine CRe.mk (by decide) (Nat.le_of_ble_eq_true rfl) ?_
  intro p e s m args below meth c ls ⟨hx, hb, hr, hts, hown, hlocks, hml⟩ hP hG hE hl
  have hS : va_S (fun _ => False) s.heap s.heap [] := va_S.rf
  have hl : lv_has ls 2 [(0, .ref this), (1, .int i)] := hl
  unfold m_X7_signAt at hm
  refine lv_iload_n (pc := 0) hx hb dX7_signAt_0 rfl (lv_at hl 1 rfl) ?_
  refine lv_if_lt (tgt := 30) (pc := 1) hx hb dX7_signAt_1 (by decide) (fun hc => ?_) (fun hc => ?_)
  · rw [if_pos hc] at hm
    refine lv_iconst (v := 0) (pc := 30) hx hb dX7_signAt_30 (by decide) ?_
    rw [← Option.some.inj hm]
    exact W.zret hx hb hr rfl (fun t ht _ => ⟨rfl, ht⟩) (fun _ h => by cases h) dX7_signAt_31 hlocks
  · rw [if_neg hc] at hm
    refine lv_iload_n (pc := 4) hx hb dX7_signAt_4 rfl (lv_at hl 1 rfl) ?_
    refine lv_aload_n (pc := 5) hx hb dX7_signAt_5 rfl (lv_at hl 0 rfl) ?_
    refine va_get (pc := 6) (D := D) (ci := 6) (C := RX7) (T := TX7) (N := 9) hx hb hts hiX7 hown hG.1 hP 0 rfl rfl 1 (Nat.le_of_ble_eq_true rfl) (hts _ kw_46) (fun _ h9 => h9) rfl dX7_signAt_6 ?_
    refine lv_icmp_ge (tgt := 30) (pc := 9) hx hb dX7_signAt_9 (by decide) (fun hc => ?_) (fun hc => ?_)
    · rw [if_pos hc] at hm
      refine lv_iconst (v := 0) (pc := 30) hx hb dX7_signAt_30 (by decide) ?_
      rw [← Option.some.inj hm]
      exact W.zret hx hb hr rfl (fun t ht _ => ⟨rfl, ht⟩) (fun _ h => by cases h) dX7_signAt_31 hlocks
    · rw [if_neg hc] at hm
      refine lv_iload_n (pc := 12) hx hb dX7_signAt_12 rfl (lv_at hl 1 rfl) ?_
      refine lv_aload_n (pc := 13) hx hb dX7_signAt_13 rfl (lv_at hl 0 rfl) ?_
      refine va_get (pc := 14) (D := D) (ci := 6) (C := RX7) (T := TX7) (N := 9) hx hb hts hiX7 hown hG.1 hP 0 rfl rfl 0 (Nat.le_of_ble_eq_true rfl) (hts _ kw_44) (fun _ h9 => h9) rfl dX7_signAt_14 ?_
      refine va_alen (pc := 17) (D := D) (v := 1000) hx hb hG.1 hP 1 2 rfl rfl rfl dX7_signAt_17 ?_
      refine lv_icmp_ge (tgt := 30) (pc := 18) hx hb dX7_signAt_18 (by decide) (fun hc => ?_) (fun hc => ?_)
      · rw [if_pos hc] at hm
        refine lv_iconst (v := 0) (pc := 30) hx hb dX7_signAt_30 (by decide) ?_
        rw [← Option.some.inj hm]
        exact W.zret hx hb hr rfl (fun t ht _ => ⟨rfl, ht⟩) (fun _ h => by cases h) dX7_signAt_31 hlocks
      · rw [if_neg hc] at hm
        refine lv_aload_n (pc := 21) hx hb dX7_signAt_21 rfl (lv_at hl 0 rfl) ?_
        refine va_get (pc := 22) (D := D) (ci := 6) (C := RX7) (T := TX7) (N := 9) hx hb hts hiX7 hown hG.1 hP 0 rfl rfl 0 (Nat.le_of_ble_eq_true rfl) (hts _ kw_44) (fun _ h9 => h9) rfl dX7_signAt_22 ?_
        refine lv_iload_n (pc := 25) hx hb dX7_signAt_25 rfl (lv_at hl 1 rfl) ?_
        obtain ⟨hin, hm⟩ := gd hm
        refine va_cald (pc := 26) (D := D) hx hb hG.1 hP 1 2 rfl rfl hin dX7_signAt_26 ?_
        refine lv_goto (tgt := 31) (pc := 27) hx hb dX7_signAt_27 (by decide) ?_
        obtain ⟨hz, hm⟩ := gd hm
        rw [← Option.some.inj hm]
        exact W.zret hx hb hr (congrArg Value.int hz) (fun t ht _ => ⟨rfl, ht⟩) (fun _ h => by cases h) dX7_signAt_31 hlocks
theorem dX7_isLetter_0 : decode cX7_isLetter 0 = .ok (.iload_n 0, 1) := by decide +kernel
theorem dX7_isLetter_1 : decode cX7_isLetter 1 = .ok (.bipush 97, 2) := by decide +kernel
theorem dX7_isLetter_3 : decode cX7_isLetter 3 = .ok (.if_icmp .lt 13, 3) := by decide +kernel
theorem dX7_isLetter_6 : decode cX7_isLetter 6 = .ok (.iload_n 0, 1) := by decide +kernel
theorem dX7_isLetter_7 : decode cX7_isLetter 7 = .ok (.bipush 122, 2) := by decide +kernel
theorem dX7_isLetter_9 : decode cX7_isLetter 9 = .ok (.if_icmp .gt 7, 3) := by decide +kernel
theorem dX7_isLetter_12 : decode cX7_isLetter 12 = .ok (.iconst 1, 1) := by decide +kernel
theorem dX7_isLetter_13 : decode cX7_isLetter 13 = .ok (.goto 4, 3) := by decide +kernel
theorem dX7_isLetter_16 : decode cX7_isLetter 16 = .ok (.iconst 0, 1) := by decide +kernel
theorem dX7_isLetter_17 : decode cX7_isLetter 17 = .ok (.ireturn, 1) := by decide +kernel
abbrev wd_X7_isLetter (k : Nat → ClassId) (w : Nat → Nat) : va_W := []
set_option maxHeartbeats 4000000 in
set_option maxRecDepth 100000 in
theorem c_X7_isLetter (l : Launch) (D : va_G) (k : Nat → ClassId) (w : Nat → Nat) (sign : Int32) (R0 : Int32) (hm : m_X7_isLetter sign = some R0) : CRe w l D (TY k) yX7_isLetter cX7_isLetter 1 (some .boolean) 0 0 [.int sign] (wd_X7_isLetter k w ) (some (.int R0)) := by
  refine CRe.mk (by decide) (Nat.le_of_ble_eq_true rfl) ?_
  intro p e s m args below meth c ls ⟨hx, hb, hr, hts, hown, hlocks, hml⟩ hP hG hE hl
  have hS : va_S (fun _ => False) s.heap s.heap [] := va_S.rf
  have hl : lv_has ls 1 [(0, .int sign)] := hl
  unfold m_X7_isLetter at hm
  refine lv_iload_n (pc := 0) hx hb dX7_isLetter_0 rfl (lv_at hl 0 rfl) ?_
  refine lv_bipush (v := 97) (pc := 1) hx hb dX7_isLetter_1 (by decide) ?_
  refine lv_icmp_lt (tgt := 16) (pc := 3) hx hb dX7_isLetter_3 (by decide) (fun hc => ?_) (fun hc => ?_)
  · rw [if_pos hc] at hm
    refine lv_iconst (v := 0) (pc := 16) hx hb dX7_isLetter_16 (by decide) ?_
    rw [← Option.some.inj hm]
    exact W.zret hx hb hr (nar_bool (Or.inl rfl)) (fun t ht _ => ⟨rfl, ht⟩) (fun _ h => by cases h) dX7_isLetter_17 hlocks
  · rw [if_neg hc] at hm
    refine lv_iload_n (pc := 6) hx hb dX7_isLetter_6 rfl (lv_at hl 0 rfl) ?_
    refine lv_bipush (v := 122) (pc := 7) hx hb dX7_isLetter_7 (by decide) ?_
    refine lv_icmp_gt (tgt := 16) (pc := 9) hx hb dX7_isLetter_9 (by decide) (fun hc => ?_) (fun hc => ?_)
    · rw [if_pos hc] at hm
      refine lv_iconst (v := 0) (pc := 16) hx hb dX7_isLetter_16 (by decide) ?_
      rw [← Option.some.inj hm]
      exact W.zret hx hb hr (nar_bool (Or.inl rfl)) (fun t ht _ => ⟨rfl, ht⟩) (fun _ h => by cases h) dX7_isLetter_17 hlocks
    · rw [if_neg hc] at hm
      refine lv_iconst (v := 1) (pc := 12) hx hb dX7_isLetter_12 (by decide) ?_
      refine lv_goto (tgt := 17) (pc := 13) hx hb dX7_isLetter_13 (by decide) ?_
      rw [← Option.some.inj hm]
      exact W.zret hx hb hr (nar_bool (Or.inr rfl)) (fun t ht _ => ⟨rfl, ht⟩) (fun _ h => by cases h) dX7_isLetter_17 hlocks
theorem dX7_isDigit_0 : decode cX7_isDigit 0 = .ok (.iload_n 0, 1) := by decide +kernel
theorem dX7_isDigit_1 : decode cX7_isDigit 1 = .ok (.bipush 48, 2) := by decide +kernel
theorem dX7_isDigit_3 : decode cX7_isDigit 3 = .ok (.if_icmp .lt 13, 3) := by decide +kernel
theorem dX7_isDigit_6 : decode cX7_isDigit 6 = .ok (.iload_n 0, 1) := by decide +kernel
theorem dX7_isDigit_7 : decode cX7_isDigit 7 = .ok (.bipush 57, 2) := by decide +kernel
theorem dX7_isDigit_9 : decode cX7_isDigit 9 = .ok (.if_icmp .gt 7, 3) := by decide +kernel
theorem dX7_isDigit_12 : decode cX7_isDigit 12 = .ok (.iconst 1, 1) := by decide +kernel
theorem dX7_isDigit_13 : decode cX7_isDigit 13 = .ok (.goto 4, 3) := by decide +kernel
theorem dX7_isDigit_16 : decode cX7_isDigit 16 = .ok (.iconst 0, 1) := by decide +kernel
theorem dX7_isDigit_17 : decode cX7_isDigit 17 = .ok (.ireturn, 1) := by decide +kernel
abbrev wd_X7_isDigit (k : Nat → ClassId) (w : Nat → Nat) : va_W := []
set_option maxHeartbeats 4000000 in
set_option maxRecDepth 100000 in
theorem c_X7_isDigit (l : Launch) (D : va_G) (k : Nat → ClassId) (w : Nat → Nat) (sign : Int32) (R0 : Int32) (hm : m_X7_isDigit sign = some R0) : CRe w l D (TY k) yX7_isDigit cX7_isDigit 1 (some .boolean) 0 0 [.int sign] (wd_X7_isDigit k w ) (some (.int R0)) := by
  refine CRe.mk (by decide) (Nat.le_of_ble_eq_true rfl) ?_
  intro p e s m args below meth c ls ⟨hx, hb, hr, hts, hown, hlocks, hml⟩ hP hG hE hl
  have hS : va_S (fun _ => False) s.heap s.heap [] := va_S.rf
  have hl : lv_has ls 1 [(0, .int sign)] := hl
  unfold m_X7_isDigit at hm
  refine lv_iload_n (pc := 0) hx hb dX7_isDigit_0 rfl (lv_at hl 0 rfl) ?_
  refine lv_bipush (v := 48) (pc := 1) hx hb dX7_isDigit_1 (by decide) ?_
  refine lv_icmp_lt (tgt := 16) (pc := 3) hx hb dX7_isDigit_3 (by decide) (fun hc => ?_) (fun hc => ?_)
  · rw [if_pos hc] at hm
    refine lv_iconst (v := 0) (pc := 16) hx hb dX7_isDigit_16 (by decide) ?_
    rw [← Option.some.inj hm]
    exact W.zret hx hb hr (nar_bool (Or.inl rfl)) (fun t ht _ => ⟨rfl, ht⟩) (fun _ h => by cases h) dX7_isDigit_17 hlocks
  · rw [if_neg hc] at hm
    refine lv_iload_n (pc := 6) hx hb dX7_isDigit_6 rfl (lv_at hl 0 rfl) ?_
    refine lv_bipush (v := 57) (pc := 7) hx hb dX7_isDigit_7 (by decide) ?_
    refine lv_icmp_gt (tgt := 16) (pc := 9) hx hb dX7_isDigit_9 (by decide) (fun hc => ?_) (fun hc => ?_)
    · rw [if_pos hc] at hm
      refine lv_iconst (v := 0) (pc := 16) hx hb dX7_isDigit_16 (by decide) ?_
      rw [← Option.some.inj hm]
      exact W.zret hx hb hr (nar_bool (Or.inl rfl)) (fun t ht _ => ⟨rfl, ht⟩) (fun _ h => by cases h) dX7_isDigit_17 hlocks
    · rw [if_neg hc] at hm
      refine lv_iconst (v := 1) (pc := 12) hx hb dX7_isDigit_12 (by decide) ?_
      refine lv_goto (tgt := 17) (pc := 13) hx hb dX7_isDigit_13 (by decide) ?_
      rw [← Option.some.inj hm]
      exact W.zret hx hb hr (nar_bool (Or.inr rfl)) (fun t ht _ => ⟨rfl, ht⟩) (fun _ h => by cases h) dX7_isDigit_17 hlocks
theorem dX7_takeInWord_0 : decode cX7_takeInWord 0 = .ok (.aload_n 0, 1) := by decide +kernel
theorem dX7_takeInWord_1 : decode cX7_takeInWord 1 = .ok (.lconst 0, 1) := by decide +kernel
theorem dX7_takeInWord_2 : decode cX7_takeInWord 2 = .ok (.putfield 72, 3) := by decide +kernel
theorem dX7_takeInWord_5 : decode cX7_takeInWord 5 = .ok (.aload_n 0, 1) := by decide +kernel
theorem dX7_takeInWord_6 : decode cX7_takeInWord 6 = .ok (.aload_n 0, 1) := by decide +kernel
theorem dX7_takeInWord_7 : decode cX7_takeInWord 7 = .ok (.getfield 41, 3) := by decide +kernel
theorem dX7_takeInWord_10 : decode cX7_takeInWord 10 = .ok (.putfield 32, 3) := by decide +kernel
theorem dX7_takeInWord_13 : decode cX7_takeInWord 13 = .ok (.aload_n 0, 1) := by decide +kernel
theorem dX7_takeInWord_14 : decode cX7_takeInWord 14 = .ok (.getfield 32, 3) := by decide +kernel
theorem dX7_takeInWord_17 : decode cX7_takeInWord 17 = .ok (.aload_n 0, 1) := by decide +kernel
theorem dX7_takeInWord_18 : decode cX7_takeInWord 18 = .ok (.getfield 28, 3) := by decide +kernel
theorem dX7_takeInWord_21 : decode cX7_takeInWord 21 = .ok (.if_icmp .ge 57, 3) := by decide +kernel
theorem dX7_takeInWord_24 : decode cX7_takeInWord 24 = .ok (.aload_n 0, 1) := by decide +kernel
theorem dX7_takeInWord_25 : decode cX7_takeInWord 25 = .ok (.aload_n 0, 1) := by decide +kernel
theorem dX7_takeInWord_26 : decode cX7_takeInWord 26 = .ok (.getfield 32, 3) := by decide +kernel
theorem dX7_takeInWord_29 : decode cX7_takeInWord 29 = .ok (.invokevirtual 44, 3) := by decide +kernel
theorem dX7_takeInWord_32 : decode cX7_takeInWord 32 = .ok (.invokestatic 51, 3) := by decide +kernel
theorem dX7_takeInWord_35 : decode cX7_takeInWord 35 = .ok (.ifCond .eq 43, 3) := by decide +kernel
theorem dX7_takeInWord_38 : decode cX7_takeInWord 38 = .ok (.aload_n 0, 1) := by decide +kernel
theorem dX7_takeInWord_39 : decode cX7_takeInWord 39 = .ok (.aload_n 0, 1) := by decide +kernel
theorem dX7_takeInWord_40 : decode cX7_takeInWord 40 = .ok (.getfield 72, 3) := by decide +kernel
theorem dX7_takeInWord_43 : decode cX7_takeInWord 43 = .ok (.ldc2_w 76, 3) := by decide +kernel
theorem dX7_takeInWord_46 : decode cX7_takeInWord 46 = .ok (.lmul, 1) := by decide +kernel
theorem dX7_takeInWord_47 : decode cX7_takeInWord 47 = .ok (.aload_n 0, 1) := by decide +kernel
theorem dX7_takeInWord_48 : decode cX7_takeInWord 48 = .ok (.aload_n 0, 1) := by decide +kernel
theorem dX7_takeInWord_49 : decode cX7_takeInWord 49 = .ok (.getfield 32, 3) := by decide +kernel
theorem dX7_takeInWord_52 : decode cX7_takeInWord 52 = .ok (.invokevirtual 44, 3) := by decide +kernel
theorem dX7_takeInWord_55 : decode cX7_takeInWord 55 = .ok (.bipush 97, 2) := by decide +kernel
theorem dX7_takeInWord_57 : decode cX7_takeInWord 57 = .ok (.isub, 1) := by decide +kernel
theorem dX7_takeInWord_58 : decode cX7_takeInWord 58 = .ok (.iconst 1, 1) := by decide +kernel
theorem dX7_takeInWord_59 : decode cX7_takeInWord 59 = .ok (.iadd, 1) := by decide +kernel
theorem dX7_takeInWord_60 : decode cX7_takeInWord 60 = .ok (.i2l, 1) := by decide +kernel
theorem dX7_takeInWord_61 : decode cX7_takeInWord 61 = .ok (.ladd, 1) := by decide +kernel
theorem dX7_takeInWord_62 : decode cX7_takeInWord 62 = .ok (.putfield 72, 3) := by decide +kernel
theorem dX7_takeInWord_65 : decode cX7_takeInWord 65 = .ok (.aload_n 0, 1) := by decide +kernel
theorem dX7_takeInWord_66 : decode cX7_takeInWord 66 = .ok (.dup, 1) := by decide +kernel
theorem dX7_takeInWord_67 : decode cX7_takeInWord 67 = .ok (.getfield 32, 3) := by decide +kernel
theorem dX7_takeInWord_70 : decode cX7_takeInWord 70 = .ok (.iconst 1, 1) := by decide +kernel
theorem dX7_takeInWord_71 : decode cX7_takeInWord 71 = .ok (.iadd, 1) := by decide +kernel
theorem dX7_takeInWord_72 : decode cX7_takeInWord 72 = .ok (.putfield 32, 3) := by decide +kernel
theorem dX7_takeInWord_75 : decode cX7_takeInWord 75 = .ok (.goto (-62), 3) := by decide +kernel
theorem dX7_takeInWord_78 : decode cX7_takeInWord 78 = .ok (.aload_n 0, 1) := by decide +kernel
theorem dX7_takeInWord_79 : decode cX7_takeInWord 79 = .ok (.getfield 32, 3) := by decide +kernel
theorem dX7_takeInWord_82 : decode cX7_takeInWord 82 = .ok (.aload_n 0, 1) := by decide +kernel
theorem dX7_takeInWord_83 : decode cX7_takeInWord 83 = .ok (.getfield 41, 3) := by decide +kernel
theorem dX7_takeInWord_86 : decode cX7_takeInWord 86 = .ok (.isub, 1) := by decide +kernel
theorem dX7_takeInWord_87 : decode cX7_takeInWord 87 = .ok (.bipush 8, 2) := by decide +kernel
theorem dX7_takeInWord_89 : decode cX7_takeInWord 89 = .ok (.if_icmp .gt 7, 3) := by decide +kernel
theorem dX7_takeInWord_92 : decode cX7_takeInWord 92 = .ok (.iconst 1, 1) := by decide +kernel
theorem dX7_takeInWord_93 : decode cX7_takeInWord 93 = .ok (.goto 4, 3) := by decide +kernel
theorem dX7_takeInWord_96 : decode cX7_takeInWord 96 = .ok (.iconst 0, 1) := by decide +kernel
theorem dX7_takeInWord_97 : decode cX7_takeInWord 97 = .ok (.istore_n 1, 1) := by decide +kernel
theorem dX7_takeInWord_98 : decode cX7_takeInWord 98 = .ok (.aload_n 0, 1) := by decide +kernel
theorem dX7_takeInWord_99 : decode cX7_takeInWord 99 = .ok (.iload_n 1, 1) := by decide +kernel
theorem dX7_takeInWord_100 : decode cX7_takeInWord 100 = .ok (.ifCond .eq 7, 3) := by decide +kernel
theorem dX7_takeInWord_103 : decode cX7_takeInWord 103 = .ok (.iconst 1, 1) := by decide +kernel
theorem dX7_takeInWord_104 : decode cX7_takeInWord 104 = .ok (.goto 4, 3) := by decide +kernel
theorem dX7_takeInWord_107 : decode cX7_takeInWord 107 = .ok (.iconst 4, 1) := by decide +kernel
theorem dX7_takeInWord_108 : decode cX7_takeInWord 108 = .ok (.putfield 48, 3) := by decide +kernel
theorem dX7_takeInWord_111 : decode cX7_takeInWord 111 = .ok (.aload_n 0, 1) := by decide +kernel
theorem dX7_takeInWord_112 : decode cX7_takeInWord 112 = .ok (.iload_n 1, 1) := by decide +kernel
theorem dX7_takeInWord_113 : decode cX7_takeInWord 113 = .ok (.ifCond .eq 13, 3) := by decide +kernel
theorem dX7_takeInWord_116 : decode cX7_takeInWord 116 = .ok (.aload_n 0, 1) := by decide +kernel
theorem dX7_takeInWord_117 : decode cX7_takeInWord 117 = .ok (.getfield 72, 3) := by decide +kernel
theorem dX7_takeInWord_120 : decode cX7_takeInWord 120 = .ok (.invokestatic 78, 3) := by decide +kernel
theorem dX7_takeInWord_123 : decode cX7_takeInWord 123 = .ok (.goto 6, 3) := by decide +kernel
theorem dX7_takeInWord_126 : decode cX7_takeInWord 126 = .ok (.getstatic 15, 3) := by decide +kernel
theorem dX7_takeInWord_129 : decode cX7_takeInWord 129 = .ok (.putfield 21, 3) := by decide +kernel
theorem dX7_takeInWord_132 : decode cX7_takeInWord 132 = .ok (.return_, 1) := by decide +kernel
abbrev wd_X7_takeInWord (k : Nat → ClassId) (w : Nat → Nat) (this : Nat) (this_signs : Nat) (this_signs_f : Nat → Int32) (this_length : Int32) (this_place : Int32) (this_behind : Int32) (this_sort : Int32) (this_number : Int32) (this_letters : Int64) (this_word : Nat) (this_fault : Int32) : va_W := [(this, .inr (6, [.ref this_signs, .int this_length, .int this_place, .int this_behind, .int this_sort, .int this_number, .long this_letters, .ref (w this_word), .int this_fault])), (this_signs, .inl (k 2, 1000, .inl this_signs_f))]
set_option maxHeartbeats 4000000 in
set_option maxRecDepth 100000 in
theorem c_X7_takeInWord (l : Launch) (D : va_G) (k : Nat → ClassId) (w : Nat → Nat) (this : Nat) (this_signs : Nat) (this_signs_f : Nat → Int32) (this_length : Int32) (this_place : Int32) (this_behind : Int32) (this_sort : Int32) (this_number : Int32) (this_letters : Int64) (this_word : Nat) (this_fault : Int32) (R0 : Int32 × Int32 × Int64 × Nat) (hm : m_X7_takeInWord this_signs_f this_length this_place this_sort this_word = some R0) : CWe w l D (TY k) yX7_takeInWord cX7_takeInWord 2 none 1 25 [.ref this] (wd_X7_takeInWord k w this this_signs this_signs_f this_length this_place this_behind this_sort this_number this_letters this_word this_fault) none (wd_X7_takeInWord k w this this_signs this_signs_f this_length this_place R0.1 R0.2.1 this_number R0.2.2.1 R0.2.2.2 this_fault) := by
  refine CWe.mk (by decide) (Nat.le_of_ble_eq_true rfl) ?_
  intro p e s m args below meth c ls A ⟨hx, hb, hr, hts, hown, hlocks, hml⟩ hP hG hE hD hA hl hS hq
  have hl : lv_has ls 2 [(0, .ref this)] := hl
  have h_129 : ∀ (t0 : Nat) (u_this_behind : Int32) (u_this_sort : Int32) (u_this_letters : Int64) (u_this_word : Nat) (H : Heap) (locs : List Loc) (ls : Array Slot), va_P D vwCl (wd_X7_takeInWord k w this this_signs this_signs_f this_length this_place u_this_behind u_this_sort this_number u_this_letters u_this_word this_fault) H → va_D A (wd_X7_takeInWord k w this this_signs this_signs_f this_length this_place u_this_behind u_this_sort this_number u_this_letters u_this_word this_fault) → va_S A s.heap H locs → lv_has ls 2 [] → m_X7_takeInWord_129 this_signs_f this_length this_place t0 u_this_behind u_this_sort u_this_letters u_this_word = some R0 → W p l e (Rm 1 25) s m args below meth c H locs 0 0 (MQ below (QW D none (wd_X7_takeInWord k w this this_signs this_signs_f this_length this_place this_behind this_sort this_number this_letters this_word this_fault) (wd_X7_takeInWord k w this this_signs this_signs_f this_length this_place R0.1 R0.2.1 this_number R0.2.2.1 R0.2.2.2 this_fault) s.heap.size) args s 0 0 A) (F0 m 129 ls [.ref (w t0), .ref this]) := by
    intro  t0 u_this_behind u_this_sort u_this_letters u_this_word H locs ls hP hD hS hl hm
    unfold m_X7_takeInWord_129 at hm
    refine va_put (pc := 129) (D := D) (ci := 6) (v := .ref (w t0)) (ty := .object "HalfMast$Word") (C := RX7) (T := TX7) (N := 9) hx hb hts hiX7 tyX7 tyX7_ok nmX7 hown hG.1 hP hD hS 0 rfl rfl 7 (Nat.le_of_ble_eq_true rfl) (hts _ kw_54) (fun _ h9 => h9) rfl (by decide +kernel) rfl rfl (Nat.le_of_ble_eq_true rfl) dX7_takeInWord_129 (fun H locs hP hD hS => ?_)
    have hP : va_P D vwCl (wd_X7_takeInWord k w this this_signs this_signs_f this_length this_place u_this_behind u_this_sort this_number u_this_letters t0 this_fault) H := hP
    have hD : va_D A (wd_X7_takeInWord k w this this_signs this_signs_f this_length this_place u_this_behind u_this_sort this_number u_this_letters t0 this_fault) := hD
    rw [← Option.some.inj hm]
    exact W.vret hx hb hr (fun t ht _ => hq _ _ H t ht hP hD locs hS) hS.2.2 dX7_takeInWord_132 hlocks
  have h_108 : ∀ (x1 : Int32) (t0 : Int32) (u_this_behind : Int32) (u_this_sort : Int32) (u_this_letters : Int64) (u_this_word : Nat) (H : Heap) (locs : List Loc) (ls : Array Slot), va_P D vwCl (wd_X7_takeInWord k w this this_signs this_signs_f this_length this_place u_this_behind u_this_sort this_number u_this_letters u_this_word this_fault) H → va_D A (wd_X7_takeInWord k w this this_signs this_signs_f this_length this_place u_this_behind u_this_sort this_number u_this_letters u_this_word this_fault) → va_S A s.heap H locs → lv_has ls 2 [(0, .ref this), (1, .int x1)] → m_X7_takeInWord_108 this_signs_f this_length this_place x1 t0 u_this_behind u_this_sort u_this_letters u_this_word = some R0 → W p l e (Rm 1 25) s m args below meth c H locs 0 0 (MQ below (QW D none (wd_X7_takeInWord k w this this_signs this_signs_f this_length this_place this_behind this_sort this_number this_letters this_word this_fault) (wd_X7_takeInWord k w this this_signs this_signs_f this_length this_place R0.1 R0.2.1 this_number R0.2.2.1 R0.2.2.2 this_fault) s.heap.size) args s 0 0 A) (F0 m 108 ls [.int t0, .ref this]) := by
    intro  x1 t0 u_this_behind u_this_sort u_this_letters u_this_word H locs ls hP hD hS hl hm
    unfold m_X7_takeInWord_108 at hm
    refine va_put (pc := 108) (D := D) (ci := 6) (v := .int t0) (ty := .int) (C := RX7) (T := TX7) (N := 9) hx hb hts hiX7 tyX7 tyX7_ok nmX7 hown hG.1 hP hD hS 0 rfl rfl 4 (Nat.le_of_ble_eq_true rfl) (hts _ kw_49) (fun _ h9 => h9) rfl (by decide +kernel) rfl rfl (Nat.le_of_ble_eq_true rfl) dX7_takeInWord_108 (fun H locs hP hD hS => ?_)
    have hP : va_P D vwCl (wd_X7_takeInWord k w this this_signs this_signs_f this_length this_place u_this_behind t0 this_number u_this_letters u_this_word this_fault) H := hP
    have hD : va_D A (wd_X7_takeInWord k w this this_signs this_signs_f this_length this_place u_this_behind t0 this_number u_this_letters u_this_word this_fault) := hD
    refine lv_aload_n (pc := 111) hx hb dX7_takeInWord_111 rfl (lv_at hl 0 rfl) ?_
    refine lv_iload_n (pc := 112) hx hb dX7_takeInWord_112 rfl (lv_at hl 1 rfl) ?_
    refine lv_if_eq (tgt := 126) (pc := 113) hx hb dX7_takeInWord_113 (by decide) (fun hc => ?_) (fun hc => ?_)
    · rw [if_pos hc] at hm
      refine en_static (pc := 126) (own := RX7) hx hb hE hS 0 (Nat.le_of_ble_eq_true rfl) hown (hts _ kw_42) dX7_takeInWord_126 ?_
      exact h_129 0 u_this_behind t0 u_this_letters u_this_word H locs ls hP hD hS (lv_sub hl [] rfl) hm
    · rw [if_neg hc] at hm
      refine lv_aload_n (pc := 116) hx hb dX7_takeInWord_116 rfl (lv_at hl 0 rfl) ?_
      refine va_get (pc := 117) (D := D) (ci := 6) (C := RX7) (T := TX7) (N := 9) hx hb hts hiX7 hown hG.1 hP 0 rfl rfl 6 (Nat.le_of_ble_eq_true rfl) (hts _ kw_53) (fun _ h9 => h9) rfl dX7_takeInWord_117 ?_
      obtain ⟨r5, hcl, hm⟩ := bd hm
      refine cr_back (run_SN (pc := 120) (n := 1) (As := [.long u_this_letters]) (rest := [.ref this]) ⟨hx, hb, hml, hown, hts⟩ (c_X9_by l D k w u_this_letters r5 hcl) ⟨kw_426, kw_4, by decide +kernel⟩ hG kn_424 kw_425 ⟨Nat.le_of_ble_eq_true rfl, Nat.le_of_ble_eq_true rfl⟩ pre_blind (prRe hE hS (hP.sub [] rfl) hG) rfl hl.1 rfl (Nat.le_of_ble_eq_true rfl) dX7_takeInWord_120 ⟨Nat.zero_le _, Nat.zero_le _⟩) ?_
      refine lv_goto (tgt := 129) (pc := 123) hx hb dX7_takeInWord_123 (by decide) ?_
      exact h_129 r5 u_this_behind t0 u_this_letters u_this_word H locs ls hP hD hS (lv_sub hl [] rfl) hm
  have h_97 : ∀ (t0 : Int32) (u_this_behind : Int32) (u_this_sort : Int32) (u_this_letters : Int64) (u_this_word : Nat) (H : Heap) (locs : List Loc) (ls : Array Slot), va_P D vwCl (wd_X7_takeInWord k w this this_signs this_signs_f this_length this_place u_this_behind u_this_sort this_number u_this_letters u_this_word this_fault) H → va_D A (wd_X7_takeInWord k w this this_signs this_signs_f this_length this_place u_this_behind u_this_sort this_number u_this_letters u_this_word this_fault) → va_S A s.heap H locs → lv_has ls 2 [(0, .ref this)] → m_X7_takeInWord_97 this_signs_f this_length this_place t0 u_this_behind u_this_sort u_this_letters u_this_word = some R0 → W p l e (Rm 1 25) s m args below meth c H locs 0 0 (MQ below (QW D none (wd_X7_takeInWord k w this this_signs this_signs_f this_length this_place this_behind this_sort this_number this_letters this_word this_fault) (wd_X7_takeInWord k w this this_signs this_signs_f this_length this_place R0.1 R0.2.1 this_number R0.2.2.1 R0.2.2.2 this_fault) s.heap.size) args s 0 0 A) (F0 m 97 ls [.int t0]) := by
    intro  t0 u_this_behind u_this_sort u_this_letters u_this_word H locs ls hP hD hS hl hm
    unfold m_X7_takeInWord_97 at hm
    refine lv_istore_n (lv' := [(1, .int t0), (0, .ref this)]) (pc := 97) hx hb dX7_takeInWord_97 rfl hl (Nat.le_of_ble_eq_true rfl) rfl (fun ls hl => ?_)
    refine lv_aload_n (pc := 98) hx hb dX7_takeInWord_98 rfl (lv_at hl 1 rfl) ?_
    refine lv_iload_n (pc := 99) hx hb dX7_takeInWord_99 rfl (lv_at hl 0 rfl) ?_
    refine lv_if_eq (tgt := 107) (pc := 100) hx hb dX7_takeInWord_100 (by decide) (fun hc => ?_) (fun hc => ?_)
    · rw [if_pos hc] at hm
      refine lv_iconst (v := 4) (pc := 107) hx hb dX7_takeInWord_107 (by decide) ?_
      exact h_108 t0 4 u_this_behind u_this_sort u_this_letters u_this_word H locs ls hP hD hS (lv_sub hl [1, 0] rfl) hm
    · rw [if_neg hc] at hm
      refine lv_iconst (v := 1) (pc := 103) hx hb dX7_takeInWord_103 (by decide) ?_
      refine lv_goto (tgt := 108) (pc := 104) hx hb dX7_takeInWord_104 (by decide) ?_
      exact h_108 t0 1 u_this_behind u_this_sort u_this_letters u_this_word H locs ls hP hD hS (lv_sub hl [1, 0] rfl) hm
  have h_78 : ∀ (u_this_behind : Int32) (u_this_sort : Int32) (u_this_letters : Int64) (u_this_word : Nat) (H : Heap) (locs : List Loc) (ls : Array Slot), va_P D vwCl (wd_X7_takeInWord k w this this_signs this_signs_f this_length this_place u_this_behind u_this_sort this_number u_this_letters u_this_word this_fault) H → va_D A (wd_X7_takeInWord k w this this_signs this_signs_f this_length this_place u_this_behind u_this_sort this_number u_this_letters u_this_word this_fault) → va_S A s.heap H locs → lv_has ls 2 [(0, .ref this)] → m_X7_takeInWord_78 this_signs_f this_length this_place u_this_behind u_this_sort u_this_letters u_this_word = some R0 → W p l e (Rm 1 25) s m args below meth c H locs 0 0 (MQ below (QW D none (wd_X7_takeInWord k w this this_signs this_signs_f this_length this_place this_behind this_sort this_number this_letters this_word this_fault) (wd_X7_takeInWord k w this this_signs this_signs_f this_length this_place R0.1 R0.2.1 this_number R0.2.2.1 R0.2.2.2 this_fault) s.heap.size) args s 0 0 A) (F0 m 78 ls []) := by
    intro  u_this_behind u_this_sort u_this_letters u_this_word H locs ls hP hD hS hl hm
    unfold m_X7_takeInWord_78 at hm
    refine lv_aload_n (pc := 78) hx hb dX7_takeInWord_78 rfl (lv_at hl 0 rfl) ?_
    refine va_get (pc := 79) (D := D) (ci := 6) (C := RX7) (T := TX7) (N := 9) hx hb hts hiX7 hown hG.1 hP 0 rfl rfl 3 (Nat.le_of_ble_eq_true rfl) (hts _ kw_48) (fun _ h9 => h9) rfl dX7_takeInWord_79 ?_
    refine lv_aload_n (pc := 82) hx hb dX7_takeInWord_82 rfl (lv_at hl 0 rfl) ?_
    refine va_get (pc := 83) (D := D) (ci := 6) (C := RX7) (T := TX7) (N := 9) hx hb hts hiX7 hown hG.1 hP 0 rfl rfl 2 (Nat.le_of_ble_eq_true rfl) (hts _ kw_47) (fun _ h9 => h9) rfl dX7_takeInWord_83 ?_
    refine lv_isub (pc := 86) hx hb dX7_takeInWord_86 ?_
    refine lv_bipush (v := 8) (pc := 87) hx hb dX7_takeInWord_87 (by decide) ?_
    refine lv_icmp_gt (tgt := 96) (pc := 89) hx hb dX7_takeInWord_89 (by decide) (fun hc => ?_) (fun hc => ?_)
    · rw [if_pos hc] at hm
      refine lv_iconst (v := 0) (pc := 96) hx hb dX7_takeInWord_96 (by decide) ?_
      exact h_97 0 u_this_behind u_this_sort u_this_letters u_this_word H locs ls hP hD hS (lv_sub hl [0] rfl) hm
    · rw [if_neg hc] at hm
      refine lv_iconst (v := 1) (pc := 92) hx hb dX7_takeInWord_92 (by decide) ?_
      refine lv_goto (tgt := 97) (pc := 93) hx hb dX7_takeInWord_93 (by decide) ?_
      exact h_97 1 u_this_behind u_this_sort u_this_letters u_this_word H locs ls hP hD hS (lv_sub hl [0] rfl) hm
  have h_13 : ∀ (n : Nat), ∀ (u_this_behind : Int32) (u_this_sort : Int32) (u_this_letters : Int64) (u_this_word : Nat) (H : Heap) (locs : List Loc) (ls : Array Slot), va_P D vwCl (wd_X7_takeInWord k w this this_signs this_signs_f this_length this_place u_this_behind u_this_sort this_number u_this_letters u_this_word this_fault) H → va_D A (wd_X7_takeInWord k w this this_signs this_signs_f this_length this_place u_this_behind u_this_sort this_number u_this_letters u_this_word this_fault) → va_S A s.heap H locs → lv_has ls 2 [(0, .ref this)] → m_X7_takeInWord_13 this_signs_f this_length this_place n u_this_behind u_this_sort u_this_letters u_this_word = some R0 → W p l e (Rm 1 25) s m args below meth c H locs 0 0 (MQ below (QW D none (wd_X7_takeInWord k w this this_signs this_signs_f this_length this_place this_behind this_sort this_number this_letters this_word this_fault) (wd_X7_takeInWord k w this this_signs this_signs_f this_length this_place R0.1 R0.2.1 this_number R0.2.2.1 R0.2.2.2 this_fault) s.heap.size) args s 0 0 A) (F0 m 13 ls []) := by
    intro n
    induction n with
    | zero => intro u_this_behind u_this_sort u_this_letters u_this_word H locs ls hP hD hS hl hm; cases hm
    | succ n ih =>
      intro u_this_behind u_this_sort u_this_letters u_this_word H locs ls hP hD hS hl hm
      unfold m_X7_takeInWord_13 at hm
      refine lv_aload_n (pc := 13) hx hb dX7_takeInWord_13 rfl (lv_at hl 0 rfl) ?_
      refine va_get (pc := 14) (D := D) (ci := 6) (C := RX7) (T := TX7) (N := 9) hx hb hts hiX7 hown hG.1 hP 0 rfl rfl 3 (Nat.le_of_ble_eq_true rfl) (hts _ kw_48) (fun _ h9 => h9) rfl dX7_takeInWord_14 ?_
      refine lv_aload_n (pc := 17) hx hb dX7_takeInWord_17 rfl (lv_at hl 0 rfl) ?_
      refine va_get (pc := 18) (D := D) (ci := 6) (C := RX7) (T := TX7) (N := 9) hx hb hts hiX7 hown hG.1 hP 0 rfl rfl 1 (Nat.le_of_ble_eq_true rfl) (hts _ kw_46) (fun _ h9 => h9) rfl dX7_takeInWord_18 ?_
      refine lv_icmp_ge (tgt := 78) (pc := 21) hx hb dX7_takeInWord_21 (by decide) (fun hc => ?_) (fun hc => ?_)
      · rw [if_pos hc] at hm
        exact h_78 u_this_behind u_this_sort u_this_letters u_this_word H locs ls hP hD hS (lv_sub hl [0] rfl) hm
      · rw [if_neg hc] at hm
        refine lv_aload_n (pc := 24) hx hb dX7_takeInWord_24 rfl (lv_at hl 0 rfl) ?_
        refine lv_aload_n (pc := 25) hx hb dX7_takeInWord_25 rfl (lv_at hl 0 rfl) ?_
        refine va_get (pc := 26) (D := D) (ci := 6) (C := RX7) (T := TX7) (N := 9) hx hb hts hiX7 hown hG.1 hP 0 rfl rfl 3 (Nat.le_of_ble_eq_true rfl) (hts _ kw_48) (fun _ h9 => h9) rfl dX7_takeInWord_26 ?_
        obtain ⟨r6, hcl, hm⟩ := bd hm
        refine cr_back (run_V (pc := 29) (n := 1) (As := [.int u_this_behind]) (rest := []) ⟨hx, hb, hml, hown, hts⟩ (c_X7_signAt l D k w this this_signs this_signs_f this_length this_place u_this_behind u_this_sort this_number u_this_letters u_this_word this_fault u_this_behind r6 hcl) ⟨kw_415, kw_2, by decide +kernel⟩ kw_412 kw_414 ks_16 ⟨Nat.le_of_ble_eq_true rfl, Nat.le_of_ble_eq_true rfl⟩ pre_blind (prRe hE hS (hP.sub [0, 1] rfl) hG) (va_recv hG.1 hP (ci := 6) (q0 := 0) rfl rfl) rfl hl.1 rfl (Nat.le_of_ble_eq_true rfl) dX7_takeInWord_29 ⟨Nat.zero_le _, Nat.zero_le _⟩) ?_
        obtain ⟨r7, hcl, hm⟩ := bd hm
        refine cr_back (run_S (pc := 32) (n := 1) (As := [.int r6]) (rest := []) ⟨hx, hb, hml, hown, hts⟩ (c_X7_isLetter l D k w r6 r7 hcl) ⟨kw_418, kw_2, by decide +kernel⟩ kw_416 kw_417 ⟨Nat.le_of_ble_eq_true rfl, Nat.le_of_ble_eq_true rfl⟩ pre_blind (prRe hE hS (hP.sub [] rfl) hG) rfl hl.1 rfl (Nat.le_of_ble_eq_true rfl) dX7_takeInWord_32 ⟨Nat.zero_le _, Nat.zero_le _⟩) ?_
        refine lv_if_eq (tgt := 78) (pc := 35) hx hb dX7_takeInWord_35 (by decide) (fun hc => ?_) (fun hc => ?_)
        · rw [if_pos hc] at hm
          exact h_78 u_this_behind u_this_sort u_this_letters u_this_word H locs ls hP hD hS (lv_sub hl [0] rfl) hm
        · rw [if_neg hc] at hm
          refine lv_aload_n (pc := 38) hx hb dX7_takeInWord_38 rfl (lv_at hl 0 rfl) ?_
          refine lv_aload_n (pc := 39) hx hb dX7_takeInWord_39 rfl (lv_at hl 0 rfl) ?_
          refine va_get (pc := 40) (D := D) (ci := 6) (C := RX7) (T := TX7) (N := 9) hx hb hts hiX7 hown hG.1 hP 0 rfl rfl 6 (Nat.le_of_ble_eq_true rfl) (hts _ kw_53) (fun _ h9 => h9) rfl dX7_takeInWord_40 ?_
          refine lv_ldc2 (pc := 43) (own := RX7) hx hb hown (hts _ kw_423) dX7_takeInWord_43 ?_
          refine lv_lmul (pc := 46) hx hb dX7_takeInWord_46 ?_
          refine lv_aload_n (pc := 47) hx hb dX7_takeInWord_47 rfl (lv_at hl 0 rfl) ?_
          refine lv_aload_n (pc := 48) hx hb dX7_takeInWord_48 rfl (lv_at hl 0 rfl) ?_
          refine va_get (pc := 49) (D := D) (ci := 6) (C := RX7) (T := TX7) (N := 9) hx hb hts hiX7 hown hG.1 hP 0 rfl rfl 3 (Nat.le_of_ble_eq_true rfl) (hts _ kw_48) (fun _ h9 => h9) rfl dX7_takeInWord_49 ?_
          obtain ⟨r8, hcl, hm⟩ := bd hm
          refine cr_back (run_V (pc := 52) (n := 1) (As := [.int u_this_behind]) (rest := [.long (u_this_letters * 32), .ref this]) ⟨hx, hb, hml, hown, hts⟩ (c_X7_signAt l D k w this this_signs this_signs_f this_length this_place u_this_behind u_this_sort this_number u_this_letters u_this_word this_fault u_this_behind r8 hcl) ⟨kw_415, kw_2, by decide +kernel⟩ kw_412 kw_414 ks_16 ⟨Nat.le_of_ble_eq_true rfl, Nat.le_of_ble_eq_true rfl⟩ pre_blind (prRe hE hS (hP.sub [0, 1] rfl) hG) (va_recv hG.1 hP (ci := 6) (q0 := 0) rfl rfl) rfl hl.1 rfl (Nat.le_of_ble_eq_true rfl) dX7_takeInWord_52 ⟨Nat.zero_le _, Nat.zero_le _⟩) ?_
          refine lv_bipush (v := 97) (pc := 55) hx hb dX7_takeInWord_55 (by decide) ?_
          refine lv_isub (pc := 57) hx hb dX7_takeInWord_57 ?_
          refine lv_iconst (v := 1) (pc := 58) hx hb dX7_takeInWord_58 (by decide) ?_
          refine lv_iadd (pc := 59) hx hb dX7_takeInWord_59 ?_
          refine lv_i2l (pc := 60) hx hb dX7_takeInWord_60 rfl ?_
          refine lv_ladd (pc := 61) hx hb dX7_takeInWord_61 ?_
          refine va_put (pc := 62) (D := D) (ci := 6) (v := .long ((u_this_letters * 32) + (((r8 - 97) + 1).toInt64))) (ty := .long) (C := RX7) (T := TX7) (N := 9) hx hb hts hiX7 tyX7 tyX7_ok nmX7 hown hG.1 hP hD hS 0 rfl rfl 6 (Nat.le_of_ble_eq_true rfl) (hts _ kw_53) (fun _ h9 => h9) rfl (by decide +kernel) rfl rfl (Nat.le_of_ble_eq_true rfl) dX7_takeInWord_62 (fun H locs hP hD hS => ?_)
          have hP : va_P D vwCl (wd_X7_takeInWord k w this this_signs this_signs_f this_length this_place u_this_behind u_this_sort this_number ((u_this_letters * 32) + (((r8 - 97) + 1).toInt64)) u_this_word this_fault) H := hP
          have hD : va_D A (wd_X7_takeInWord k w this this_signs this_signs_f this_length this_place u_this_behind u_this_sort this_number ((u_this_letters * 32) + (((r8 - 97) + 1).toInt64)) u_this_word this_fault) := hD
          refine lv_aload_n (pc := 65) hx hb dX7_takeInWord_65 rfl (lv_at hl 0 rfl) ?_
          refine lv_dup (pc := 66) hx hb dX7_takeInWord_66 rfl ?_
          refine va_get (pc := 67) (D := D) (ci := 6) (C := RX7) (T := TX7) (N := 9) hx hb hts hiX7 hown hG.1 hP 0 rfl rfl 3 (Nat.le_of_ble_eq_true rfl) (hts _ kw_48) (fun _ h9 => h9) rfl dX7_takeInWord_67 ?_
          refine lv_iconst (v := 1) (pc := 70) hx hb dX7_takeInWord_70 (by decide) ?_
          refine lv_iadd (pc := 71) hx hb dX7_takeInWord_71 ?_
          refine va_put (pc := 72) (D := D) (ci := 6) (v := .int (u_this_behind + 1)) (ty := .int) (C := RX7) (T := TX7) (N := 9) hx hb hts hiX7 tyX7 tyX7_ok nmX7 hown hG.1 hP hD hS 0 rfl rfl 3 (Nat.le_of_ble_eq_true rfl) (hts _ kw_48) (fun _ h9 => h9) rfl (by decide +kernel) rfl rfl (Nat.le_of_ble_eq_true rfl) dX7_takeInWord_72 (fun H locs hP hD hS => ?_)
          have hP : va_P D vwCl (wd_X7_takeInWord k w this this_signs this_signs_f this_length this_place (u_this_behind + 1) u_this_sort this_number ((u_this_letters * 32) + (((r8 - 97) + 1).toInt64)) u_this_word this_fault) H := hP
          have hD : va_D A (wd_X7_takeInWord k w this this_signs this_signs_f this_length this_place (u_this_behind + 1) u_this_sort this_number ((u_this_letters * 32) + (((r8 - 97) + 1).toInt64)) u_this_word this_fault) := hD
          refine lv_goto (tgt := 13) (pc := 75) hx hb dX7_takeInWord_75 (by decide) ?_
          exact ih (u_this_behind + 1) u_this_sort ((u_this_letters * 32) + (((r8 - 97) + 1).toInt64)) u_this_word H locs ls hP hD hS (lv_sub hl [0] rfl) hm
  unfold m_X7_takeInWord at hm
  suffices hgo : ∀ (H : Heap) (locs : List Loc), va_P D vwCl (wd_X7_takeInWord k w this this_signs this_signs_f this_length this_place this_behind this_sort this_number this_letters this_word this_fault) H → va_D A (wd_X7_takeInWord k w this this_signs this_signs_f this_length this_place this_behind this_sort this_number this_letters this_word this_fault) → va_S A s.heap H locs → W p l e (Rm 1 25) s m args below meth c H locs 0 0 (MQ below (QW D none (wd_X7_takeInWord k w this this_signs this_signs_f this_length this_place this_behind this_sort this_number this_letters this_word this_fault) (wd_X7_takeInWord k w this this_signs this_signs_f this_length this_place R0.1 R0.2.1 this_number R0.2.2.1 R0.2.2.2 this_fault) s.heap.size) args s 0 0 A) (F0 m 0 ls []) from hgo _ _ hP hD hS
  clear hP hD hS
  intro H locs hP hD hS
  refine lv_aload_n (pc := 0) hx hb dX7_takeInWord_0 rfl (lv_at hl 0 rfl) ?_
  refine lv_lconst (v := 0) (pc := 1) hx hb dX7_takeInWord_1 (by decide) ?_
  refine va_put (pc := 2) (D := D) (ci := 6) (v := .long 0) (ty := .long) (C := RX7) (T := TX7) (N := 9) hx hb hts hiX7 tyX7 tyX7_ok nmX7 hown hG.1 hP hD hS 0 rfl rfl 6 (Nat.le_of_ble_eq_true rfl) (hts _ kw_53) (fun _ h9 => h9) rfl (by decide +kernel) rfl rfl (Nat.le_of_ble_eq_true rfl) dX7_takeInWord_2 (fun H locs hP hD hS => ?_)
  have hP : va_P D vwCl (wd_X7_takeInWord k w this this_signs this_signs_f this_length this_place this_behind this_sort this_number 0 this_word this_fault) H := hP
  have hD : va_D A (wd_X7_takeInWord k w this this_signs this_signs_f this_length this_place this_behind this_sort this_number 0 this_word this_fault) := hD
  refine lv_aload_n (pc := 5) hx hb dX7_takeInWord_5 rfl (lv_at hl 0 rfl) ?_
  refine lv_aload_n (pc := 6) hx hb dX7_takeInWord_6 rfl (lv_at hl 0 rfl) ?_
  refine va_get (pc := 7) (D := D) (ci := 6) (C := RX7) (T := TX7) (N := 9) hx hb hts hiX7 hown hG.1 hP 0 rfl rfl 2 (Nat.le_of_ble_eq_true rfl) (hts _ kw_47) (fun _ h9 => h9) rfl dX7_takeInWord_7 ?_
  refine va_put (pc := 10) (D := D) (ci := 6) (v := .int this_place) (ty := .int) (C := RX7) (T := TX7) (N := 9) hx hb hts hiX7 tyX7 tyX7_ok nmX7 hown hG.1 hP hD hS 0 rfl rfl 3 (Nat.le_of_ble_eq_true rfl) (hts _ kw_48) (fun _ h9 => h9) rfl (by decide +kernel) rfl rfl (Nat.le_of_ble_eq_true rfl) dX7_takeInWord_10 (fun H locs hP hD hS => ?_)
  have hP : va_P D vwCl (wd_X7_takeInWord k w this this_signs this_signs_f this_length this_place this_place this_sort this_number 0 this_word this_fault) H := hP
  have hD : va_D A (wd_X7_takeInWord k w this this_signs this_signs_f this_length this_place this_place this_sort this_number 0 this_word this_fault) := hD
  exact h_13 FU this_place this_sort 0 this_word H locs ls hP hD hS (lv_sub hl [0] rfl) hm
theorem dX7_takeInNumber_0 : decode cX7_takeInNumber 0 = .ok (.aload_n 0, 1) := by decide +kernel
theorem dX7_takeInNumber_1 : decode cX7_takeInNumber 1 = .ok (.iconst 0, 1) := by decide +kernel
theorem dX7_takeInNumber_2 : decode cX7_takeInNumber 2 = .ok (.putfield 82, 3) := by decide +kernel
theorem dX7_takeInNumber_5 : decode cX7_takeInNumber 5 = .ok (.aload_n 0, 1) := by decide +kernel
theorem dX7_takeInNumber_6 : decode cX7_takeInNumber 6 = .ok (.aload_n 0, 1) := by decide +kernel
theorem dX7_takeInNumber_7 : decode cX7_takeInNumber 7 = .ok (.getfield 41, 3) := by decide +kernel
theorem dX7_takeInNumber_10 : decode cX7_takeInNumber 10 = .ok (.putfield 32, 3) := by decide +kernel
theorem dX7_takeInNumber_13 : decode cX7_takeInNumber 13 = .ok (.aload_n 0, 1) := by decide +kernel
theorem dX7_takeInNumber_14 : decode cX7_takeInNumber 14 = .ok (.getfield 32, 3) := by decide +kernel
theorem dX7_takeInNumber_17 : decode cX7_takeInNumber 17 = .ok (.aload_n 0, 1) := by decide +kernel
theorem dX7_takeInNumber_18 : decode cX7_takeInNumber 18 = .ok (.getfield 28, 3) := by decide +kernel
theorem dX7_takeInNumber_21 : decode cX7_takeInNumber 21 = .ok (.if_icmp .ge 53, 3) := by decide +kernel
theorem dX7_takeInNumber_24 : decode cX7_takeInNumber 24 = .ok (.aload_n 0, 1) := by decide +kernel
theorem dX7_takeInNumber_25 : decode cX7_takeInNumber 25 = .ok (.aload_n 0, 1) := by decide +kernel
theorem dX7_takeInNumber_26 : decode cX7_takeInNumber 26 = .ok (.getfield 32, 3) := by decide +kernel
theorem dX7_takeInNumber_29 : decode cX7_takeInNumber 29 = .ok (.invokevirtual 44, 3) := by decide +kernel
theorem dX7_takeInNumber_32 : decode cX7_takeInNumber 32 = .ok (.invokestatic 58, 3) := by decide +kernel
theorem dX7_takeInNumber_35 : decode cX7_takeInNumber 35 = .ok (.ifCond .eq 39, 3) := by decide +kernel
theorem dX7_takeInNumber_38 : decode cX7_takeInNumber 38 = .ok (.aload_n 0, 1) := by decide +kernel
theorem dX7_takeInNumber_39 : decode cX7_takeInNumber 39 = .ok (.aload_n 0, 1) := by decide +kernel
theorem dX7_takeInNumber_40 : decode cX7_takeInNumber 40 = .ok (.getfield 82, 3) := by decide +kernel
theorem dX7_takeInNumber_43 : decode cX7_takeInNumber 43 = .ok (.bipush 10, 2) := by decide +kernel
theorem dX7_takeInNumber_45 : decode cX7_takeInNumber 45 = .ok (.imul, 1) := by decide +kernel
theorem dX7_takeInNumber_46 : decode cX7_takeInNumber 46 = .ok (.aload_n 0, 1) := by decide +kernel
theorem dX7_takeInNumber_47 : decode cX7_takeInNumber 47 = .ok (.aload_n 0, 1) := by decide +kernel
theorem dX7_takeInNumber_48 : decode cX7_takeInNumber 48 = .ok (.getfield 32, 3) := by decide +kernel
theorem dX7_takeInNumber_51 : decode cX7_takeInNumber 51 = .ok (.invokevirtual 44, 3) := by decide +kernel
theorem dX7_takeInNumber_54 : decode cX7_takeInNumber 54 = .ok (.bipush 48, 2) := by decide +kernel
theorem dX7_takeInNumber_56 : decode cX7_takeInNumber 56 = .ok (.isub, 1) := by decide +kernel
theorem dX7_takeInNumber_57 : decode cX7_takeInNumber 57 = .ok (.iadd, 1) := by decide +kernel
theorem dX7_takeInNumber_58 : decode cX7_takeInNumber 58 = .ok (.putfield 82, 3) := by decide +kernel
theorem dX7_takeInNumber_61 : decode cX7_takeInNumber 61 = .ok (.aload_n 0, 1) := by decide +kernel
theorem dX7_takeInNumber_62 : decode cX7_takeInNumber 62 = .ok (.dup, 1) := by decide +kernel
theorem dX7_takeInNumber_63 : decode cX7_takeInNumber 63 = .ok (.getfield 32, 3) := by decide +kernel
theorem dX7_takeInNumber_66 : decode cX7_takeInNumber 66 = .ok (.iconst 1, 1) := by decide +kernel
theorem dX7_takeInNumber_67 : decode cX7_takeInNumber 67 = .ok (.iadd, 1) := by decide +kernel
theorem dX7_takeInNumber_68 : decode cX7_takeInNumber 68 = .ok (.putfield 32, 3) := by decide +kernel
theorem dX7_takeInNumber_71 : decode cX7_takeInNumber 71 = .ok (.goto (-58), 3) := by decide +kernel
theorem dX7_takeInNumber_74 : decode cX7_takeInNumber 74 = .ok (.aload_n 0, 1) := by decide +kernel
theorem dX7_takeInNumber_75 : decode cX7_takeInNumber 75 = .ok (.aload_n 0, 1) := by decide +kernel
theorem dX7_takeInNumber_76 : decode cX7_takeInNumber 76 = .ok (.getfield 32, 3) := by decide +kernel
theorem dX7_takeInNumber_79 : decode cX7_takeInNumber 79 = .ok (.aload_n 0, 1) := by decide +kernel
theorem dX7_takeInNumber_80 : decode cX7_takeInNumber 80 = .ok (.getfield 41, 3) := by decide +kernel
theorem dX7_takeInNumber_83 : decode cX7_takeInNumber 83 = .ok (.isub, 1) := by decide +kernel
theorem dX7_takeInNumber_84 : decode cX7_takeInNumber 84 = .ok (.iconst 4, 1) := by decide +kernel
theorem dX7_takeInNumber_85 : decode cX7_takeInNumber 85 = .ok (.if_icmp .gt 7, 3) := by decide +kernel
theorem dX7_takeInNumber_88 : decode cX7_takeInNumber 88 = .ok (.iconst 2, 1) := by decide +kernel
theorem dX7_takeInNumber_89 : decode cX7_takeInNumber 89 = .ok (.goto 4, 3) := by decide +kernel
theorem dX7_takeInNumber_92 : decode cX7_takeInNumber 92 = .ok (.iconst 4, 1) := by decide +kernel
theorem dX7_takeInNumber_93 : decode cX7_takeInNumber 93 = .ok (.putfield 48, 3) := by decide +kernel
theorem dX7_takeInNumber_96 : decode cX7_takeInNumber 96 = .ok (.return_, 1) := by decide +kernel
abbrev wd_X7_takeInNumber (k : Nat → ClassId) (w : Nat → Nat) (this : Nat) (this_signs : Nat) (this_signs_f : Nat → Int32) (this_length : Int32) (this_place : Int32) (this_behind : Int32) (this_sort : Int32) (this_number : Int32) (this_letters : Int64) (this_word : Nat) (this_fault : Int32) : va_W := [(this, .inr (6, [.ref this_signs, .int this_length, .int this_place, .int this_behind, .int this_sort, .int this_number, .long this_letters, .ref (w this_word), .int this_fault])), (this_signs, .inl (k 2, 1000, .inl this_signs_f))]
set_option maxHeartbeats 4000000 in
set_option maxRecDepth 100000 in
theorem c_X7_takeInNumber (l : Launch) (D : va_G) (k : Nat → ClassId) (w : Nat → Nat) (this : Nat) (this_signs : Nat) (this_signs_f : Nat → Int32) (this_length : Int32) (this_place : Int32) (this_behind : Int32) (this_sort : Int32) (this_number : Int32) (this_letters : Int64) (this_word : Nat) (this_fault : Int32) (R0 : Int32 × Int32 × Int32) (hm : m_X7_takeInNumber this_signs_f this_length this_place this_sort = some R0) : CWe w l D (TY k) yX7_takeInNumber cX7_takeInNumber 1 none 1 21 [.ref this] (wd_X7_takeInNumber k w this this_signs this_signs_f this_length this_place this_behind this_sort this_number this_letters this_word this_fault) none (wd_X7_takeInNumber k w this this_signs this_signs_f this_length this_place R0.1 R0.2.1 R0.2.2 this_letters this_word this_fault) := by
  refine CWe.mk (by decide) (Nat.le_of_ble_eq_true rfl) ?_
  intro p e s m args below meth c ls A ⟨hx, hb, hr, hts, hown, hlocks, hml⟩ hP hG hE hD hA hl hS hq
  have hl : lv_has ls 1 [(0, .ref this)] := hl
  have h_93 : ∀ (t0 : Int32) (u_this_behind : Int32) (u_this_sort : Int32) (u_this_number : Int32) (H : Heap) (locs : List Loc) (ls : Array Slot), va_P D vwCl (wd_X7_takeInNumber k w this this_signs this_signs_f this_length this_place u_this_behind u_this_sort u_this_number this_letters this_word this_fault) H → va_D A (wd_X7_takeInNumber k w this this_signs this_signs_f this_length this_place u_this_behind u_this_sort u_this_number this_letters this_word this_fault) → va_S A s.heap H locs → lv_has ls 1 [] → m_X7_takeInNumber_93 this_signs_f this_length this_place t0 u_this_behind u_this_sort u_this_number = some R0 → W p l e (Rm 1 21) s m args below meth c H locs 0 0 (MQ below (QW D none (wd_X7_takeInNumber k w this this_signs this_signs_f this_length this_place this_behind this_sort this_number this_letters this_word this_fault) (wd_X7_takeInNumber k w this this_signs this_signs_f this_length this_place R0.1 R0.2.1 R0.2.2 this_letters this_word this_fault) s.heap.size) args s 0 0 A) (F0 m 93 ls [.int t0, .ref this]) := by
    intro  t0 u_this_behind u_this_sort u_this_number H locs ls hP hD hS hl hm
    unfold m_X7_takeInNumber_93 at hm
    refine va_put (pc := 93) (D := D) (ci := 6) (v := .int t0) (ty := .int) (C := RX7) (T := TX7) (N := 9) hx hb hts hiX7 tyX7 tyX7_ok nmX7 hown hG.1 hP hD hS 0 rfl rfl 4 (Nat.le_of_ble_eq_true rfl) (hts _ kw_49) (fun _ h9 => h9) rfl (by decide +kernel) rfl rfl (Nat.le_of_ble_eq_true rfl) dX7_takeInNumber_93 (fun H locs hP hD hS => ?_)
    have hP : va_P D vwCl (wd_X7_takeInNumber k w this this_signs this_signs_f this_length this_place u_this_behind t0 u_this_number this_letters this_word this_fault) H := hP
    have hD : va_D A (wd_X7_takeInNumber k w this this_signs this_signs_f this_length this_place u_this_behind t0 u_this_number this_letters this_word this_fault) := hD
    rw [← Option.some.inj hm]
    exact W.vret hx hb hr (fun t ht _ => hq _ _ H t ht hP hD locs hS) hS.2.2 dX7_takeInNumber_96 hlocks
  have h_74 : ∀ (u_this_behind : Int32) (u_this_sort : Int32) (u_this_number : Int32) (H : Heap) (locs : List Loc) (ls : Array Slot), va_P D vwCl (wd_X7_takeInNumber k w this this_signs this_signs_f this_length this_place u_this_behind u_this_sort u_this_number this_letters this_word this_fault) H → va_D A (wd_X7_takeInNumber k w this this_signs this_signs_f this_length this_place u_this_behind u_this_sort u_this_number this_letters this_word this_fault) → va_S A s.heap H locs → lv_has ls 1 [(0, .ref this)] → m_X7_takeInNumber_74 this_signs_f this_length this_place u_this_behind u_this_sort u_this_number = some R0 → W p l e (Rm 1 21) s m args below meth c H locs 0 0 (MQ below (QW D none (wd_X7_takeInNumber k w this this_signs this_signs_f this_length this_place this_behind this_sort this_number this_letters this_word this_fault) (wd_X7_takeInNumber k w this this_signs this_signs_f this_length this_place R0.1 R0.2.1 R0.2.2 this_letters this_word this_fault) s.heap.size) args s 0 0 A) (F0 m 74 ls []) := by
    intro  u_this_behind u_this_sort u_this_number H locs ls hP hD hS hl hm
    unfold m_X7_takeInNumber_74 at hm
    refine lv_aload_n (pc := 74) hx hb dX7_takeInNumber_74 rfl (lv_at hl 0 rfl) ?_
    refine lv_aload_n (pc := 75) hx hb dX7_takeInNumber_75 rfl (lv_at hl 0 rfl) ?_
    refine va_get (pc := 76) (D := D) (ci := 6) (C := RX7) (T := TX7) (N := 9) hx hb hts hiX7 hown hG.1 hP 0 rfl rfl 3 (Nat.le_of_ble_eq_true rfl) (hts _ kw_48) (fun _ h9 => h9) rfl dX7_takeInNumber_76 ?_
    refine lv_aload_n (pc := 79) hx hb dX7_takeInNumber_79 rfl (lv_at hl 0 rfl) ?_
    refine va_get (pc := 80) (D := D) (ci := 6) (C := RX7) (T := TX7) (N := 9) hx hb hts hiX7 hown hG.1 hP 0 rfl rfl 2 (Nat.le_of_ble_eq_true rfl) (hts _ kw_47) (fun _ h9 => h9) rfl dX7_takeInNumber_80 ?_
    refine lv_isub (pc := 83) hx hb dX7_takeInNumber_83 ?_
    refine lv_iconst (v := 4) (pc := 84) hx hb dX7_takeInNumber_84 (by decide) ?_
    refine lv_icmp_gt (tgt := 92) (pc := 85) hx hb dX7_takeInNumber_85 (by decide) (fun hc => ?_) (fun hc => ?_)
    · rw [if_pos hc] at hm
      refine lv_iconst (v := 4) (pc := 92) hx hb dX7_takeInNumber_92 (by decide) ?_
      exact h_93 4 u_this_behind u_this_sort u_this_number H locs ls hP hD hS (lv_sub hl [] rfl) hm
    · rw [if_neg hc] at hm
      refine lv_iconst (v := 2) (pc := 88) hx hb dX7_takeInNumber_88 (by decide) ?_
      refine lv_goto (tgt := 93) (pc := 89) hx hb dX7_takeInNumber_89 (by decide) ?_
      exact h_93 2 u_this_behind u_this_sort u_this_number H locs ls hP hD hS (lv_sub hl [] rfl) hm
  have h_13 : ∀ (n : Nat), ∀ (u_this_behind : Int32) (u_this_sort : Int32) (u_this_number : Int32) (H : Heap) (locs : List Loc) (ls : Array Slot), va_P D vwCl (wd_X7_takeInNumber k w this this_signs this_signs_f this_length this_place u_this_behind u_this_sort u_this_number this_letters this_word this_fault) H → va_D A (wd_X7_takeInNumber k w this this_signs this_signs_f this_length this_place u_this_behind u_this_sort u_this_number this_letters this_word this_fault) → va_S A s.heap H locs → lv_has ls 1 [(0, .ref this)] → m_X7_takeInNumber_13 this_signs_f this_length this_place n u_this_behind u_this_sort u_this_number = some R0 → W p l e (Rm 1 21) s m args below meth c H locs 0 0 (MQ below (QW D none (wd_X7_takeInNumber k w this this_signs this_signs_f this_length this_place this_behind this_sort this_number this_letters this_word this_fault) (wd_X7_takeInNumber k w this this_signs this_signs_f this_length this_place R0.1 R0.2.1 R0.2.2 this_letters this_word this_fault) s.heap.size) args s 0 0 A) (F0 m 13 ls []) := by
    intro n
    induction n with
    | zero => intro u_this_behind u_this_sort u_this_number H locs ls hP hD hS hl hm; cases hm
    | succ n ih =>
      intro u_this_behind u_this_sort u_this_number H locs ls hP hD hS hl hm
      unfold m_X7_takeInNumber_13 at hm
      refine lv_aload_n (pc := 13) hx hb dX7_takeInNumber_13 rfl (lv_at hl 0 rfl) ?_
      refine va_get (pc := 14) (D := D) (ci := 6) (C := RX7) (T := TX7) (N := 9) hx hb hts hiX7 hown hG.1 hP 0 rfl rfl 3 (Nat.le_of_ble_eq_true rfl) (hts _ kw_48) (fun _ h9 => h9) rfl dX7_takeInNumber_14 ?_
      refine lv_aload_n (pc := 17) hx hb dX7_takeInNumber_17 rfl (lv_at hl 0 rfl) ?_
      refine va_get (pc := 18) (D := D) (ci := 6) (C := RX7) (T := TX7) (N := 9) hx hb hts hiX7 hown hG.1 hP 0 rfl rfl 1 (Nat.le_of_ble_eq_true rfl) (hts _ kw_46) (fun _ h9 => h9) rfl dX7_takeInNumber_18 ?_
      refine lv_icmp_ge (tgt := 74) (pc := 21) hx hb dX7_takeInNumber_21 (by decide) (fun hc => ?_) (fun hc => ?_)
      · rw [if_pos hc] at hm
        exact h_74 u_this_behind u_this_sort u_this_number H locs ls hP hD hS (lv_sub hl [0] rfl) hm
      · rw [if_neg hc] at hm
        refine lv_aload_n (pc := 24) hx hb dX7_takeInNumber_24 rfl (lv_at hl 0 rfl) ?_
        refine lv_aload_n (pc := 25) hx hb dX7_takeInNumber_25 rfl (lv_at hl 0 rfl) ?_
        refine va_get (pc := 26) (D := D) (ci := 6) (C := RX7) (T := TX7) (N := 9) hx hb hts hiX7 hown hG.1 hP 0 rfl rfl 3 (Nat.le_of_ble_eq_true rfl) (hts _ kw_48) (fun _ h9 => h9) rfl dX7_takeInNumber_26 ?_
        obtain ⟨r4, hcl, hm⟩ := bd hm
        refine cr_back (run_V (pc := 29) (n := 1) (As := [.int u_this_behind]) (rest := []) ⟨hx, hb, hml, hown, hts⟩ (c_X7_signAt l D k w this this_signs this_signs_f this_length this_place u_this_behind u_this_sort u_this_number this_letters this_word this_fault u_this_behind r4 hcl) ⟨kw_415, kw_2, by decide +kernel⟩ kw_412 kw_414 ks_16 ⟨Nat.le_of_ble_eq_true rfl, Nat.le_of_ble_eq_true rfl⟩ pre_blind (prRe hE hS (hP.sub [0, 1] rfl) hG) (va_recv hG.1 hP (ci := 6) (q0 := 0) rfl rfl) rfl hl.1 rfl (Nat.le_of_ble_eq_true rfl) dX7_takeInNumber_29 ⟨Nat.zero_le _, Nat.zero_le _⟩) ?_
        obtain ⟨r5, hcl, hm⟩ := bd hm
        refine cr_back (run_S (pc := 32) (n := 1) (As := [.int r4]) (rest := []) ⟨hx, hb, hml, hown, hts⟩ (c_X7_isDigit l D k w r4 r5 hcl) ⟨kw_432, kw_2, by decide +kernel⟩ kw_430 kw_431 ⟨Nat.le_of_ble_eq_true rfl, Nat.le_of_ble_eq_true rfl⟩ pre_blind (prRe hE hS (hP.sub [] rfl) hG) rfl hl.1 rfl (Nat.le_of_ble_eq_true rfl) dX7_takeInNumber_32 ⟨Nat.zero_le _, Nat.zero_le _⟩) ?_
        refine lv_if_eq (tgt := 74) (pc := 35) hx hb dX7_takeInNumber_35 (by decide) (fun hc => ?_) (fun hc => ?_)
        · rw [if_pos hc] at hm
          exact h_74 u_this_behind u_this_sort u_this_number H locs ls hP hD hS (lv_sub hl [0] rfl) hm
        · rw [if_neg hc] at hm
          refine lv_aload_n (pc := 38) hx hb dX7_takeInNumber_38 rfl (lv_at hl 0 rfl) ?_
          refine lv_aload_n (pc := 39) hx hb dX7_takeInNumber_39 rfl (lv_at hl 0 rfl) ?_
          refine va_get (pc := 40) (D := D) (ci := 6) (C := RX7) (T := TX7) (N := 9) hx hb hts hiX7 hown hG.1 hP 0 rfl rfl 5 (Nat.le_of_ble_eq_true rfl) (hts _ kw_50) (fun _ h9 => h9) rfl dX7_takeInNumber_40 ?_
          refine lv_bipush (v := 10) (pc := 43) hx hb dX7_takeInNumber_43 (by decide) ?_
          refine lv_imul (pc := 45) hx hb dX7_takeInNumber_45 ?_
          refine lv_aload_n (pc := 46) hx hb dX7_takeInNumber_46 rfl (lv_at hl 0 rfl) ?_
          refine lv_aload_n (pc := 47) hx hb dX7_takeInNumber_47 rfl (lv_at hl 0 rfl) ?_
          refine va_get (pc := 48) (D := D) (ci := 6) (C := RX7) (T := TX7) (N := 9) hx hb hts hiX7 hown hG.1 hP 0 rfl rfl 3 (Nat.le_of_ble_eq_true rfl) (hts _ kw_48) (fun _ h9 => h9) rfl dX7_takeInNumber_48 ?_
          obtain ⟨r6, hcl, hm⟩ := bd hm
          refine cr_back (run_V (pc := 51) (n := 1) (As := [.int u_this_behind]) (rest := [.int (u_this_number * 10), .ref this]) ⟨hx, hb, hml, hown, hts⟩ (c_X7_signAt l D k w this this_signs this_signs_f this_length this_place u_this_behind u_this_sort u_this_number this_letters this_word this_fault u_this_behind r6 hcl) ⟨kw_415, kw_2, by decide +kernel⟩ kw_412 kw_414 ks_16 ⟨Nat.le_of_ble_eq_true rfl, Nat.le_of_ble_eq_true rfl⟩ pre_blind (prRe hE hS (hP.sub [0, 1] rfl) hG) (va_recv hG.1 hP (ci := 6) (q0 := 0) rfl rfl) rfl hl.1 rfl (Nat.le_of_ble_eq_true rfl) dX7_takeInNumber_51 ⟨Nat.zero_le _, Nat.zero_le _⟩) ?_
          refine lv_bipush (v := 48) (pc := 54) hx hb dX7_takeInNumber_54 (by decide) ?_
          refine lv_isub (pc := 56) hx hb dX7_takeInNumber_56 ?_
          refine lv_iadd (pc := 57) hx hb dX7_takeInNumber_57 ?_
          refine va_put (pc := 58) (D := D) (ci := 6) (v := .int ((u_this_number * 10) + (r6 - 48))) (ty := .int) (C := RX7) (T := TX7) (N := 9) hx hb hts hiX7 tyX7 tyX7_ok nmX7 hown hG.1 hP hD hS 0 rfl rfl 5 (Nat.le_of_ble_eq_true rfl) (hts _ kw_50) (fun _ h9 => h9) rfl (by decide +kernel) rfl rfl (Nat.le_of_ble_eq_true rfl) dX7_takeInNumber_58 (fun H locs hP hD hS => ?_)
          have hP : va_P D vwCl (wd_X7_takeInNumber k w this this_signs this_signs_f this_length this_place u_this_behind u_this_sort ((u_this_number * 10) + (r6 - 48)) this_letters this_word this_fault) H := hP
          have hD : va_D A (wd_X7_takeInNumber k w this this_signs this_signs_f this_length this_place u_this_behind u_this_sort ((u_this_number * 10) + (r6 - 48)) this_letters this_word this_fault) := hD
          refine lv_aload_n (pc := 61) hx hb dX7_takeInNumber_61 rfl (lv_at hl 0 rfl) ?_
          refine lv_dup (pc := 62) hx hb dX7_takeInNumber_62 rfl ?_
          refine va_get (pc := 63) (D := D) (ci := 6) (C := RX7) (T := TX7) (N := 9) hx hb hts hiX7 hown hG.1 hP 0 rfl rfl 3 (Nat.le_of_ble_eq_true rfl) (hts _ kw_48) (fun _ h9 => h9) rfl dX7_takeInNumber_63 ?_
          refine lv_iconst (v := 1) (pc := 66) hx hb dX7_takeInNumber_66 (by decide) ?_
          refine lv_iadd (pc := 67) hx hb dX7_takeInNumber_67 ?_
          refine va_put (pc := 68) (D := D) (ci := 6) (v := .int (u_this_behind + 1)) (ty := .int) (C := RX7) (T := TX7) (N := 9) hx hb hts hiX7 tyX7 tyX7_ok nmX7 hown hG.1 hP hD hS 0 rfl rfl 3 (Nat.le_of_ble_eq_true rfl) (hts _ kw_48) (fun _ h9 => h9) rfl (by decide +kernel) rfl rfl (Nat.le_of_ble_eq_true rfl) dX7_takeInNumber_68 (fun H locs hP hD hS => ?_)
          have hP : va_P D vwCl (wd_X7_takeInNumber k w this this_signs this_signs_f this_length this_place (u_this_behind + 1) u_this_sort ((u_this_number * 10) + (r6 - 48)) this_letters this_word this_fault) H := hP
          have hD : va_D A (wd_X7_takeInNumber k w this this_signs this_signs_f this_length this_place (u_this_behind + 1) u_this_sort ((u_this_number * 10) + (r6 - 48)) this_letters this_word this_fault) := hD
          refine lv_goto (tgt := 13) (pc := 71) hx hb dX7_takeInNumber_71 (by decide) ?_
          exact ih (u_this_behind + 1) u_this_sort ((u_this_number * 10) + (r6 - 48)) H locs ls hP hD hS (lv_sub hl [0] rfl) hm
  unfold m_X7_takeInNumber at hm
  suffices hgo : ∀ (H : Heap) (locs : List Loc), va_P D vwCl (wd_X7_takeInNumber k w this this_signs this_signs_f this_length this_place this_behind this_sort this_number this_letters this_word this_fault) H → va_D A (wd_X7_takeInNumber k w this this_signs this_signs_f this_length this_place this_behind this_sort this_number this_letters this_word this_fault) → va_S A s.heap H locs → W p l e (Rm 1 21) s m args below meth c H locs 0 0 (MQ below (QW D none (wd_X7_takeInNumber k w this this_signs this_signs_f this_length this_place this_behind this_sort this_number this_letters this_word this_fault) (wd_X7_takeInNumber k w this this_signs this_signs_f this_length this_place R0.1 R0.2.1 R0.2.2 this_letters this_word this_fault) s.heap.size) args s 0 0 A) (F0 m 0 ls []) from hgo _ _ hP hD hS
  clear hP hD hS
  intro H locs hP hD hS
  refine lv_aload_n (pc := 0) hx hb dX7_takeInNumber_0 rfl (lv_at hl 0 rfl) ?_
  refine lv_iconst (v := 0) (pc := 1) hx hb dX7_takeInNumber_1 (by decide) ?_
  refine va_put (pc := 2) (D := D) (ci := 6) (v := .int 0) (ty := .int) (C := RX7) (T := TX7) (N := 9) hx hb hts hiX7 tyX7 tyX7_ok nmX7 hown hG.1 hP hD hS 0 rfl rfl 5 (Nat.le_of_ble_eq_true rfl) (hts _ kw_50) (fun _ h9 => h9) rfl (by decide +kernel) rfl rfl (Nat.le_of_ble_eq_true rfl) dX7_takeInNumber_2 (fun H locs hP hD hS => ?_)
  have hP : va_P D vwCl (wd_X7_takeInNumber k w this this_signs this_signs_f this_length this_place this_behind this_sort 0 this_letters this_word this_fault) H := hP
  have hD : va_D A (wd_X7_takeInNumber k w this this_signs this_signs_f this_length this_place this_behind this_sort 0 this_letters this_word this_fault) := hD
  refine lv_aload_n (pc := 5) hx hb dX7_takeInNumber_5 rfl (lv_at hl 0 rfl) ?_
  refine lv_aload_n (pc := 6) hx hb dX7_takeInNumber_6 rfl (lv_at hl 0 rfl) ?_
  refine va_get (pc := 7) (D := D) (ci := 6) (C := RX7) (T := TX7) (N := 9) hx hb hts hiX7 hown hG.1 hP 0 rfl rfl 2 (Nat.le_of_ble_eq_true rfl) (hts _ kw_47) (fun _ h9 => h9) rfl dX7_takeInNumber_7 ?_
  refine va_put (pc := 10) (D := D) (ci := 6) (v := .int this_place) (ty := .int) (C := RX7) (T := TX7) (N := 9) hx hb hts hiX7 tyX7 tyX7_ok nmX7 hown hG.1 hP hD hS 0 rfl rfl 3 (Nat.le_of_ble_eq_true rfl) (hts _ kw_48) (fun _ h9 => h9) rfl (by decide +kernel) rfl rfl (Nat.le_of_ble_eq_true rfl) dX7_takeInNumber_10 (fun H locs hP hD hS => ?_)
  have hP : va_P D vwCl (wd_X7_takeInNumber k w this this_signs this_signs_f this_length this_place this_place this_sort 0 this_letters this_word this_fault) H := hP
  have hD : va_D A (wd_X7_takeInNumber k w this this_signs this_signs_f this_length this_place this_place this_sort 0 this_letters this_word this_fault) := hD
  exact h_13 FU this_place this_sort 0 H locs ls hP hD hS (lv_sub hl [0] rfl) hm
theorem dX7_refuse_0 : decode cX7_refuse 0 = .ok (.aload_n 0, 1) := by decide +kernel
theorem dX7_refuse_1 : decode cX7_refuse 1 = .ok (.getfield 35, 3) := by decide +kernel
theorem dX7_refuse_4 : decode cX7_refuse 4 = .ok (.ifCond .ne 16, 3) := by decide +kernel
theorem dX7_refuse_7 : decode cX7_refuse 7 = .ok (.aload_n 0, 1) := by decide +kernel
theorem dX7_refuse_8 : decode cX7_refuse 8 = .ok (.iload_n 1, 1) := by decide +kernel
theorem dX7_refuse_9 : decode cX7_refuse 9 = .ok (.bipush 16, 2) := by decide +kernel
theorem dX7_refuse_11 : decode cX7_refuse 11 = .ok (.aload_n 0, 1) := by decide +kernel
theorem dX7_refuse_12 : decode cX7_refuse 12 = .ok (.getfield 41, 3) := by decide +kernel
theorem dX7_refuse_15 : decode cX7_refuse 15 = .ok (.imul, 1) := by decide +kernel
theorem dX7_refuse_16 : decode cX7_refuse 16 = .ok (.iadd, 1) := by decide +kernel
theorem dX7_refuse_17 : decode cX7_refuse 17 = .ok (.putfield 35, 3) := by decide +kernel
theorem dX7_refuse_20 : decode cX7_refuse 20 = .ok (.aload_n 0, 1) := by decide +kernel
theorem dX7_refuse_21 : decode cX7_refuse 21 = .ok (.iconst 4, 1) := by decide +kernel
theorem dX7_refuse_22 : decode cX7_refuse 22 = .ok (.putfield 48, 3) := by decide +kernel
theorem dX7_refuse_25 : decode cX7_refuse 25 = .ok (.aload_n 0, 1) := by decide +kernel
theorem dX7_refuse_26 : decode cX7_refuse 26 = .ok (.getstatic 15, 3) := by decide +kernel
theorem dX7_refuse_29 : decode cX7_refuse 29 = .ok (.putfield 21, 3) := by decide +kernel
theorem dX7_refuse_32 : decode cX7_refuse 32 = .ok (.return_, 1) := by decide +kernel
abbrev wd_X7_refuse (k : Nat → ClassId) (w : Nat → Nat) (this : Nat) (this_signs : Nat) (this_length : Int32) (this_place : Int32) (this_behind : Int32) (this_sort : Int32) (this_number : Int32) (this_letters : Int64) (this_word : Nat) (this_fault : Int32) : va_W := [(this, .inr (6, [.ref this_signs, .int this_length, .int this_place, .int this_behind, .int this_sort, .int this_number, .long this_letters, .ref (w this_word), .int this_fault]))]
set_option maxHeartbeats 4000000 in
set_option maxRecDepth 100000 in
theorem c_X7_refuse (l : Launch) (D : va_G) (k : Nat → ClassId) (w : Nat → Nat) (this : Nat) (this_signs : Nat) (this_length : Int32) (this_place : Int32) (this_behind : Int32) (this_sort : Int32) (this_number : Int32) (this_letters : Int64) (this_word : Nat) (this_fault : Int32) (kind : Int32) (R0 : Int32 × Nat × Int32) (hm : m_X7_refuse this_place this_sort this_word this_fault kind = some R0) : CWe w l D (TY k) yX7_refuse cX7_refuse 2 none 0 0 [.ref this, .int kind] (wd_X7_refuse k w this this_signs this_length this_place this_behind this_sort this_number this_letters this_word this_fault) none (wd_X7_refuse k w this this_signs this_length this_place this_behind R0.1 this_number this_letters R0.2.1 R0.2.2) := by
  refine CWe.mk (by decide) (Nat.le_of_ble_eq_true rfl) ?_
  intro p e s m args below meth c ls A ⟨hx, hb, hr, hts, hown, hlocks, hml⟩ hP hG hE hD hA hl hS hq
  have hl : lv_has ls 2 [(0, .ref this), (1, .int kind)] := hl
  have h_20 : ∀ (u_this_sort : Int32) (u_this_word : Nat) (u_this_fault : Int32) (H : Heap) (locs : List Loc) (ls : Array Slot), va_P D vwCl (wd_X7_refuse k w this this_signs this_length this_place this_behind u_this_sort this_number this_letters u_this_word u_this_fault) H → va_D A (wd_X7_refuse k w this this_signs this_length this_place this_behind u_this_sort this_number this_letters u_this_word u_this_fault) → va_S A s.heap H locs → lv_has ls 2 [(0, .ref this)] → m_X7_refuse_20 this_place kind u_this_sort u_this_word u_this_fault = some R0 → W p l e (Rm 0 0) s m args below meth c H locs 0 0 (MQ below (QW D none (wd_X7_refuse k w this this_signs this_length this_place this_behind this_sort this_number this_letters this_word this_fault) (wd_X7_refuse k w this this_signs this_length this_place this_behind R0.1 this_number this_letters R0.2.1 R0.2.2) s.heap.size) args s 0 0 A) (F0 m 20 ls []) := by
    intro  u_this_sort u_this_word u_this_fault H locs ls hP hD hS hl hm
    unfold m_X7_refuse_20 at hm
    refine lv_aload_n (pc := 20) hx hb dX7_refuse_20 rfl (lv_at hl 0 rfl) ?_
    refine lv_iconst (v := 4) (pc := 21) hx hb dX7_refuse_21 (by decide) ?_
    refine va_put (pc := 22) (D := D) (ci := 6) (v := .int 4) (ty := .int) (C := RX7) (T := TX7) (N := 9) hx hb hts hiX7 tyX7 tyX7_ok nmX7 hown hG.1 hP hD hS 0 rfl rfl 4 (Nat.le_of_ble_eq_true rfl) (hts _ kw_49) (fun _ h9 => h9) rfl (by decide +kernel) rfl rfl (Nat.le_of_ble_eq_true rfl) dX7_refuse_22 (fun H locs hP hD hS => ?_)
    have hP : va_P D vwCl (wd_X7_refuse k w this this_signs this_length this_place this_behind 4 this_number this_letters u_this_word u_this_fault) H := hP
    have hD : va_D A (wd_X7_refuse k w this this_signs this_length this_place this_behind 4 this_number this_letters u_this_word u_this_fault) := hD
    refine lv_aload_n (pc := 25) hx hb dX7_refuse_25 rfl (lv_at hl 0 rfl) ?_
    refine en_static (pc := 26) (own := RX7) hx hb hE hS 0 (Nat.le_of_ble_eq_true rfl) hown (hts _ kw_42) dX7_refuse_26 ?_
    refine va_put (pc := 29) (D := D) (ci := 6) (v := .ref (w 0)) (ty := .object "HalfMast$Word") (C := RX7) (T := TX7) (N := 9) hx hb hts hiX7 tyX7 tyX7_ok nmX7 hown hG.1 hP hD hS 0 rfl rfl 7 (Nat.le_of_ble_eq_true rfl) (hts _ kw_54) (fun _ h9 => h9) rfl (by decide +kernel) rfl rfl (Nat.le_of_ble_eq_true rfl) dX7_refuse_29 (fun H locs hP hD hS => ?_)
    have hP : va_P D vwCl (wd_X7_refuse k w this this_signs this_length this_place this_behind 4 this_number this_letters 0 u_this_fault) H := hP
    have hD : va_D A (wd_X7_refuse k w this this_signs this_length this_place this_behind 4 this_number this_letters 0 u_this_fault) := hD
    rw [← Option.some.inj hm]
    exact W.vret hx hb hr (fun t ht _ => hq _ _ H t ht hP hD locs hS) hS.2.2 dX7_refuse_32 hlocks
  unfold m_X7_refuse at hm
  suffices hgo : ∀ (H : Heap) (locs : List Loc), va_P D vwCl (wd_X7_refuse k w this this_signs this_length this_place this_behind this_sort this_number this_letters this_word this_fault) H → va_D A (wd_X7_refuse k w this this_signs this_length this_place this_behind this_sort this_number this_letters this_word this_fault) → va_S A s.heap H locs → W p l e (Rm 0 0) s m args below meth c H locs 0 0 (MQ below (QW D none (wd_X7_refuse k w this this_signs this_length this_place this_behind this_sort this_number this_letters this_word this_fault) (wd_X7_refuse k w this this_signs this_length this_place this_behind R0.1 this_number this_letters R0.2.1 R0.2.2) s.heap.size) args s 0 0 A) (F0 m 0 ls []) from hgo _ _ hP hD hS
  clear hP hD hS
  intro H locs hP hD hS
  refine lv_aload_n (pc := 0) hx hb dX7_refuse_0 rfl (lv_at hl 0 rfl) ?_
  refine va_get (pc := 1) (D := D) (ci := 6) (C := RX7) (T := TX7) (N := 9) hx hb hts hiX7 hown hG.1 hP 0 rfl rfl 8 (Nat.le_of_ble_eq_true rfl) (hts _ kw_58) (fun _ h9 => h9) rfl dX7_refuse_1 ?_
  refine lv_if_ne (tgt := 20) (pc := 4) hx hb dX7_refuse_4 (by decide) (fun hc => ?_) (fun hc => ?_)
  · rw [if_neg hc] at hm
    exact h_20 this_sort this_word this_fault H locs ls hP hD hS (lv_sub hl [0] rfl) hm
  · rw [if_pos hc] at hm
    refine lv_aload_n (pc := 7) hx hb dX7_refuse_7 rfl (lv_at hl 0 rfl) ?_
    refine lv_iload_n (pc := 8) hx hb dX7_refuse_8 rfl (lv_at hl 1 rfl) ?_
    refine lv_bipush (v := 16) (pc := 9) hx hb dX7_refuse_9 (by decide) ?_
    refine lv_aload_n (pc := 11) hx hb dX7_refuse_11 rfl (lv_at hl 0 rfl) ?_
    refine va_get (pc := 12) (D := D) (ci := 6) (C := RX7) (T := TX7) (N := 9) hx hb hts hiX7 hown hG.1 hP 0 rfl rfl 2 (Nat.le_of_ble_eq_true rfl) (hts _ kw_47) (fun _ h9 => h9) rfl dX7_refuse_12 ?_
    refine lv_imul (pc := 15) hx hb dX7_refuse_15 ?_
    refine lv_iadd (pc := 16) hx hb dX7_refuse_16 ?_
    refine va_put (pc := 17) (D := D) (ci := 6) (v := .int (kind + (16 * this_place))) (ty := .int) (C := RX7) (T := TX7) (N := 9) hx hb hts hiX7 tyX7 tyX7_ok nmX7 hown hG.1 hP hD hS 0 rfl rfl 8 (Nat.le_of_ble_eq_true rfl) (hts _ kw_58) (fun _ h9 => h9) rfl (by decide +kernel) rfl rfl (Nat.le_of_ble_eq_true rfl) dX7_refuse_17 (fun H locs hP hD hS => ?_)
    have hP : va_P D vwCl (wd_X7_refuse k w this this_signs this_length this_place this_behind this_sort this_number this_letters this_word (kind + (16 * this_place))) H := hP
    have hD : va_D A (wd_X7_refuse k w this this_signs this_length this_place this_behind this_sort this_number this_letters this_word (kind + (16 * this_place))) := hD
    exact h_20 this_sort this_word (kind + (16 * this_place)) H locs ls hP hD hS (lv_sub hl [0] rfl) hm
theorem dX7_goesOn_0 : decode cX7_goesOn 0 = .ok (.aload_n 0, 1) := by decide +kernel
theorem dX7_goesOn_1 : decode cX7_goesOn 1 = .ok (.getfield 35, 3) := by decide +kernel
theorem dX7_goesOn_4 : decode cX7_goesOn 4 = .ok (.ifCond .ne 14, 3) := by decide +kernel
theorem dX7_goesOn_7 : decode cX7_goesOn 7 = .ok (.aload_n 0, 1) := by decide +kernel
theorem dX7_goesOn_8 : decode cX7_goesOn 8 = .ok (.getfield 48, 3) := by decide +kernel
theorem dX7_goesOn_11 : decode cX7_goesOn 11 = .ok (.ifCond .eq 7, 3) := by decide +kernel
theorem dX7_goesOn_14 : decode cX7_goesOn 14 = .ok (.iconst 1, 1) := by decide +kernel
theorem dX7_goesOn_15 : decode cX7_goesOn 15 = .ok (.goto 4, 3) := by decide +kernel
theorem dX7_goesOn_18 : decode cX7_goesOn 18 = .ok (.iconst 0, 1) := by decide +kernel
theorem dX7_goesOn_19 : decode cX7_goesOn 19 = .ok (.ireturn, 1) := by decide +kernel
abbrev wd_X7_goesOn (k : Nat → ClassId) (w : Nat → Nat) (this : Nat) (this_signs : Nat) (this_length : Int32) (this_place : Int32) (this_behind : Int32) (this_sort : Int32) (this_number : Int32) (this_letters : Int64) (this_word : Nat) (this_fault : Int32) : va_W := [(this, .inr (6, [.ref this_signs, .int this_length, .int this_place, .int this_behind, .int this_sort, .int this_number, .long this_letters, .ref (w this_word), .int this_fault]))]
set_option maxHeartbeats 4000000 in
set_option maxRecDepth 100000 in
theorem c_X7_goesOn (l : Launch) (D : va_G) (k : Nat → ClassId) (w : Nat → Nat) (this : Nat) (this_signs : Nat) (this_length : Int32) (this_place : Int32) (this_behind : Int32) (this_sort : Int32) (this_number : Int32) (this_letters : Int64) (this_word : Nat) (this_fault : Int32) (R0 : Int32) (hm : m_X7_goesOn this_sort this_fault = some R0) : CRe w l D (TY k) yX7_goesOn cX7_goesOn 1 (some .boolean) 0 0 [.ref this] (wd_X7_goesOn k w this this_signs this_length this_place this_behind this_sort this_number this_letters this_word this_fault) (some (.int R0)) := by
  refine CRe.mk (by decide) (Nat.le_of_ble_eq_true rfl) ?_
  intro p e s m args below meth c ls ⟨hx, hb, hr, hts, hown, hlocks, hml⟩ hP hG hE hl
  have hS : va_S (fun _ => False) s.heap s.heap [] := va_S.rf
  have hl : lv_has ls 1 [(0, .ref this)] := hl
  unfold m_X7_goesOn at hm
  refine lv_aload_n (pc := 0) hx hb dX7_goesOn_0 rfl (lv_at hl 0 rfl) ?_
  refine va_get (pc := 1) (D := D) (ci := 6) (C := RX7) (T := TX7) (N := 9) hx hb hts hiX7 hown hG.1 hP 0 rfl rfl 8 (Nat.le_of_ble_eq_true rfl) (hts _ kw_58) (fun _ h9 => h9) rfl dX7_goesOn_1 ?_
  refine lv_if_ne (tgt := 18) (pc := 4) hx hb dX7_goesOn_4 (by decide) (fun hc => ?_) (fun hc => ?_)
  · rw [if_neg hc] at hm
    refine lv_iconst (v := 0) (pc := 18) hx hb dX7_goesOn_18 (by decide) ?_
    rw [← Option.some.inj hm]
    exact W.zret hx hb hr (nar_bool (Or.inl rfl)) (fun t ht _ => ⟨rfl, ht⟩) (fun _ h => by cases h) dX7_goesOn_19 hlocks
  · rw [if_pos hc] at hm
    refine lv_aload_n (pc := 7) hx hb dX7_goesOn_7 rfl (lv_at hl 0 rfl) ?_
    refine va_get (pc := 8) (D := D) (ci := 6) (C := RX7) (T := TX7) (N := 9) hx hb hts hiX7 hown hG.1 hP 0 rfl rfl 4 (Nat.le_of_ble_eq_true rfl) (hts _ kw_49) (fun _ h9 => h9) rfl dX7_goesOn_8 ?_
    refine lv_if_eq (tgt := 18) (pc := 11) hx hb dX7_goesOn_11 (by decide) (fun hc => ?_) (fun hc => ?_)
    · rw [if_pos hc] at hm
      refine lv_iconst (v := 0) (pc := 18) hx hb dX7_goesOn_18 (by decide) ?_
      rw [← Option.some.inj hm]
      exact W.zret hx hb hr (nar_bool (Or.inl rfl)) (fun t ht _ => ⟨rfl, ht⟩) (fun _ h => by cases h) dX7_goesOn_19 hlocks
    · rw [if_neg hc] at hm
      refine lv_iconst (v := 1) (pc := 14) hx hb dX7_goesOn_14 (by decide) ?_
      refine lv_goto (tgt := 19) (pc := 15) hx hb dX7_goesOn_15 (by decide) ?_
      rw [← Option.some.inj hm]
      exact W.zret hx hb hr (nar_bool (Or.inr rfl)) (fun t ht _ => ⟨rfl, ht⟩) (fun _ h => by cases h) dX7_goesOn_19 hlocks
theorem dX7_atSign_0 : decode cX7_atSign 0 = .ok (.aload_n 0, 1) := by decide +kernel
theorem dX7_atSign_1 : decode cX7_atSign 1 = .ok (.getfield 48, 3) := by decide +kernel
theorem dX7_atSign_4 : decode cX7_atSign 4 = .ok (.iconst 3, 1) := by decide +kernel
theorem dX7_atSign_5 : decode cX7_atSign 5 = .ok (.if_icmp .ne 19, 3) := by decide +kernel
theorem dX7_atSign_8 : decode cX7_atSign 8 = .ok (.aload_n 0, 1) := by decide +kernel
theorem dX7_atSign_9 : decode cX7_atSign 9 = .ok (.aload_n 0, 1) := by decide +kernel
theorem dX7_atSign_10 : decode cX7_atSign 10 = .ok (.getfield 41, 3) := by decide +kernel
theorem dX7_atSign_13 : decode cX7_atSign 13 = .ok (.invokevirtual 44, 3) := by decide +kernel
theorem dX7_atSign_16 : decode cX7_atSign 16 = .ok (.iload_n 1, 1) := by decide +kernel
theorem dX7_atSign_17 : decode cX7_atSign 17 = .ok (.if_icmp .ne 7, 3) := by decide +kernel
theorem dX7_atSign_20 : decode cX7_atSign 20 = .ok (.iconst 1, 1) := by decide +kernel
theorem dX7_atSign_21 : decode cX7_atSign 21 = .ok (.goto 4, 3) := by decide +kernel
theorem dX7_atSign_24 : decode cX7_atSign 24 = .ok (.iconst 0, 1) := by decide +kernel
theorem dX7_atSign_25 : decode cX7_atSign 25 = .ok (.ireturn, 1) := by decide +kernel
abbrev wd_X7_atSign (k : Nat → ClassId) (w : Nat → Nat) (this : Nat) (this_signs : Nat) (this_signs_f : Nat → Int32) (this_length : Int32) (this_place : Int32) (this_behind : Int32) (this_sort : Int32) (this_number : Int32) (this_letters : Int64) (this_word : Nat) (this_fault : Int32) : va_W := [(this, .inr (6, [.ref this_signs, .int this_length, .int this_place, .int this_behind, .int this_sort, .int this_number, .long this_letters, .ref (w this_word), .int this_fault])), (this_signs, .inl (k 2, 1000, .inl this_signs_f))]
set_option maxHeartbeats 4000000 in
set_option maxRecDepth 100000 in
theorem c_X7_atSign (l : Launch) (D : va_G) (k : Nat → ClassId) (w : Nat → Nat) (this : Nat) (this_signs : Nat) (this_signs_f : Nat → Int32) (this_length : Int32) (this_place : Int32) (this_behind : Int32) (this_sort : Int32) (this_number : Int32) (this_letters : Int64) (this_word : Nat) (this_fault : Int32) (sign : Int32) (R0 : Int32) (hm : m_X7_atSign this_signs_f this_length this_place this_sort sign = some R0) : CRe w l D (TY k) yX7_atSign cX7_atSign 2 (some .boolean) 1 21 [.ref this, .int sign] (wd_X7_atSign k w this this_signs this_signs_f this_length this_place this_behind this_sort this_number this_letters this_word this_fault) (some (.int R0)) := by
  refine CRe.mk (by decide) (Nat.le_of_ble_eq_true rfl) ?_
  intro p e s m args below meth c ls ⟨hx, hb, hr, hts, hown, hlocks, hml⟩ hP hG hE hl
  have hS : va_S (fun _ => False) s.heap s.heap [] := va_S.rf
  have hl : lv_has ls 2 [(0, .ref this), (1, .int sign)] := hl
  unfold m_X7_atSign at hm
  refine lv_aload_n (pc := 0) hx hb dX7_atSign_0 rfl (lv_at hl 0 rfl) ?_
  refine va_get (pc := 1) (D := D) (ci := 6) (C := RX7) (T := TX7) (N := 9) hx hb hts hiX7 hown hG.1 hP 0 rfl rfl 4 (Nat.le_of_ble_eq_true rfl) (hts _ kw_49) (fun _ h9 => h9) rfl dX7_atSign_1 ?_
  refine lv_iconst (v := 3) (pc := 4) hx hb dX7_atSign_4 (by decide) ?_
  refine lv_icmp_ne (tgt := 24) (pc := 5) hx hb dX7_atSign_5 (by decide) (fun hc => ?_) (fun hc => ?_)
  · rw [if_neg hc] at hm
    refine lv_iconst (v := 0) (pc := 24) hx hb dX7_atSign_24 (by decide) ?_
    rw [← Option.some.inj hm]
    exact W.zret hx hb hr (nar_bool (Or.inl rfl)) (fun t ht _ => ⟨rfl, ht⟩) (fun _ h => by cases h) dX7_atSign_25 hlocks
  · rw [if_pos hc] at hm
    refine lv_aload_n (pc := 8) hx hb dX7_atSign_8 rfl (lv_at hl 0 rfl) ?_
    refine lv_aload_n (pc := 9) hx hb dX7_atSign_9 rfl (lv_at hl 0 rfl) ?_
    refine va_get (pc := 10) (D := D) (ci := 6) (C := RX7) (T := TX7) (N := 9) hx hb hts hiX7 hown hG.1 hP 0 rfl rfl 2 (Nat.le_of_ble_eq_true rfl) (hts _ kw_47) (fun _ h9 => h9) rfl dX7_atSign_10 ?_
    obtain ⟨r2, hcl, hm⟩ := bd hm
    refine cr_back (run_V (pc := 13) (n := 1) (As := [.int this_place]) (rest := []) ⟨hx, hb, hml, hown, hts⟩ (c_X7_signAt l D k w this this_signs this_signs_f this_length this_place this_behind this_sort this_number this_letters this_word this_fault this_place r2 hcl) ⟨kw_415, kw_2, by decide +kernel⟩ kw_412 kw_414 ks_16 ⟨Nat.le_of_ble_eq_true rfl, Nat.le_of_ble_eq_true rfl⟩ pre_blind (prRe hE hS (hP.sub [0, 1] rfl) hG) (va_recv hG.1 hP (ci := 6) (q0 := 0) rfl rfl) rfl hl.1 rfl (Nat.le_of_ble_eq_true rfl) dX7_atSign_13 ⟨Nat.zero_le _, Nat.zero_le _⟩) ?_
    refine lv_iload_n (pc := 16) hx hb dX7_atSign_16 rfl (lv_at hl 1 rfl) ?_
    refine lv_icmp_ne (tgt := 24) (pc := 17) hx hb dX7_atSign_17 (by decide) (fun hc => ?_) (fun hc => ?_)
    · rw [if_neg hc] at hm
      refine lv_iconst (v := 0) (pc := 24) hx hb dX7_atSign_24 (by decide) ?_
      rw [← Option.some.inj hm]
      exact W.zret hx hb hr (nar_bool (Or.inl rfl)) (fun t ht _ => ⟨rfl, ht⟩) (fun _ h => by cases h) dX7_atSign_25 hlocks
    · rw [if_pos hc] at hm
      refine lv_iconst (v := 1) (pc := 20) hx hb dX7_atSign_20 (by decide) ?_
      refine lv_goto (tgt := 25) (pc := 21) hx hb dX7_atSign_21 (by decide) ?_
      rw [← Option.some.inj hm]
      exact W.zret hx hb hr (nar_bool (Or.inr rfl)) (fun t ht _ => ⟨rfl, ht⟩) (fun _ h => by cases h) dX7_atSign_25 hlocks
theorem dX7_atWord_0 : decode cX7_atWord 0 = .ok (.aload_n 0, 1) := by decide +kernel
theorem dX7_atWord_1 : decode cX7_atWord 1 = .ok (.getfield 21, 3) := by decide +kernel
theorem dX7_atWord_4 : decode cX7_atWord 4 = .ok (.aload_n 1, 1) := by decide +kernel
theorem dX7_atWord_5 : decode cX7_atWord 5 = .ok (.if_acmp .ne 7, 3) := by decide +kernel
theorem dX7_atWord_8 : decode cX7_atWord 8 = .ok (.iconst 1, 1) := by decide +kernel
theorem dX7_atWord_9 : decode cX7_atWord 9 = .ok (.goto 4, 3) := by decide +kernel
theorem dX7_atWord_12 : decode cX7_atWord 12 = .ok (.iconst 0, 1) := by decide +kernel
theorem dX7_atWord_13 : decode cX7_atWord 13 = .ok (.ireturn, 1) := by decide +kernel
abbrev wd_X7_atWord (k : Nat → ClassId) (w : Nat → Nat) (this : Nat) (this_signs : Nat) (this_length : Int32) (this_place : Int32) (this_behind : Int32) (this_sort : Int32) (this_number : Int32) (this_letters : Int64) (this_word : Nat) (this_fault : Int32) : va_W := [(this, .inr (6, [.ref this_signs, .int this_length, .int this_place, .int this_behind, .int this_sort, .int this_number, .long this_letters, .ref (w this_word), .int this_fault]))]
set_option maxHeartbeats 4000000 in
set_option maxRecDepth 100000 in
theorem c_X7_atWord (l : Launch) (D : va_G) (k : Nat → ClassId) (w : Nat → Nat) (this : Nat) (this_signs : Nat) (this_length : Int32) (this_place : Int32) (this_behind : Int32) (this_sort : Int32) (this_number : Int32) (this_letters : Int64) (this_word : Nat) (this_fault : Int32) (wanted : Nat) (R0 : Int32) (hm : m_X7_atWord this_word wanted = some R0) : CRe w l D (TY k) yX7_atWord cX7_atWord 2 (some .boolean) 0 0 [.ref this, .ref (w wanted)] (wd_X7_atWord k w this this_signs this_length this_place this_behind this_sort this_number this_letters this_word this_fault) (some (.int R0)) := by
  refine CRe.mk (by decide) (Nat.le_of_ble_eq_true rfl) ?_
  intro p e s m args below meth c ls ⟨hx, hb, hr, hts, hown, hlocks, hml⟩ hP hG hE hl
  have hS : va_S (fun _ => False) s.heap s.heap [] := va_S.rf
  have hl : lv_has ls 2 [(0, .ref this), (1, .ref (w wanted))] := hl
  unfold m_X7_atWord at hm
  refine lv_aload_n (pc := 0) hx hb dX7_atWord_0 rfl (lv_at hl 0 rfl) ?_
  refine va_get (pc := 1) (D := D) (ci := 6) (C := RX7) (T := TX7) (N := 9) hx hb hts hiX7 hown hG.1 hP 0 rfl rfl 7 (Nat.le_of_ble_eq_true rfl) (hts _ kw_54) (fun _ h9 => h9) rfl dX7_atWord_1 ?_
  refine lv_aload_n (pc := 4) hx hb dX7_atWord_4 rfl (lv_at hl 1 rfl) ?_
  obtain ⟨⟨hw1, hw2⟩, hm⟩ := gd hm
  refine en_ne (pc := 5) (tgt := 12) hx hb hE hw1 hw2 dX7_atWord_5 (by decide) (fun hc => ?_) (fun hc => ?_)
  · rw [if_neg hc] at hm
    refine lv_iconst (v := 0) (pc := 12) hx hb dX7_atWord_12 (by decide) ?_
    rw [← Option.some.inj hm]
    exact W.zret hx hb hr (nar_bool (Or.inl rfl)) (fun t ht _ => ⟨rfl, ht⟩) (fun _ h => by cases h) dX7_atWord_13 hlocks
  · rw [if_pos hc] at hm
    refine lv_iconst (v := 1) (pc := 8) hx hb dX7_atWord_8 (by decide) ?_
    refine lv_goto (tgt := 13) (pc := 9) hx hb dX7_atWord_9 (by decide) ?_
    rw [← Option.some.inj hm]
    exact W.zret hx hb hr (nar_bool (Or.inr rfl)) (fun t ht _ => ⟨rfl, ht⟩) (fun _ h => by cases h) dX7_atWord_13 hlocks
theorem dX7_atName_0 : decode cX7_atName 0 = .ok (.aload_n 0, 1) := by decide +kernel
theorem dX7_atName_1 : decode cX7_atName 1 = .ok (.getfield 48, 3) := by decide +kernel
theorem dX7_atName_4 : decode cX7_atName 4 = .ok (.iconst 1, 1) := by decide +kernel
theorem dX7_atName_5 : decode cX7_atName 5 = .ok (.if_icmp .ne 17, 3) := by decide +kernel
theorem dX7_atName_8 : decode cX7_atName 8 = .ok (.aload_n 0, 1) := by decide +kernel
theorem dX7_atName_9 : decode cX7_atName 9 = .ok (.getfield 21, 3) := by decide +kernel
theorem dX7_atName_12 : decode cX7_atName 12 = .ok (.getfield 85, 3) := by decide +kernel
theorem dX7_atName_15 : decode cX7_atName 15 = .ok (.ifCond .ne 7, 3) := by decide +kernel
theorem dX7_atName_18 : decode cX7_atName 18 = .ok (.iconst 1, 1) := by decide +kernel
theorem dX7_atName_19 : decode cX7_atName 19 = .ok (.goto 4, 3) := by decide +kernel
theorem dX7_atName_22 : decode cX7_atName 22 = .ok (.iconst 0, 1) := by decide +kernel
theorem dX7_atName_23 : decode cX7_atName 23 = .ok (.ireturn, 1) := by decide +kernel
abbrev wd_X7_atName (k : Nat → ClassId) (w : Nat → Nat) (this : Nat) (this_signs : Nat) (this_length : Int32) (this_place : Int32) (this_behind : Int32) (this_sort : Int32) (this_number : Int32) (this_letters : Int64) (this_word : Nat) (this_fault : Int32) : va_W := [(this, .inr (6, [.ref this_signs, .int this_length, .int this_place, .int this_behind, .int this_sort, .int this_number, .long this_letters, .ref (w this_word), .int this_fault]))]
set_option maxHeartbeats 4000000 in
set_option maxRecDepth 100000 in
theorem c_X7_atName (l : Launch) (D : va_G) (k : Nat → ClassId) (w : Nat → Nat) (this : Nat) (this_signs : Nat) (this_length : Int32) (this_place : Int32) (this_behind : Int32) (this_sort : Int32) (this_number : Int32) (this_letters : Int64) (this_word : Nat) (this_fault : Int32) (R0 : Int32) (hm : m_X7_atName this_sort this_word = some R0) : CRe w l D (TY k) yX7_atName cX7_atName 1 (some .boolean) 0 0 [.ref this] (wd_X7_atName k w this this_signs this_length this_place this_behind this_sort this_number this_letters this_word this_fault) (some (.int R0)) := by
  refine CRe.mk (by decide) (Nat.le_of_ble_eq_true rfl) ?_
  intro p e s m args below meth c ls ⟨hx, hb, hr, hts, hown, hlocks, hml⟩ hP hG hE hl
  have hS : va_S (fun _ => False) s.heap s.heap [] := va_S.rf
  have hl : lv_has ls 1 [(0, .ref this)] := hl
  unfold m_X7_atName at hm
  refine lv_aload_n (pc := 0) hx hb dX7_atName_0 rfl (lv_at hl 0 rfl) ?_
  refine va_get (pc := 1) (D := D) (ci := 6) (C := RX7) (T := TX7) (N := 9) hx hb hts hiX7 hown hG.1 hP 0 rfl rfl 4 (Nat.le_of_ble_eq_true rfl) (hts _ kw_49) (fun _ h9 => h9) rfl dX7_atName_1 ?_
  refine lv_iconst (v := 1) (pc := 4) hx hb dX7_atName_4 (by decide) ?_
  refine lv_icmp_ne (tgt := 22) (pc := 5) hx hb dX7_atName_5 (by decide) (fun hc => ?_) (fun hc => ?_)
  · rw [if_neg hc] at hm
    refine lv_iconst (v := 0) (pc := 22) hx hb dX7_atName_22 (by decide) ?_
    rw [← Option.some.inj hm]
    exact W.zret hx hb hr (nar_bool (Or.inl rfl)) (fun t ht _ => ⟨rfl, ht⟩) (fun _ h => by cases h) dX7_atName_23 hlocks
  · rw [if_pos hc] at hm
    refine lv_aload_n (pc := 8) hx hb dX7_atName_8 rfl (lv_at hl 0 rfl) ?_
    refine va_get (pc := 9) (D := D) (ci := 6) (C := RX7) (T := TX7) (N := 9) hx hb hts hiX7 hown hG.1 hP 0 rfl rfl 7 (Nat.le_of_ble_eq_true rfl) (hts _ kw_54) (fun _ h9 => h9) rfl dX7_atName_9 ?_
    obtain ⟨hw, hm⟩ := gd hm
    refine en_res (pc := 12) (own := RX7) hx hb hE hS hw hown (va_Nw.use rfl (hG.2 _ kn_1773)) dX7_atName_12 ?_
    refine lv_if_ne (tgt := 22) (pc := 15) hx hb dX7_atName_15 (by decide) (fun hc => ?_) (fun hc => ?_)
    · rw [if_neg hc] at hm
      refine lv_iconst (v := 0) (pc := 22) hx hb dX7_atName_22 (by decide) ?_
      rw [← Option.some.inj hm]
      exact W.zret hx hb hr (nar_bool (Or.inl rfl)) (fun t ht _ => ⟨rfl, ht⟩) (fun _ h => by cases h) dX7_atName_23 hlocks
    · rw [if_pos hc] at hm
      refine lv_iconst (v := 1) (pc := 18) hx hb dX7_atName_18 (by decide) ?_
      refine lv_goto (tgt := 23) (pc := 19) hx hb dX7_atName_19 (by decide) ?_
      rw [← Option.some.inj hm]
      exact W.zret hx hb hr (nar_bool (Or.inr rfl)) (fun t ht _ => ⟨rfl, ht⟩) (fun _ h => by cases h) dX7_atName_23 hlocks
theorem dX7_atNumber_0 : decode cX7_atNumber 0 = .ok (.aload_n 0, 1) := by decide +kernel
theorem dX7_atNumber_1 : decode cX7_atNumber 1 = .ok (.getfield 48, 3) := by decide +kernel
theorem dX7_atNumber_4 : decode cX7_atNumber 4 = .ok (.iconst 2, 1) := by decide +kernel
theorem dX7_atNumber_5 : decode cX7_atNumber 5 = .ok (.if_icmp .ne 7, 3) := by decide +kernel
theorem dX7_atNumber_8 : decode cX7_atNumber 8 = .ok (.iconst 1, 1) := by decide +kernel
theorem dX7_atNumber_9 : decode cX7_atNumber 9 = .ok (.goto 4, 3) := by decide +kernel
theorem dX7_atNumber_12 : decode cX7_atNumber 12 = .ok (.iconst 0, 1) := by decide +kernel
theorem dX7_atNumber_13 : decode cX7_atNumber 13 = .ok (.ireturn, 1) := by decide +kernel
abbrev wd_X7_atNumber (k : Nat → ClassId) (w : Nat → Nat) (this : Nat) (this_signs : Nat) (this_length : Int32) (this_place : Int32) (this_behind : Int32) (this_sort : Int32) (this_number : Int32) (this_letters : Int64) (this_word : Nat) (this_fault : Int32) : va_W := [(this, .inr (6, [.ref this_signs, .int this_length, .int this_place, .int this_behind, .int this_sort, .int this_number, .long this_letters, .ref (w this_word), .int this_fault]))]
set_option maxHeartbeats 4000000 in
set_option maxRecDepth 100000 in
theorem c_X7_atNumber (l : Launch) (D : va_G) (k : Nat → ClassId) (w : Nat → Nat) (this : Nat) (this_signs : Nat) (this_length : Int32) (this_place : Int32) (this_behind : Int32) (this_sort : Int32) (this_number : Int32) (this_letters : Int64) (this_word : Nat) (this_fault : Int32) (R0 : Int32) (hm : m_X7_atNumber this_sort = some R0) : CRe w l D (TY k) yX7_atNumber cX7_atNumber 1 (some .boolean) 0 0 [.ref this] (wd_X7_atNumber k w this this_signs this_length this_place this_behind this_sort this_number this_letters this_word this_fault) (some (.int R0)) := by
  refine CRe.mk (by decide) (Nat.le_of_ble_eq_true rfl) ?_
  intro p e s m args below meth c ls ⟨hx, hb, hr, hts, hown, hlocks, hml⟩ hP hG hE hl
  have hS : va_S (fun _ => False) s.heap s.heap [] := va_S.rf
  have hl : lv_has ls 1 [(0, .ref this)] := hl
  unfold m_X7_atNumber at hm
  refine lv_aload_n (pc := 0) hx hb dX7_atNumber_0 rfl (lv_at hl 0 rfl) ?_
  refine va_get (pc := 1) (D := D) (ci := 6) (C := RX7) (T := TX7) (N := 9) hx hb hts hiX7 hown hG.1 hP 0 rfl rfl 4 (Nat.le_of_ble_eq_true rfl) (hts _ kw_49) (fun _ h9 => h9) rfl dX7_atNumber_1 ?_
  refine lv_iconst (v := 2) (pc := 4) hx hb dX7_atNumber_4 (by decide) ?_
  refine lv_icmp_ne (tgt := 12) (pc := 5) hx hb dX7_atNumber_5 (by decide) (fun hc => ?_) (fun hc => ?_)
  · rw [if_neg hc] at hm
    refine lv_iconst (v := 0) (pc := 12) hx hb dX7_atNumber_12 (by decide) ?_
    rw [← Option.some.inj hm]
    exact W.zret hx hb hr (nar_bool (Or.inl rfl)) (fun t ht _ => ⟨rfl, ht⟩) (fun _ h => by cases h) dX7_atNumber_13 hlocks
  · rw [if_pos hc] at hm
    refine lv_iconst (v := 1) (pc := 8) hx hb dX7_atNumber_8 (by decide) ?_
    refine lv_goto (tgt := 13) (pc := 9) hx hb dX7_atNumber_9 (by decide) ?_
    rw [← Option.some.inj hm]
    exact W.zret hx hb hr (nar_bool (Or.inr rfl)) (fun t ht _ => ⟨rfl, ht⟩) (fun _ h => by cases h) dX7_atNumber_13 hlocks
theorem dX3_factOf_0 : decode cX3_factOf 0 = .ok (.getstatic 95, 3) := by decide +kernel
theorem dX3_factOf_3 : decode cX3_factOf 3 = .ok (.aload_n 0, 1) := by decide +kernel
theorem dX3_factOf_4 : decode cX3_factOf 4 = .ok (.invokevirtual 100, 3) := by decide +kernel
theorem dX3_factOf_7 : decode cX3_factOf 7 = .ok (.iaload, 1) := by decide +kernel
theorem dX3_factOf_8 : decode cX3_factOf 8 = .ok (.tableswitch 43 1 4 #[32, 34, 37, 40], 32) := by decide +kernel
theorem dX3_factOf_40 : decode cX3_factOf 40 = .ok (.iconst (-1), 1) := by decide +kernel
theorem dX3_factOf_41 : decode cX3_factOf 41 = .ok (.ireturn, 1) := by decide +kernel
theorem dX3_factOf_42 : decode cX3_factOf 42 = .ok (.bipush (-2), 2) := by decide +kernel
theorem dX3_factOf_44 : decode cX3_factOf 44 = .ok (.ireturn, 1) := by decide +kernel
theorem dX3_factOf_45 : decode cX3_factOf 45 = .ok (.bipush (-3), 2) := by decide +kernel
theorem dX3_factOf_47 : decode cX3_factOf 47 = .ok (.ireturn, 1) := by decide +kernel
theorem dX3_factOf_48 : decode cX3_factOf 48 = .ok (.bipush (-4), 2) := by decide +kernel
theorem dX3_factOf_50 : decode cX3_factOf 50 = .ok (.ireturn, 1) := by decide +kernel
theorem dX3_factOf_51 : decode cX3_factOf 51 = .ok (.bipush (-13), 2) := by decide +kernel
theorem dX3_factOf_53 : decode cX3_factOf 53 = .ok (.ireturn, 1) := by decide +kernel
abbrev wd_X3_factOf (k : Nat → ClassId) (w : Nat → Nat) : va_W := []
set_option maxHeartbeats 4000000 in
set_option maxRecDepth 100000 in
theorem c_X3_factOf (l : Launch) (D : va_G) (k : Nat → ClassId) (w : Nat → Nat) (word : Nat) (R0 : Int32) (hm : m_X3_factOf word = some R0) : CRe w l D (TY k) yX3_factOf cX3_factOf 1 (some .int) 1 20 [.ref (w word)] (wd_X3_factOf k w ) (some (.int R0)) := by
  refine CRe.mk (by decide) (Nat.le_of_ble_eq_true rfl) ?_
  intro p e s m args below meth c ls ⟨hx, hb, hr, hts, hown, hlocks, hml⟩ hP hG hE hl
  have hS : va_S (fun _ => False) s.heap s.heap [] := va_S.rf
  have hl : lv_has ls 1 [(0, .ref (w word))] := hl
  unfold m_X3_factOf at hm
  refine en_sm (pc := 0) (own := RX3) hx hb hE hS hown (hts _ kw_649) dX3_factOf_0 ?_
  refine lv_aload_n (pc := 3) hx hb dX3_factOf_3 rfl (lv_at hl 0 rfl) ?_
  obtain ⟨hw, hm⟩ := gd hm
  refine en_ordcall (pc := 4) (own := RX3) ⟨hx, hb, hml, hown, hts⟩ hG hE hS hw kw_650 ⟨Nat.le_of_ble_eq_true rfl, Nat.le_of_ble_eq_true rfl⟩ hl.1 (Nat.le_of_ble_eq_true rfl) dX3_factOf_4 ⟨Nat.zero_le _, Nat.zero_le _⟩ ?_
  obtain ⟨hin, hm⟩ := gd hm
  refine en_smld (pc := 7) hx hb hE hS hin dX3_factOf_7 ?_
  by_cases hs0 : (wSm (wOrdf word).toNatClampNeg) = 1
  · rw [if_pos hs0] at hm
    rw [hs0]
    refine lv_tableIn (tgt := 40) (pc := 8) hx hb dX3_factOf_8 (by decide) (by decide) rfl (by decide) ?_
    refine lv_iconst (v := (-1)) (pc := 40) hx hb dX3_factOf_40 (by decide) ?_
    rw [← Option.some.inj hm]
    exact W.iret hx hb hr (fun t ht _ => ⟨rfl, ht⟩) (fun _ h => by cases h) dX3_factOf_41 hlocks
  · rw [if_neg hs0] at hm
    by_cases hs1 : (wSm (wOrdf word).toNatClampNeg) = 2
    · rw [if_pos hs1] at hm
      rw [hs1]
      refine lv_tableIn (tgt := 42) (pc := 8) hx hb dX3_factOf_8 (by decide) (by decide) rfl (by decide) ?_
      refine lv_bipush (v := (-2)) (pc := 42) hx hb dX3_factOf_42 (by decide) ?_
      rw [← Option.some.inj hm]
      exact W.iret hx hb hr (fun t ht _ => ⟨rfl, ht⟩) (fun _ h => by cases h) dX3_factOf_44 hlocks
    · rw [if_neg hs1] at hm
      by_cases hs2 : (wSm (wOrdf word).toNatClampNeg) = 3
      · rw [if_pos hs2] at hm
        rw [hs2]
        refine lv_tableIn (tgt := 45) (pc := 8) hx hb dX3_factOf_8 (by decide) (by decide) rfl (by decide) ?_
        refine lv_bipush (v := (-3)) (pc := 45) hx hb dX3_factOf_45 (by decide) ?_
        rw [← Option.some.inj hm]
        exact W.iret hx hb hr (fun t ht _ => ⟨rfl, ht⟩) (fun _ h => by cases h) dX3_factOf_47 hlocks
      · rw [if_neg hs2] at hm
        by_cases hs3 : (wSm (wOrdf word).toNatClampNeg) = 4
        · rw [if_pos hs3] at hm
          rw [hs3]
          refine lv_tableIn (tgt := 48) (pc := 8) hx hb dX3_factOf_8 (by decide) (by decide) rfl (by decide) ?_
          refine lv_bipush (v := (-4)) (pc := 48) hx hb dX3_factOf_48 (by decide) ?_
          rw [← Option.some.inj hm]
          exact W.iret hx hb hr (fun t ht _ => ⟨rfl, ht⟩) (fun _ h => by cases h) dX3_factOf_50 hlocks
        · rw [if_neg hs3] at hm
          refine lv_tableOut (tgt := 51) (pc := 8) hx hb dX3_factOf_8 (sw_out (by decide) (by decide) (by intro v h1 h2; rcases (show v = 1 ∨ v = 2 ∨ v = 3 ∨ v = 4 by omega) with rfl | rfl | rfl | rfl <;> assumption)) (by decide) ?_
          refine lv_bipush (v := (-13)) (pc := 51) hx hb dX3_factOf_51 (by decide) ?_
          rw [← Option.some.inj hm]
          exact W.iret hx hb hr (fun t ht _ => ⟨rfl, ht⟩) (fun _ h => by cases h) dX3_factOf_53 hlocks
theorem dX8_kindOf_0 : decode cX8_kindOf 0 = .ok (.getstatic 77, 3) := by decide +kernel
theorem dX8_kindOf_3 : decode cX8_kindOf 3 = .ok (.aload_n 0, 1) := by decide +kernel
theorem dX8_kindOf_4 : decode cX8_kindOf 4 = .ok (.invokevirtual 86, 3) := by decide +kernel
theorem dX8_kindOf_7 : decode cX8_kindOf 7 = .ok (.iaload, 1) := by decide +kernel
theorem dX8_kindOf_8 : decode cX8_kindOf 8 = .ok (.tableswitch 40 11 14 #[32, 34, 36, 38], 32) := by decide +kernel
theorem dX8_kindOf_40 : decode cX8_kindOf 40 = .ok (.iconst 0, 1) := by decide +kernel
theorem dX8_kindOf_41 : decode cX8_kindOf 41 = .ok (.ireturn, 1) := by decide +kernel
theorem dX8_kindOf_42 : decode cX8_kindOf 42 = .ok (.iconst 1, 1) := by decide +kernel
theorem dX8_kindOf_43 : decode cX8_kindOf 43 = .ok (.ireturn, 1) := by decide +kernel
theorem dX8_kindOf_44 : decode cX8_kindOf 44 = .ok (.iconst 2, 1) := by decide +kernel
theorem dX8_kindOf_45 : decode cX8_kindOf 45 = .ok (.ireturn, 1) := by decide +kernel
theorem dX8_kindOf_46 : decode cX8_kindOf 46 = .ok (.iconst 3, 1) := by decide +kernel
theorem dX8_kindOf_47 : decode cX8_kindOf 47 = .ok (.ireturn, 1) := by decide +kernel
theorem dX8_kindOf_48 : decode cX8_kindOf 48 = .ok (.iconst (-1), 1) := by decide +kernel
theorem dX8_kindOf_49 : decode cX8_kindOf 49 = .ok (.ireturn, 1) := by decide +kernel
abbrev wd_X8_kindOf (k : Nat → ClassId) (w : Nat → Nat) : va_W := []
set_option maxHeartbeats 4000000 in
set_option maxRecDepth 100000 in
theorem c_X8_kindOf (l : Launch) (D : va_G) (k : Nat → ClassId) (w : Nat → Nat) (word : Nat) (R0 : Int32) (hm : m_X8_kindOf word = some R0) : CRe w l D (TY k) yX8_kindOf cX8_kindOf 1 (some .int) 1 20 [.ref (w word)] (wd_X8_kindOf k w ) (some (.int R0)) := by
  refine CRe.mk (by decide) (Nat.le_of_ble_eq_true rfl) ?_
  intro p e s m args below meth c ls ⟨hx, hb, hr, hts, hown, hlocks, hml⟩ hP hG hE hl
  have hS : va_S (fun _ => False) s.heap s.heap [] := va_S.rf
  have hl : lv_has ls 1 [(0, .ref (w word))] := hl
  unfold m_X8_kindOf at hm
  refine en_sm (pc := 0) (own := RX8) hx hb hE hS hown (hts _ kw_530) dX8_kindOf_0 ?_
  refine lv_aload_n (pc := 3) hx hb dX8_kindOf_3 rfl (lv_at hl 0 rfl) ?_
  obtain ⟨hw, hm⟩ := gd hm
  refine en_ordcall (pc := 4) (own := RX8) ⟨hx, hb, hml, hown, hts⟩ hG hE hS hw kw_532 ⟨Nat.le_of_ble_eq_true rfl, Nat.le_of_ble_eq_true rfl⟩ hl.1 (Nat.le_of_ble_eq_true rfl) dX8_kindOf_4 ⟨Nat.zero_le _, Nat.zero_le _⟩ ?_
  obtain ⟨hin, hm⟩ := gd hm
  refine en_smld (pc := 7) hx hb hE hS hin dX8_kindOf_7 ?_
  by_cases hs0 : (wSm (wOrdf word).toNatClampNeg) = 11
  · rw [if_pos hs0] at hm
    rw [hs0]
    refine lv_tableIn (tgt := 40) (pc := 8) hx hb dX8_kindOf_8 (by decide) (by decide) rfl (by decide) ?_
    refine lv_iconst (v := 0) (pc := 40) hx hb dX8_kindOf_40 (by decide) ?_
    rw [← Option.some.inj hm]
    exact W.iret hx hb hr (fun t ht _ => ⟨rfl, ht⟩) (fun _ h => by cases h) dX8_kindOf_41 hlocks
  · rw [if_neg hs0] at hm
    by_cases hs1 : (wSm (wOrdf word).toNatClampNeg) = 12
    · rw [if_pos hs1] at hm
      rw [hs1]
      refine lv_tableIn (tgt := 42) (pc := 8) hx hb dX8_kindOf_8 (by decide) (by decide) rfl (by decide) ?_
      refine lv_iconst (v := 1) (pc := 42) hx hb dX8_kindOf_42 (by decide) ?_
      rw [← Option.some.inj hm]
      exact W.iret hx hb hr (fun t ht _ => ⟨rfl, ht⟩) (fun _ h => by cases h) dX8_kindOf_43 hlocks
    · rw [if_neg hs1] at hm
      by_cases hs2 : (wSm (wOrdf word).toNatClampNeg) = 13
      · rw [if_pos hs2] at hm
        rw [hs2]
        refine lv_tableIn (tgt := 44) (pc := 8) hx hb dX8_kindOf_8 (by decide) (by decide) rfl (by decide) ?_
        refine lv_iconst (v := 2) (pc := 44) hx hb dX8_kindOf_44 (by decide) ?_
        rw [← Option.some.inj hm]
        exact W.iret hx hb hr (fun t ht _ => ⟨rfl, ht⟩) (fun _ h => by cases h) dX8_kindOf_45 hlocks
      · rw [if_neg hs2] at hm
        by_cases hs3 : (wSm (wOrdf word).toNatClampNeg) = 14
        · rw [if_pos hs3] at hm
          rw [hs3]
          refine lv_tableIn (tgt := 46) (pc := 8) hx hb dX8_kindOf_8 (by decide) (by decide) rfl (by decide) ?_
          refine lv_iconst (v := 3) (pc := 46) hx hb dX8_kindOf_46 (by decide) ?_
          rw [← Option.some.inj hm]
          exact W.iret hx hb hr (fun t ht _ => ⟨rfl, ht⟩) (fun _ h => by cases h) dX8_kindOf_47 hlocks
        · rw [if_neg hs3] at hm
          refine lv_tableOut (tgt := 48) (pc := 8) hx hb dX8_kindOf_8 (sw_out (by decide) (by decide) (by intro v h1 h2; rcases (show v = 11 ∨ v = 12 ∨ v = 13 ∨ v = 14 by omega) with rfl | rfl | rfl | rfl <;> assumption)) (by decide) ?_
          refine lv_iconst (v := (-1)) (pc := 48) hx hb dX8_kindOf_48 (by decide) ?_
          rw [← Option.some.inj hm]
          exact W.iret hx hb hr (fun t ht _ => ⟨rfl, ht⟩) (fun _ h => by cases h) dX8_kindOf_49 hlocks
theorem dX8_roundingOf_0 : decode cX8_roundingOf 0 = .ok (.getstatic 77, 3) := by decide +kernel
theorem dX8_roundingOf_3 : decode cX8_roundingOf 3 = .ok (.aload_n 0, 1) := by decide +kernel
theorem dX8_roundingOf_4 : decode cX8_roundingOf 4 = .ok (.invokevirtual 86, 3) := by decide +kernel
theorem dX8_roundingOf_7 : decode cX8_roundingOf 7 = .ok (.iaload, 1) := by decide +kernel
theorem dX8_roundingOf_8 : decode cX8_roundingOf 8 = .ok (.tableswitch 34 15 17 #[28, 30, 32], 28) := by decide +kernel
theorem dX8_roundingOf_36 : decode cX8_roundingOf 36 = .ok (.iconst 0, 1) := by decide +kernel
theorem dX8_roundingOf_37 : decode cX8_roundingOf 37 = .ok (.ireturn, 1) := by decide +kernel
theorem dX8_roundingOf_38 : decode cX8_roundingOf 38 = .ok (.iconst 1, 1) := by decide +kernel
theorem dX8_roundingOf_39 : decode cX8_roundingOf 39 = .ok (.ireturn, 1) := by decide +kernel
theorem dX8_roundingOf_40 : decode cX8_roundingOf 40 = .ok (.iconst 2, 1) := by decide +kernel
theorem dX8_roundingOf_41 : decode cX8_roundingOf 41 = .ok (.ireturn, 1) := by decide +kernel
theorem dX8_roundingOf_42 : decode cX8_roundingOf 42 = .ok (.iconst (-1), 1) := by decide +kernel
theorem dX8_roundingOf_43 : decode cX8_roundingOf 43 = .ok (.ireturn, 1) := by decide +kernel
abbrev wd_X8_roundingOf (k : Nat → ClassId) (w : Nat → Nat) : va_W := []
set_option maxHeartbeats 4000000 in
set_option maxRecDepth 100000 in
theorem c_X8_roundingOf (l : Launch) (D : va_G) (k : Nat → ClassId) (w : Nat → Nat) (word : Nat) (R0 : Int32) (hm : m_X8_roundingOf word = some R0) : CRe w l D (TY k) yX8_roundingOf cX8_roundingOf 1 (some .int) 1 20 [.ref (w word)] (wd_X8_roundingOf k w ) (some (.int R0)) := by
  refine CRe.mk (by decide) (Nat.le_of_ble_eq_true rfl) ?_
  intro p e s m args below meth c ls ⟨hx, hb, hr, hts, hown, hlocks, hml⟩ hP hG hE hl
  have hS : va_S (fun _ => False) s.heap s.heap [] := va_S.rf
  have hl : lv_has ls 1 [(0, .ref (w word))] := hl
  unfold m_X8_roundingOf at hm
  refine en_sm (pc := 0) (own := RX8) hx hb hE hS hown (hts _ kw_530) dX8_roundingOf_0 ?_
  refine lv_aload_n (pc := 3) hx hb dX8_roundingOf_3 rfl (lv_at hl 0 rfl) ?_
  obtain ⟨hw, hm⟩ := gd hm
  refine en_ordcall (pc := 4) (own := RX8) ⟨hx, hb, hml, hown, hts⟩ hG hE hS hw kw_532 ⟨Nat.le_of_ble_eq_true rfl, Nat.le_of_ble_eq_true rfl⟩ hl.1 (Nat.le_of_ble_eq_true rfl) dX8_roundingOf_4 ⟨Nat.zero_le _, Nat.zero_le _⟩ ?_
  obtain ⟨hin, hm⟩ := gd hm
  refine en_smld (pc := 7) hx hb hE hS hin dX8_roundingOf_7 ?_
  by_cases hs0 : (wSm (wOrdf word).toNatClampNeg) = 15
  · rw [if_pos hs0] at hm
    rw [hs0]
    refine lv_tableIn (tgt := 36) (pc := 8) hx hb dX8_roundingOf_8 (by decide) (by decide) rfl (by decide) ?_
    refine lv_iconst (v := 0) (pc := 36) hx hb dX8_roundingOf_36 (by decide) ?_
    rw [← Option.some.inj hm]
    exact W.iret hx hb hr (fun t ht _ => ⟨rfl, ht⟩) (fun _ h => by cases h) dX8_roundingOf_37 hlocks
  · rw [if_neg hs0] at hm
    by_cases hs1 : (wSm (wOrdf word).toNatClampNeg) = 16
    · rw [if_pos hs1] at hm
      rw [hs1]
      refine lv_tableIn (tgt := 38) (pc := 8) hx hb dX8_roundingOf_8 (by decide) (by decide) rfl (by decide) ?_
      refine lv_iconst (v := 1) (pc := 38) hx hb dX8_roundingOf_38 (by decide) ?_
      rw [← Option.some.inj hm]
      exact W.iret hx hb hr (fun t ht _ => ⟨rfl, ht⟩) (fun _ h => by cases h) dX8_roundingOf_39 hlocks
    · rw [if_neg hs1] at hm
      by_cases hs2 : (wSm (wOrdf word).toNatClampNeg) = 17
      · rw [if_pos hs2] at hm
        rw [hs2]
        refine lv_tableIn (tgt := 40) (pc := 8) hx hb dX8_roundingOf_8 (by decide) (by decide) rfl (by decide) ?_
        refine lv_iconst (v := 2) (pc := 40) hx hb dX8_roundingOf_40 (by decide) ?_
        rw [← Option.some.inj hm]
        exact W.iret hx hb hr (fun t ht _ => ⟨rfl, ht⟩) (fun _ h => by cases h) dX8_roundingOf_41 hlocks
      · rw [if_neg hs2] at hm
        refine lv_tableOut (tgt := 42) (pc := 8) hx hb dX8_roundingOf_8 (sw_out (by decide) (by decide) (by intro v h1 h2; rcases (show v = 15 ∨ v = 16 ∨ v = 17 by omega) with rfl | rfl | rfl <;> assumption)) (by decide) ?_
        refine lv_iconst (v := (-1)) (pc := 42) hx hb dX8_roundingOf_42 (by decide) ?_
        rw [← Option.some.inj hm]
        exact W.iret hx hb hr (fun t ht _ => ⟨rfl, ht⟩) (fun _ h => by cases h) dX8_roundingOf_43 hlocks
theorem dX10_deedOf_0 : decode cX10_deedOf 0 = .ok (.getstatic 90, 3) := by decide +kernel
theorem dX10_deedOf_3 : decode cX10_deedOf 3 = .ok (.aload_n 0, 1) := by decide +kernel
theorem dX10_deedOf_4 : decode cX10_deedOf 4 = .ok (.invokevirtual 95, 3) := by decide +kernel
theorem dX10_deedOf_7 : decode cX10_deedOf 7 = .ok (.iaload, 1) := by decide +kernel
theorem dX10_deedOf_8 : decode cX10_deedOf 8 = .ok (.tableswitch 46 18 22 #[36, 38, 40, 42, 44], 36) := by decide +kernel
theorem dX10_deedOf_44 : decode cX10_deedOf 44 = .ok (.iconst 0, 1) := by decide +kernel
theorem dX10_deedOf_45 : decode cX10_deedOf 45 = .ok (.ireturn, 1) := by decide +kernel
theorem dX10_deedOf_46 : decode cX10_deedOf 46 = .ok (.iconst 1, 1) := by decide +kernel
theorem dX10_deedOf_47 : decode cX10_deedOf 47 = .ok (.ireturn, 1) := by decide +kernel
theorem dX10_deedOf_48 : decode cX10_deedOf 48 = .ok (.iconst 2, 1) := by decide +kernel
theorem dX10_deedOf_49 : decode cX10_deedOf 49 = .ok (.ireturn, 1) := by decide +kernel
theorem dX10_deedOf_50 : decode cX10_deedOf 50 = .ok (.iconst 3, 1) := by decide +kernel
theorem dX10_deedOf_51 : decode cX10_deedOf 51 = .ok (.ireturn, 1) := by decide +kernel
theorem dX10_deedOf_52 : decode cX10_deedOf 52 = .ok (.iconst 4, 1) := by decide +kernel
theorem dX10_deedOf_53 : decode cX10_deedOf 53 = .ok (.ireturn, 1) := by decide +kernel
theorem dX10_deedOf_54 : decode cX10_deedOf 54 = .ok (.iconst (-1), 1) := by decide +kernel
theorem dX10_deedOf_55 : decode cX10_deedOf 55 = .ok (.ireturn, 1) := by decide +kernel
abbrev wd_X10_deedOf (k : Nat → ClassId) (w : Nat → Nat) : va_W := []
set_option maxHeartbeats 4000000 in
set_option maxRecDepth 100000 in
theorem c_X10_deedOf (l : Launch) (D : va_G) (k : Nat → ClassId) (w : Nat → Nat) (word : Nat) (R0 : Int32) (hm : m_X10_deedOf word = some R0) : CRe w l D (TY k) yX10_deedOf cX10_deedOf 1 (some .int) 1 20 [.ref (w word)] (wd_X10_deedOf k w ) (some (.int R0)) := by
  refine CRe.mk (by decide) (Nat.le_of_ble_eq_true rfl) ?_
  intro p e s m args below meth c ls ⟨hx, hb, hr, hts, hown, hlocks, hml⟩ hP hG hE hl
  have hS : va_S (fun _ => False) s.heap s.heap [] := va_S.rf
  have hl : lv_has ls 1 [(0, .ref (w word))] := hl
  unfold m_X10_deedOf at hm
  refine en_sm (pc := 0) (own := RX10) hx hb hE hS hown (hts _ kw_714) dX10_deedOf_0 ?_
  refine lv_aload_n (pc := 3) hx hb dX10_deedOf_3 rfl (lv_at hl 0 rfl) ?_
  obtain ⟨hw, hm⟩ := gd hm
  refine en_ordcall (pc := 4) (own := RX10) ⟨hx, hb, hml, hown, hts⟩ hG hE hS hw kw_715 ⟨Nat.le_of_ble_eq_true rfl, Nat.le_of_ble_eq_true rfl⟩ hl.1 (Nat.le_of_ble_eq_true rfl) dX10_deedOf_4 ⟨Nat.zero_le _, Nat.zero_le _⟩ ?_
  obtain ⟨hin, hm⟩ := gd hm
  refine en_smld (pc := 7) hx hb hE hS hin dX10_deedOf_7 ?_
  by_cases hs0 : (wSm (wOrdf word).toNatClampNeg) = 18
  · rw [if_pos hs0] at hm
    rw [hs0]
    refine lv_tableIn (tgt := 44) (pc := 8) hx hb dX10_deedOf_8 (by decide) (by decide) rfl (by decide) ?_
    refine lv_iconst (v := 0) (pc := 44) hx hb dX10_deedOf_44 (by decide) ?_
    rw [← Option.some.inj hm]
    exact W.iret hx hb hr (fun t ht _ => ⟨rfl, ht⟩) (fun _ h => by cases h) dX10_deedOf_45 hlocks
  · rw [if_neg hs0] at hm
    by_cases hs1 : (wSm (wOrdf word).toNatClampNeg) = 19
    · rw [if_pos hs1] at hm
      rw [hs1]
      refine lv_tableIn (tgt := 46) (pc := 8) hx hb dX10_deedOf_8 (by decide) (by decide) rfl (by decide) ?_
      refine lv_iconst (v := 1) (pc := 46) hx hb dX10_deedOf_46 (by decide) ?_
      rw [← Option.some.inj hm]
      exact W.iret hx hb hr (fun t ht _ => ⟨rfl, ht⟩) (fun _ h => by cases h) dX10_deedOf_47 hlocks
    · rw [if_neg hs1] at hm
      by_cases hs2 : (wSm (wOrdf word).toNatClampNeg) = 20
      · rw [if_pos hs2] at hm
        rw [hs2]
        refine lv_tableIn (tgt := 48) (pc := 8) hx hb dX10_deedOf_8 (by decide) (by decide) rfl (by decide) ?_
        refine lv_iconst (v := 2) (pc := 48) hx hb dX10_deedOf_48 (by decide) ?_
        rw [← Option.some.inj hm]
        exact W.iret hx hb hr (fun t ht _ => ⟨rfl, ht⟩) (fun _ h => by cases h) dX10_deedOf_49 hlocks
      · rw [if_neg hs2] at hm
        by_cases hs3 : (wSm (wOrdf word).toNatClampNeg) = 21
        · rw [if_pos hs3] at hm
          rw [hs3]
          refine lv_tableIn (tgt := 50) (pc := 8) hx hb dX10_deedOf_8 (by decide) (by decide) rfl (by decide) ?_
          refine lv_iconst (v := 3) (pc := 50) hx hb dX10_deedOf_50 (by decide) ?_
          rw [← Option.some.inj hm]
          exact W.iret hx hb hr (fun t ht _ => ⟨rfl, ht⟩) (fun _ h => by cases h) dX10_deedOf_51 hlocks
        · rw [if_neg hs3] at hm
          by_cases hs4 : (wSm (wOrdf word).toNatClampNeg) = 22
          · rw [if_pos hs4] at hm
            rw [hs4]
            refine lv_tableIn (tgt := 52) (pc := 8) hx hb dX10_deedOf_8 (by decide) (by decide) rfl (by decide) ?_
            refine lv_iconst (v := 4) (pc := 52) hx hb dX10_deedOf_52 (by decide) ?_
            rw [← Option.some.inj hm]
            exact W.iret hx hb hr (fun t ht _ => ⟨rfl, ht⟩) (fun _ h => by cases h) dX10_deedOf_53 hlocks
          · rw [if_neg hs4] at hm
            refine lv_tableOut (tgt := 54) (pc := 8) hx hb dX10_deedOf_8 (sw_out (by decide) (by decide) (by intro v h1 h2; rcases (show v = 18 ∨ v = 19 ∨ v = 20 ∨ v = 21 ∨ v = 22 by omega) with rfl | rfl | rfl | rfl | rfl <;> assumption)) (by decide) ?_
            refine lv_iconst (v := (-1)) (pc := 54) hx hb dX10_deedOf_54 (by decide) ?_
            rw [← Option.some.inj hm]
            exact W.iret hx hb hr (fun t ht _ => ⟨rfl, ht⟩) (fun _ h => by cases h) dX10_deedOf_55 hlocks
