/-! LAW: its loop (printed by wip/gen/law.py) -/
theorem dL_law_23 : decode cL_law 23 = .ok (.iload 4, 2) := by decide +kernel
theorem dL_law_25 : decode cL_law 25 = .ok (.aload_n 0, 1) := by decide +kernel
theorem dL_law_26 : decode cL_law 26 = .ok (.arraylength, 1) := by decide +kernel
theorem dL_law_27 : decode cL_law 27 = .ok (.bipush 7, 2) := by decide +kernel
theorem dL_law_29 : decode cL_law 29 = .ok (.isub, 1) := by decide +kernel
theorem dL_law_30 : decode cL_law 30 = .ok (.if_icmp .gt 1535, 3) := by decide +kernel
theorem dL_law_33 : decode cL_law 33 = .ok (.aload_n 0, 1) := by decide +kernel
theorem dL_law_34 : decode cL_law 34 = .ok (.iload 4, 2) := by decide +kernel
theorem dL_law_36 : decode cL_law 36 = .ok (.iaload, 1) := by decide +kernel
theorem dL_law_37 : decode cL_law 37 = .ok (.bipush 63, 2) := by decide +kernel
theorem dL_law_39 : decode cL_law 39 = .ok (.iand, 1) := by decide +kernel
theorem dL_law_40 : decode cL_law 40 = .ok (.tableswitch 1519 0 45 #[200, 347, 360, 373, 386, 423, 460, 497, 522, 559, 572, 585, 610, 635, 660, 685, 698, 711, 736, 773, 798, 811, 848, 873, 886, 923, 948, 973, 1010, 1023, 1036, 1049, 1062, 1075, 1100, 1113, 1138, 1163, 1188, 1213, 1226, 1239, 1300, 1392, 1441, 1494], 200) := by decide +kernel
theorem dL_law_1559 : decode cL_law 1559 = .ok (.iinc 4 7, 3) := by decide +kernel
theorem dL_law_1562 : decode cL_law 1562 = .ok (.goto (-1539), 3) := by decide +kernel
theorem dL_law_1565 : decode cL_law 1565 = .ok (.iconst 1, 1) := by decide +kernel
theorem dL_law_1566 : decode cL_law 1566 = .ok (.ireturn, 1) := by decide +kernel
theorem iv_in {j c L : Nat} (h : 7 * j + c < L) (hL : L ≤ 3584) : vp_in (nI (7 * j) + nI c) L := by
  rw [nI_add]
  exact nI_in h (by omega)
theorem iv_7 (j : Nat) : nI (7 * j) + 7 = nI (7 * (j + 1)) := nI_add (7 * j) 7
theorem len7 : ∀ L : Nat, L < 7 → Int32.ofNat L - 7 < 0 := by decide
theorem loop_le {L j : Nat} {iv : Int32} (hL : L ≤ 3584) (hiv : iv = nI (7 * j)) (hj : 7 * j ≤ L) (hc : ¬ Int32.ofNat L - 7 < iv) : 7 * j + 7 ≤ L := by
  subst hiv
  rcases Nat.lt_or_ge L 7 with h | h
  · exact absurd (show Int32.ofNat L - 7 < nI (7 * j) by rw [show 7 * j = 0 by omega, nI_0]; exact len7 L h) hc
  · rcases Nat.lt_or_ge (L - 7) (7 * j) with g | g
    · exact absurd (show Int32.ofNat L - 7 < nI (7 * j) by rw [show Int32.ofNat L - 7 = nI (L - 7) from pn_sub (a := L) (b := 7) h]; exact nI_lt g (by omega)) hc
    · omega
set_option maxHeartbeats 8000000 in
theorem law_loop {p : Program} {l : Launch} {e : Env} {s : State} {m : MethodId} {below : List Frame} {meth : Method} {c : Code} {b L : Nat} {xs : Nat → Int32} {D : va_G} {k : Nat → ClassId} {w : Nat → Nat} {x mo out sa sb : Nat} (hL : L ≤ 3584) (C0 : lwC p s m c b L xs D k w) (hr : meth.sig.returnType = ret) (hlocks : meth.locks = false) (hfl : l.stackTraces = false) (hXF : XF sa sb (fun q : Nat => s.heap.size ≤ q) s s.heap) : ∀ (n j cells slots : Nat), 7 * j ≤ L → L + 1 ≤ j + n → cells = 156 + j → slots = 19176 + 6 * j → ∀ (iv : Int32), iv = nI (7 * j) → ∀ (H : Heap) (locs : List Loc) (ls : Array Slot), lv_has ls 7 [(0, .ref b), (1, .ref x), (2, .ref mo), (3, .ref out), (4, .int iv)] → INV D k w (fun q : Nat => s.heap.size ≤ q) x mo out H → va_S (fun q : Nat => s.heap.size ≤ q) s.heap H locs → W p l e room_1 s m #[Value.ref b] below meth c H locs cells slots (lw_Z below #[Value.ref b] s) (F0 m 23 ls []) := by
  obtain ⟨hx, hb, hown, hts, hml, hG, hE, hX, hbl⟩ := id C0
  have hbA : ¬ (fun q : Nat => s.heap.size ≤ q) b := Nat.not_le.mpr hbl
  intro n
  induction n with
  | zero => intro j cells slots h1 h2; exact absurd h2 (by omega)
  | succ n ih =>
    intro j cells slots hj hn hcl hsl iv hiv H locs ls hl hI hS
    refine lv_iload (pc := 23) hx hb dL_law_23 (lv_at hl 4 rfl) ?_
    refine lv_aload_n (pc := 25) hx hb dL_law_25 rfl (lv_at hl 0 rfl) ?_
    refine va_slen (pc := 26) hx hb hX hbl hbA hS dL_law_26 ?_
    refine lv_bipush (v := 7) (pc := 27) hx hb dL_law_27 (by decide) ?_
    refine lv_isub (pc := 29) hx hb dL_law_29 ?_
    refine lv_icmp_gt (tgt := 1565) (pc := 30) hx hb dL_law_30 (by decide) (fun hc => ?_) (fun hc => ?_)
    · refine lv_iconst (v := 1) (pc := 1565) hx hb dL_law_1565 (by decide) ?_
      refine va_forget (fun q hq => hS.2.2 q hq) ?_
      refine W.widen (k := 601024) (n := 7293034) (by omega) (by omega) ?_
      exact lw_ret hx hb hr hlocks dL_law_1566
    · have hle : 7 * j + 7 ≤ L := loop_le hL hiv hj hc
      subst hiv
      have hv : vp_in (nI (7 * j) + 1) L ∧ vp_in (nI (7 * j) + 2) L ∧ vp_in (nI (7 * j) + 3) L ∧ vp_in (nI (7 * j) + 4) L ∧ vp_in (nI (7 * j) + 5) L ∧ vp_in (nI (7 * j) + 6) L := ⟨iv_in (c := 1) (by omega) hL, iv_in (c := 2) (by omega) hL, iv_in (c := 3) (by omega) hL, iv_in (c := 4) (by omega) hL, iv_in (c := 5) (by omega) hL, iv_in (c := 6) (by omega) hL⟩
      have next : ∀ (H : Heap) (locs : List Loc) (ls : Array Slot), lv_has ls 7 [(0, .ref b), (1, .ref x), (2, .ref mo), (3, .ref out), (4, .int (nI (7 * j)))] → INV D k w (fun q : Nat => s.heap.size ≤ q) x mo out H → va_S (fun q : Nat => s.heap.size ≤ q) s.heap H locs → W p l e room_1 s m #[Value.ref b] below meth c H locs (cells + 1) (slots + 6) (lw_Z below #[Value.ref b] s) (F0 m 1559 ls []) := by
        intro H locs ls hl hI hS
        refine lv_iinc (k := 4) (v := nI (7 * j) + 7) (lv' := [(4, .int (nI (7 * j) + 7)), (0, .ref b), (1, .ref x), (2, .ref mo), (3, .ref out)]) (pc := 1559) hx hb dL_law_1559 hl rfl rfl (Nat.le_of_ble_eq_true rfl) rfl (fun ls hl => ?_)
        refine lv_goto (tgt := 23) (pc := 1562) hx hb dL_law_1562 (by decide) ?_
        exact ih (j + 1) (cells + 1) (slots + 6) (by omega) (by omega) (by omega) (by omega) _ (iv_7 j) H locs ls (lv_sub hl [1, 2, 3, 4, 0] rfl) hI hS
      have kk : ∀ (H : Heap) (locs : List Loc), INV D k w (fun q : Nat => s.heap.size ≤ q) x mo out H → va_S (fun q : Nat => s.heap.size ≤ q) s.heap H locs → W p l e room_1 s m #[Value.ref b] below meth c H locs cells slots (lw_Z below #[Value.ref b] s) (F0 m 1559 ls []) := fun H locs hI hS => W.widen (k := cells + 1) (n := slots + 6) (Nat.le_succ _) (Nat.le_add_right _ _) (next H locs ls hl hI hS)
      have hcs1 : cells + 1 ≤ room_1.cells ∧ slots + 6 ≤ room_1.slots := ⟨by show cells + 1 ≤ 601024; omega, by show slots + 6 ≤ 7293034; omega⟩
      have hcs : cells ≤ room_1.cells ∧ slots ≤ room_1.slots := ⟨Nat.le_of_succ_le hcs1.1, Nat.le_trans (Nat.le_add_right _ _) hcs1.2⟩
      refine lv_aload_n (pc := 33) hx hb dL_law_33 rfl (lv_at hl 0 rfl) ?_
      refine lv_iload (pc := 34) hx hb dL_law_34 (lv_at hl 4 rfl) ?_
      refine va_sld (pc := 36) hx hb hX hbl hbA hS (nI_in (c := 7 * j) (by omega) (by omega)) dL_law_36 ?_
      refine lv_bipush (v := 63) (pc := 37) hx hb dL_law_37 (by decide) ?_
      refine lv_iand (pc := 39) hx hb dL_law_39 ?_
      refine lv_topi (fun z ez => ?_)
      by_cases g0 : z.toInt < 0
      · exact lv_tableOut (tgt := 1559) (pc := 40) hx hb dL_law_40 (Or.inl g0) (by decide) (kk H locs hI hS)
      by_cases h0 : z.toInt = 0
      · exact lv_tableIn (off := 200) (tgt := 240) (pc := 40) hx hb dL_law_40 (by rw [h0]; decide) (by rw [h0]; decide) (by rw [h0]; rfl) (by decide) (arm_feed C0 hI hS hl hv hcs kk)
      have g1 : ¬ z.toInt < 1 := fun y => h0 (by omega)
      by_cases h1 : z.toInt = 1
      · exact lv_tableIn (off := 347) (tgt := 387) (pc := 40) hx hb dL_law_40 (by rw [h1]; decide) (by rw [h1]; decide) (by rw [h1]; rfl) (by decide) (arm_town C0 hI hS hl hv hcs kk)
      have g2 : ¬ z.toInt < 2 := fun y => h1 (by omega)
      by_cases h2 : z.toInt = 2
      · exact lv_tableIn (off := 360) (tgt := 400) (pc := 40) hx hb dL_law_40 (by rw [h2]; decide) (by rw [h2]; decide) (by rw [h2]; rfl) (by decide) (arm_year C0 hI hS hl hv hcs kk)
      have g3 : ¬ z.toInt < 3 := fun y => h2 (by omega)
      by_cases h3 : z.toInt = 3
      · exact lv_tableIn (off := 373) (tgt := 413) (pc := 40) hx hb dL_law_40 (by rw [h3]; decide) (by rw [h3]; decide) (by rw [h3]; rfl) (by decide) (arm_high C0 hI hS hl hv hcs kk)
      have g4 : ¬ z.toInt < 4 := fun y => h3 (by omega)
      by_cases h4 : z.toInt = 4
      · exact lv_tableIn (off := 386) (tgt := 426) (pc := 40) hx hb dL_law_40 (by rw [h4]; decide) (by rw [h4]; decide) (by rw [h4]; rfl) (by decide) (arm_person C0 hI hS hl hv hcs kk)
      have g5 : ¬ z.toInt < 5 := fun y => h4 (by omega)
      by_cases h5 : z.toInt = 5
      · exact lv_tableIn (off := 423) (tgt := 463) (pc := 40) hx hb dL_law_40 (by rw [h5]; decide) (by rw [h5]; decide) (by rw [h5]; rfl) (by decide) (arm_lose C0 hI hS hl hv hcs kk)
      have g6 : ¬ z.toInt < 6 := fun y => h5 (by omega)
      by_cases h6 : z.toInt = 6
      · exact lv_tableIn (off := 460) (tgt := 500) (pc := 40) hx hb dL_law_40 (by rw [h6]; decide) (by rw [h6]; decide) (by rw [h6]; rfl) (by decide) (arm_get C0 hI hS hl hv hcs kk)
      have g7 : ¬ z.toInt < 7 := fun y => h6 (by omega)
      by_cases h7 : z.toInt = 7
      · exact lv_tableIn (off := 497) (tgt := 537) (pc := 40) hx hb dL_law_40 (by rw [h7]; decide) (by rw [h7]; decide) (by rw [h7]; rfl) (by decide) (arm_spare C0 hI hS hl hv hcs kk)
      have g8 : ¬ z.toInt < 8 := fun y => h7 (by omega)
      by_cases h8 : z.toInt = 8
      · exact lv_tableIn (off := 522) (tgt := 562) (pc := 40) hx hb dL_law_40 (by rw [h8]; decide) (by rw [h8]; decide) (by rw [h8]; rfl) (by decide) (arm_feel C0 hI hS hl hv hcs kk)
      have g9 : ¬ z.toInt < 9 := fun y => h8 (by omega)
      by_cases h9 : z.toInt = 9
      · exact lv_tableIn (off := 559) (tgt := 599) (pc := 40) hx hb dL_law_40 (by rw [h9]; decide) (by rw [h9]; decide) (by rw [h9]; rfl) (by decide) (arm_day C0 hI hS hl hv hcs kk)
      have g10 : ¬ z.toInt < 10 := fun y => h9 (by omega)
      by_cases h10 : z.toInt = 10
      · exact lv_tableIn (off := 572) (tgt := 612) (pc := 40) hx hb dL_law_40 (by rw [h10]; decide) (by rw [h10]; decide) (by rw [h10]; rfl) (by decide) (arm_undo C0 hI hS hl hv hcs kk)
      have g11 : ¬ z.toInt < 11 := fun y => h10 (by omega)
      by_cases h11 : z.toInt = 11
      · exact lv_tableIn (off := 585) (tgt := 625) (pc := 40) hx hb dL_law_40 (by rw [h11]; decide) (by rw [h11]; decide) (by rw [h11]; rfl) (by decide) (arm_judged C0 hI hS hl hv hcs kk)
      have g12 : ¬ z.toInt < 12 := fun y => h11 (by omega)
      by_cases h12 : z.toInt = 12
      · exact lv_tableIn (off := 610) (tgt := 650) (pc := 40) hx hb dL_law_40 (by rw [h12]; decide) (by rw [h12]; decide) (by rw [h12]; rfl) (by decide) (arm_later C0 hI hS hl hv hcs kk)
      have g13 : ¬ z.toInt < 13 := fun y => h12 (by omega)
      by_cases h13 : z.toInt = 13
      · exact lv_tableIn (off := 635) (tgt := 675) (pc := 40) hx hb dL_law_40 (by rw [h13]; decide) (by rw [h13]; decide) (by rw [h13]; rfl) (by decide) (arm_sill C0 hI hS hl hv hcs kk)
      have g14 : ¬ z.toInt < 14 := fun y => h13 (by omega)
      by_cases h14 : z.toInt = 14
      · exact lv_tableIn (off := 660) (tgt := 700) (pc := 40) hx hb dL_law_40 (by rw [h14]; decide) (by rw [h14]; decide) (by rw [h14]; rfl) (by decide) (arm_moves C0 hI hS hl hv hcs kk)
      have g15 : ¬ z.toInt < 15 := fun y => h14 (by omega)
      by_cases h15 : z.toInt = 15
      · exact lv_tableIn (off := 685) (tgt := 725) (pc := 40) hx hb dL_law_40 (by rw [h15]; decide) (by rw [h15]; decide) (by rw [h15]; rfl) (by decide) (arm_settled C0 hI hS hl hv hcs kk)
      have g16 : ¬ z.toInt < 16 := fun y => h15 (by omega)
      by_cases h16 : z.toInt = 16
      · exact lv_tableIn (off := 698) (tgt := 738) (pc := 40) hx hb dL_law_40 (by rw [h16]; decide) (by rw [h16]; decide) (by rw [h16]; rfl) (by decide) (arm_lowest C0 hI hS hl hv hcs kk)
      have g17 : ¬ z.toInt < 17 := fun y => h16 (by omega)
      by_cases h17 : z.toInt = 17
      · exact lv_tableIn (off := 711) (tgt := 751) (pc := 40) hx hb dL_law_40 (by rw [h17]; decide) (by rw [h17]; decide) (by rw [h17]; rfl) (by decide) (arm_spared C0 hI hS hl hv hcs kk)
      have g18 : ¬ z.toInt < 18 := fun y => h17 (by omega)
      by_cases h18 : z.toInt = 18
      · exact lv_tableIn (off := 736) (tgt := 776) (pc := 40) hx hb dL_law_40 (by rw [h18]; decide) (by rw [h18]; decide) (by rw [h18]; rfl) (by decide) (arm_least C0 hI hS hl hv hcs kk)
      have g19 : ¬ z.toInt < 19 := fun y => h18 (by omega)
      by_cases h19 : z.toInt = 19
      · exact lv_tableIn (off := 773) (tgt := 813) (pc := 40) hx hb dL_law_40 (by rw [h19]; decide) (by rw [h19]; decide) (by rw [h19]; rfl) (by decide) (arm_cost C0 hI hS hl hv hcs kk)
      have g20 : ¬ z.toInt < 20 := fun y => h19 (by omega)
      by_cases h20 : z.toInt = 20
      · exact lv_tableIn (off := 798) (tgt := 838) (pc := 40) hx hb dL_law_40 (by rw [h20]; decide) (by rw [h20]; decide) (by rw [h20]; rfl) (by decide) (arm_heavy C0 hI hS hl hv hcs kk)
      have g21 : ¬ z.toInt < 21 := fun y => h20 (by omega)
      by_cases h21 : z.toInt = 21
      · exact lv_tableIn (off := 811) (tgt := 851) (pc := 40) hx hb dL_law_40 (by rw [h21]; decide) (by rw [h21]; decide) (by rw [h21]; rfl) (by decide) (arm_see C0 hI hS hl hv hcs kk)
      have g22 : ¬ z.toInt < 22 := fun y => h21 (by omega)
      by_cases h22 : z.toInt = 22
      · exact lv_tableIn (off := 848) (tgt := 888) (pc := 40) hx hb dL_law_40 (by rw [h22]; decide) (by rw [h22]; decide) (by rw [h22]; rfl) (by decide) (arm_ways C0 hI hS hl hv hcs kk)
      have g23 : ¬ z.toInt < 23 := fun y => h22 (by omega)
      by_cases h23 : z.toInt = 23
      · exact lv_tableIn (off := 873) (tgt := 913) (pc := 40) hx hb dL_law_40 (by rw [h23]; decide) (by rw [h23]; decide) (by rw [h23]; rfl) (by decide) (arm_look C0 hI hS hl hv hcs kk)
      have g24 : ¬ z.toInt < 24 := fun y => h23 (by omega)
      by_cases h24 : z.toInt = 24
      · exact lv_tableIn (off := 886) (tgt := 926) (pc := 40) hx hb dL_law_40 (by rw [h24]; decide) (by rw [h24]; decide) (by rw [h24]; rfl) (by decide) (arm_measure C0 hI hS hl hv hcs kk)
      have g25 : ¬ z.toInt < 25 := fun y => h24 (by omega)
      by_cases h25 : z.toInt = 25
      · exact lv_tableIn (off := 923) (tgt := 963) (pc := 40) hx hb dL_law_40 (by rw [h25]; decide) (by rw [h25]; decide) (by rw [h25]; rfl) (by decide) (arm_rules C0 hI hS hl hv hcs kk)
      have g26 : ¬ z.toInt < 26 := fun y => h25 (by omega)
      by_cases h26 : z.toInt = 26
      · exact lv_tableIn (off := 948) (tgt := 988) (pc := 40) hx hb dL_law_40 (by rw [h26]; decide) (by rw [h26]; decide) (by rw [h26]; rfl) (by decide) (arm_reach C0 hI hS hl hv hcs kk)
      have g27 : ¬ z.toInt < 27 := fun y => h26 (by omega)
      by_cases h27 : z.toInt = 27
      · exact lv_tableIn (off := 973) (tgt := 1013) (pc := 40) hx hb dL_law_40 (by rw [h27]; decide) (by rw [h27]; decide) (by rw [h27]; rfl) (by decide) (arm_through C0 hI hS hl hv hcs kk)
      have g28 : ¬ z.toInt < 28 := fun y => h27 (by omega)
      by_cases h28 : z.toInt = 28
      · exact lv_tableIn (off := 1010) (tgt := 1050) (pc := 40) hx hb dL_law_40 (by rw [h28]; decide) (by rw [h28]; decide) (by rw [h28]; rfl) (by decide) (arm_groups C0 hI hS hl hv hcs kk)
      have g29 : ¬ z.toInt < 29 := fun y => h28 (by omega)
      by_cases h29 : z.toInt = 29
      · exact lv_tableIn (off := 1023) (tgt := 1063) (pc := 40) hx hb dL_law_40 (by rw [h29]; decide) (by rw [h29]; decide) (by rw [h29]; rfl) (by decide) (arm_deaf C0 hI hS hl hv hcs kk)
      have g30 : ¬ z.toInt < 30 := fun y => h29 (by omega)
      by_cases h30 : z.toInt = 30
      · exact lv_tableIn (off := 1036) (tgt := 1076) (pc := 40) hx hb dL_law_40 (by rw [h30]; decide) (by rw [h30]; decide) (by rw [h30]; rfl) (by decide) (arm_alike C0 hI hS hl hv hcs kk)
      have g31 : ¬ z.toInt < 31 := fun y => h30 (by omega)
      by_cases h31 : z.toInt = 31
      · exact lv_tableIn (off := 1049) (tgt := 1089) (pc := 40) hx hb dL_law_40 (by rw [h31]; decide) (by rw [h31]; decide) (by rw [h31]; rfl) (by decide) (arm_worse C0 hI hS hl hv hcs kk)
      have g32 : ¬ z.toInt < 32 := fun y => h31 (by omega)
      by_cases h32 : z.toInt = 32
      · exact lv_tableIn (off := 1062) (tgt := 1102) (pc := 40) hx hb dL_law_40 (by rw [h32]; decide) (by rw [h32]; decide) (by rw [h32]; rfl) (by decide) (arm_mean C0 hI hS hl hv hcs kk)
      have g33 : ¬ z.toInt < 33 := fun y => h32 (by omega)
      by_cases h33 : z.toInt = 33
      · exact lv_tableIn (off := 1075) (tgt := 1115) (pc := 40) hx hb dL_law_40 (by rw [h33]; decide) (by rw [h33]; decide) (by rw [h33]; rfl) (by decide) (arm_rises C0 hI hS hl hv hcs kk)
      have g34 : ¬ z.toInt < 34 := fun y => h33 (by omega)
      by_cases h34 : z.toInt = 34
      · exact lv_tableIn (off := 1100) (tgt := 1140) (pc := 40) hx hb dL_law_40 (by rw [h34]; decide) (by rw [h34]; decide) (by rw [h34]; rfl) (by decide) (arm_turn C0 hI hS hl hv hcs kk)
      have g35 : ¬ z.toInt < 35 := fun y => h34 (by omega)
      by_cases h35 : z.toInt = 35
      · exact lv_tableIn (off := 1113) (tgt := 1153) (pc := 40) hx hb dL_law_40 (by rw [h35]; decide) (by rw [h35]; decide) (by rw [h35]; rfl) (by decide) (arm_range C0 hI hS hl hv hcs kk)
      have g36 : ¬ z.toInt < 36 := fun y => h35 (by omega)
      by_cases h36 : z.toInt = 36
      · exact lv_tableIn (off := 1138) (tgt := 1178) (pc := 40) hx hb dL_law_40 (by rw [h36]; decide) (by rw [h36]; decide) (by rw [h36]; rfl) (by decide) (arm_faith C0 hI hS hl hv hcs kk)
      have g37 : ¬ z.toInt < 37 := fun y => h36 (by omega)
      by_cases h37 : z.toInt = 37
      · exact lv_tableIn (off := 1163) (tgt := 1203) (pc := 40) hx hb dL_law_40 (by rw [h37]; decide) (by rw [h37]; decide) (by rw [h37]; rfl) (by decide) (arm_blame C0 hI hS hl hv hcs kk)
      have g38 : ¬ z.toInt < 38 := fun y => h37 (by omega)
      by_cases h38 : z.toInt = 38
      · exact lv_tableIn (off := 1188) (tgt := 1228) (pc := 40) hx hb dL_law_40 (by rw [h38]; decide) (by rw [h38]; decide) (by rw [h38]; rfl) (by decide) (arm_hearts C0 hI hS hl hv hcs kk)
      have g39 : ¬ z.toInt < 39 := fun y => h38 (by omega)
      by_cases h39 : z.toInt = 39
      · exact lv_tableIn (off := 1213) (tgt := 1253) (pc := 40) hx hb dL_law_40 (by rw [h39]; decide) (by rw [h39]; decide) (by rw [h39]; rfl) (by decide) (arm_pair C0 hI hS hl hv hcs kk)
      have g40 : ¬ z.toInt < 40 := fun y => h39 (by omega)
      by_cases h40 : z.toInt = 40
      · exact lv_tableIn (off := 1226) (tgt := 1266) (pc := 40) hx hb dL_law_40 (by rw [h40]; decide) (by rw [h40]; decide) (by rw [h40]; rfl) (by decide) (arm_even C0 hI hS hl hv hcs kk)
      have g41 : ¬ z.toInt < 41 := fun y => h40 (by omega)
      by_cases h41 : z.toInt = 41
      · exact lv_tableIn (off := 1239) (tgt := 1279) (pc := 40) hx hb dL_law_40 (by rw [h41]; decide) (by rw [h41]; decide) (by rw [h41]; rfl) (by decide) (arm_chance C0 hI hS hl hv hcs kk)
      have g42 : ¬ z.toInt < 42 := fun y => h41 (by omega)
      by_cases h42 : z.toInt = 42
      · exact lv_tableIn (off := 1300) (tgt := 1340) (pc := 40) hx hb dL_law_40 (by rw [h42]; decide) (by rw [h42]; decide) (by rw [h42]; rfl) (by decide) (arm_rests C0 hI hS hl hv hcs1 hfl hXF next)
      have g43 : ¬ z.toInt < 43 := fun y => h42 (by omega)
      by_cases h43 : z.toInt = 43
      · exact lv_tableIn (off := 1392) (tgt := 1432) (pc := 40) hx hb dL_law_40 (by rw [h43]; decide) (by rw [h43]; decide) (by rw [h43]; rfl) (by decide) (arm_years C0 hI hS hl hv hcs kk)
      have g44 : ¬ z.toInt < 44 := fun y => h43 (by omega)
      by_cases h44 : z.toInt = 44
      · exact lv_tableIn (off := 1441) (tgt := 1481) (pc := 40) hx hb dL_law_40 (by rw [h44]; decide) (by rw [h44]; decide) (by rw [h44]; rfl) (by decide) (arm_mark C0 hI hS hl hv hcs kk)
      have g45 : ¬ z.toInt < 45 := fun y => h44 (by omega)
      by_cases h45 : z.toInt = 45
      · exact lv_tableIn (off := 1494) (tgt := 1534) (pc := 40) hx hb dL_law_40 (by rw [h45]; decide) (by rw [h45]; decide) (by rw [h45]; rfl) (by decide) (arm_count C0 hI hS hl hv hcs kk)
      have g46 : ¬ z.toInt < 46 := fun y => h45 (by omega)
      exact lv_tableOut (tgt := 1559) (pc := 40) hx hb dL_law_40 (Or.inr (by omega)) (by decide) (kk H locs hI hS)
