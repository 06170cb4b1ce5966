/-! LAW: its entry (printed by wip/gen/law.py) -/
abbrev wds0 : Nat → Int64 := (vp_updL (vp_updL (vp_updL (vp_updL (vp_updL (vp_updL (vp_updL (vp_updL (vp_updL (vp_updL (vp_updL (vp_updL (vp_updL (vp_updL (vp_updL (vp_updL (vp_updL (vp_updL (vp_updL (vp_updL (vp_updL (vp_updL (vp_updL (vp_updL (vp_updL (vp_updL (fun _ => 0) 0 1119812451) 1 22545118) 2 11505539) 3 660581) 4 1604747591) 5 1277386687) 6 11320465) 7 4904) 8 793) 9 716042) 10 629079) 11 9788) 12 36421547) 13 310960) 14 5538) 15 30596128) 16 23280048) 17 43567634) 18 6040476) 19 19741) 20 1891) 21 573) 22 375629) 23 417812) 24 311227) 25 204726)
theorem wds0_ok : ∀ j, j < 26 → wds0 j = wdM j := by decide +kernel
theorem start_GK {args : Array Value} {s : State} (hts : ∀ w ∈ lw_tbl, w.before args s = true) : ∃ (D : va_G) (k : Nat → ClassId), GK D (TY k) s := by
  have hts' : ∀ w ∈ TB, w.before args s = true := fun w hw => hts w (List.mem_filter.mp hw).1
  obtain ⟨c0, i0, K0⟩ := u_known (C := RX1) (T := TX1) (N := 6) (n := 6) hts' hiX1 (hts' _ kw_141)
  obtain ⟨c1, i1, K1⟩ := u_known (C := RX2) (T := TX2) (N := 3) (n := 3) hts' hiX2 (hts' _ kw_82)
  obtain ⟨c2, i2, K2⟩ := u_known (C := RX3) (T := TX3) (N := 3) (n := 3) hts' hiX3 (hts' _ kw_179)
  obtain ⟨c3, i3, K3⟩ := u_known (C := RX4) (T := TX4) (N := 4) (n := 4) hts' hiX4 (hts' _ kw_253)
  obtain ⟨c4, i4, K4⟩ := u_known (C := RX5) (T := TX5) (N := 3) (n := 3) hts' hiX5 (hts' _ kw_122)
  obtain ⟨c5, i5, K5⟩ := u_known (C := RX6) (T := TX6) (N := 3) (n := 3) hts' hiX6 (hts' _ kw_89)
  obtain ⟨c6, i6, K6⟩ := u_known (C := RX7) (T := TX7) (N := 9) (n := 9) hts' hiX7 (hts' _ kw_37)
  obtain ⟨c7, i7, K7⟩ := u_known (C := RX8) (T := TX8) (N := 9) (n := 9) hts' hiX8 (hts' _ kw_171)
  obtain ⟨c8, i8, K8⟩ := u_known (C := RX10) (T := TX10) (N := 4) (n := 4) hts' hiX10 (hts' _ kw_234)
  obtain ⟨c9, i9, K9⟩ := u_known (C := RX11) (T := TX11) (N := 13) (n := 13) hts' hiX11 (hts' _ kw_29)
  obtain ⟨c10, i10, K10⟩ := u_known (C := RX12) (T := TX12) (N := 30) (n := 30) hts' hiX12 (hts' _ kw_1200)
  obtain ⟨a0, A0, Q0⟩ := ka_n (ty := .int) (hts _ (by decide +kernel))
  obtain ⟨a1, A1, Q1⟩ := ka_n (ty := .long) (hts _ (by decide +kernel))
  obtain ⟨a2, A2, Q2⟩ := ka_n (ty := .char) (hts _ (by decide +kernel))
  obtain ⟨a3, A3, Q3⟩ := ka_n (ty := .boolean) (hts _ (by decide +kernel))
  obtain ⟨a4, A4, Q4⟩ := ka_o (C := "HalfMast$Mark") (hts _ (by decide +kernel))
  obtain ⟨a5, A5, Q5⟩ := ka_o (C := "HalfMast$State") (hts _ (by decide +kernel))
  refine ⟨(fun j => ([c0, c1, c2, c3, c4, c5, c6, c7, c8, c9, c10] : List ClassId).getD j c0, fun j => ([i0, i1, i2, i3, i4, i5, i6, i7, i8, i9, i10] : List (Nat → Nat)).getD j i0), fun j => ([a0, a1, a2, a3, a4, a5] : List ClassId).getD j a0, ⟨?_, ?_⟩, ?_⟩
  · intro j z hz
    match j, hz with
    | 0, hz => cases hz; exact K0
    | 1, hz => cases hz; exact K1
    | 2, hz => cases hz; exact K2
    | 3, hz => cases hz; exact K3
    | 4, hz => cases hz; exact K4
    | 5, hz => cases hz; exact K5
    | 6, hz => cases hz; exact K6
    | 7, hz => cases hz; exact K7
    | 8, hz => cases hz; exact K8
    | 9, hz => cases hz; exact K9
    | 10, hz => cases hz; exact K10
    | j + 11, hz => simp [vwCl] at hz
  · intro j z hz
    match j, hz with
    | 0, hz => cases hz; exact ⟨A0, Q0⟩
    | 1, hz => cases hz; exact ⟨A1, Q1⟩
    | 2, hz => cases hz; exact ⟨A2, Q2⟩
    | 3, hz => cases hz; exact ⟨A3, Q3⟩
    | 4, hz => cases hz; exact ⟨A4, Q4⟩
    | 5, hz => cases hz; exact ⟨A5, Q5⟩
    | j + 6, hz => simp at hz
  · intro z hz
    obtain ⟨h1, h2⟩ := List.mem_filter.mp hz
    exact va_Nw.of (nb_on h2) (hts z (List.mem_append_right _ h1))
theorem dL_law_0 : decode cL_law 0 = .ok (.new 8, 3) := by decide +kernel
theorem dL_law_3 : decode cL_law 3 = .ok (.dup, 1) := by decide +kernel
theorem dL_law_4 : decode cL_law 4 = .ok (.invokespecial 15, 3) := by decide +kernel
theorem dL_law_7 : decode cL_law 7 = .ok (.astore_n 1, 1) := by decide +kernel
theorem dL_law_8 : decode cL_law 8 = .ok (.new 16, 3) := by decide +kernel
theorem dL_law_11 : decode cL_law 11 = .ok (.dup, 1) := by decide +kernel
theorem dL_law_12 : decode cL_law 12 = .ok (.invokespecial 18, 3) := by decide +kernel
theorem dL_law_15 : decode cL_law 15 = .ok (.astore_n 2, 1) := by decide +kernel
theorem dL_law_16 : decode cL_law 16 = .ok (.iconst 1, 1) := by decide +kernel
theorem dL_law_17 : decode cL_law 17 = .ok (.newarray .long, 2) := by decide +kernel
theorem dL_law_19 : decode cL_law 19 = .ok (.astore_n 3, 1) := by decide +kernel
theorem dL_law_20 : decode cL_law 20 = .ok (.iconst 0, 1) := by decide +kernel
theorem dL_law_21 : decode cL_law 21 = .ok (.istore 4, 2) := by decide +kernel
theorem fl_off (l : Launch) (h : l.flags = flags0) : l.stackTraces = false := by
  unfold Launch.stackTraces
  rw [h]
  decide +kernel
set_option maxRecDepth 100000 in
theorem start_Rel : ∃ (S : Int32 × Int32 × Int32 × Int32 × Int32 × Int32 × (Nat → Int32) × (Nat → Int32) × Int32 × (Nat → Int32)) (U : Int32 × Int32 × Int32 × Int32 × (Nat → Int32) × (Nat → Int32)) (t : Nat → Int32) (B : Int32 × Int32 × Int32 × (Nat → Int32) × (Nat → Int32) × (Nat → Int32)), m_X8_clear (fun _ => 0) (fun _ => 0) (fun _ => 0) = some S ∧ m_X1_start (fun _ => 0) (fun _ => 0) (fun _ => 0) S.1 S.2.1 S.2.2.1 S.2.2.2.1 S.2.2.2.2.2.2.1 S.2.2.2.2.2.2.2.1 S.2.2.2.2.2.1 = some U ∧ m_X12_standsAsAlways (fun _ => 0) 0 = some t ∧ m_X12_begins t (fun _ => 0) (fun _ => 0) (fun _ => 0) = some B ∧ ∀ h : Nat, Rel (fun _ => 0) 0 (fun _ => 0) (fun _ => 0) (fun _ => 0) 0 (fun _ => 0) 0 B.2.2.2.1 (fun _ => 0) S.2.2.2.2.2.2.2.2.2 S.2.2.2.2.2.2.2.2.1 S.1 S.2.1 S.2.2.1 S.2.2.2.1 S.2.2.2.2.2.2.1 S.2.2.2.2.2.2.2.1 S.2.2.2.2.2.1 (fun _ => 0) (.ref h) h t (fun _ => 0) (fun _ => 0) B.2.1 B.2.2.1 (fun _ => 0) 0 wds0 U.1 U.2.1 U.2.2.1 U.2.2.2.1 U.2.2.2.2.1 U.2.2.2.2.2 (fun _ => 0) (fun _ _ => 0) (fun _ _ => 0) 0 0 (fun _ => 0) (fun _ => 0) 0 (fun _ => 0) (fun _ => 0) 0 (fun _ => 0) (fun _ => 0) (fun _ _ => 0) (fun _ _ => 0) (fun _ => 0) (fun _ _ => 0) (fun _ _ => 0) (fun _ => 0) (fun _ _ => 0) (fun _ _ => 0) B.2.2.2.2.1 B.1 B.2.2.2.2.2 := by
  have key : ∀ h : Nat, OT (Option.bind (m_X8_clear (fun _ => 0) (fun _ => 0) (fun _ => 0)) (fun S => Option.bind (m_X1_start (fun _ => 0) (fun _ => 0) (fun _ => 0) S.1 S.2.1 S.2.2.1 S.2.2.2.1 S.2.2.2.2.2.2.1 S.2.2.2.2.2.2.2.1 S.2.2.2.2.2.1) (fun U => some (S, U)))) (Option.bind (m_X12_standsAsAlways (fun _ => 0) 0) (fun t => Option.bind (m_X12_begins t (fun _ => 0) (fun _ => 0) (fun _ => 0)) (fun B => some (t, B)))) (fun R R' => Rel (fun _ => 0) 0 (fun _ => 0) (fun _ => 0) (fun _ => 0) 0 (fun _ => 0) 0 R'.2.2.2.2.1 (fun _ => 0) R.1.2.2.2.2.2.2.2.2.2 R.1.2.2.2.2.2.2.2.2.1 R.1.1 R.1.2.1 R.1.2.2.1 R.1.2.2.2.1 R.1.2.2.2.2.2.2.1 R.1.2.2.2.2.2.2.2.1 R.1.2.2.2.2.2.1 (fun _ => 0) (.ref h) h R'.1 (fun _ => 0) (fun _ => 0) R'.2.2.1 R'.2.2.2.1 (fun _ => 0) 0 wds0 R.2.1 R.2.2.1 R.2.2.2.1 R.2.2.2.2.1 R.2.2.2.2.2.1 R.2.2.2.2.2.2 (fun _ => 0) (fun _ _ => 0) (fun _ _ => 0) 0 0 (fun _ => 0) (fun _ => 0) 0 (fun _ => 0) (fun _ => 0) 0 (fun _ => 0) (fun _ => 0) (fun _ _ => 0) (fun _ _ => 0) (fun _ => 0) (fun _ _ => 0) (fun _ _ => 0) (fun _ => 0) (fun _ _ => 0) (fun _ _ => 0) R'.2.2.2.2.2.1 R'.2.1 R'.2.2.2.2.2.2) := fun h => s_init (fun _ _ => rfl) wds0_ok
  obtain ⟨R, R', e1, e2, -⟩ := key 0
  have e1' := e1
  have e2' := e2
  obtain ⟨S, hmS, e1⟩ := bd e1
  obtain ⟨U, hmU, e1⟩ := bd e1
  obtain ⟨t, hmt, e2⟩ := bd e2
  obtain ⟨B, hmB, e2⟩ := bd e2
  cases Option.some.inj e1
  cases Option.some.inj e2
  refine ⟨S, U, t, B, hmS, hmU, hmt, hmB, fun h => ?_⟩
  obtain ⟨R, R', f1, f2, hR⟩ := key h
  cases Option.some.inj (e1'.symm.trans f1)
  cases Option.some.inj (e2'.symm.trans f2)
  exact hR
set_option maxHeartbeats 8000000 in
set_option maxRecDepth 100000 in
theorem whole_start {p : Program} {e : Env} {s : State} {m : MethodId} {below : List Frame} {meth : Method} {c : Code} (l : Launch) (hflags : l.flags = flags0) {b L : Nat} {xs : Nat → Int32} (hL : L ≤ 3584) (C0 : lw_At p s m meth c b L xs) : W p l e room_1 s m #[Value.ref b] below meth c s.heap [] 0 0 (lw_Z below #[Value.ref b] s) (entryFrame m ([Value.ref b] : List Value).toArray 7) := by
  obtain ⟨hx, hb, hr, hml, hown, htl, hX, hbl, hlocks, hgv⟩ := C0
  have hts : ∀ w ∈ TB, w.before #[Value.ref b] s = true := fun w hw => htl w (List.mem_filter.mp hw).1
  have hown : s.vm.findClass RL = some m.cls := hown
  have hfl : l.stackTraces = false := fl_off l hflags
  have hA : ∀ q : Nat, s.heap.size ≤ q → (fun q : Nat => s.heap.size ≤ q) q := fun _ h => h
  have hA0 : ∀ a : Nat, a < s.heap.size → ¬ (fun q : Nat => s.heap.size ≤ q) a := fun a h => Nat.not_le.mpr h
  obtain ⟨D, k, hG⟩ := start_GK htl
  obtain ⟨w, hE⟩ := start_EN htl hgv hA0
  obtain ⟨sa, sb, hXF⟩ := start_XF htl hgv hA0
  have hO : AO s := start_AO htl
  obtain ⟨S, U, t, B, hmS, hmU, hmt, hmB, hRel⟩ := start_Rel
  have hS : va_S (fun q : Nat => s.heap.size ≤ q) s.heap s.heap [] := va_S.rf
  have hP : va_P D vwCl [] s.heap := fun k q h => by simp at h
  have hD : va_D (fun q : Nat => s.heap.size ≤ q) [] := ⟨fun i j p q h => by simp at h, fun k q h => by simp at h⟩
  have hl := lv_entry ([.ref b]) (n := 7) (Nat.le_of_ble_eq_true rfl)
  rw [lg_entry_eq]
  generalize (lg_sl ([.ref b]) ++ List.replicate (7 - (lg_sl ([.ref b])).length) Slot.unset).toArray = ls at hl ⊢
  have hl : lv_has ls 7 [(0, .ref b)] := hl
  refine va_new (pc := 0) (D := D) (ci := 9) (C := RX11) (T := TX11) (N := 13) (fs := [.null, .null, .null, .null, .null, .null, .null, .null, .null, .null, .null, .null, .long 0]) hx hb hts hiX11 tyX11 tyX11_ok hown (hts _ kw_28) (hts _ kw_29) (hts _ kw_1) hG.1 hP hD hS hA rfl (fun j hj => by rcases (show j = 0 ∨ j = 1 ∨ j = 2 ∨ j = 3 ∨ j = 4 ∨ j = 5 ∨ j = 6 ∨ j = 7 ∨ j = 8 ∨ j = 9 ∨ j = 10 ∨ j = 11 ∨ j = 12 by omega) with rfl | rfl | rfl | rfl | rfl | rfl | rfl | rfl | rfl | rfl | rfl | rfl | rfl <;> rfl) (Nat.le_of_ble_eq_true rfl) (Nat.le_of_ble_eq_true rfl) dL_law_0 (fun x H hP hD hS => ?_)
  refine lv_dup (pc := 3) hx hb dL_law_3 rfl ?_
  refine ck_back (run_I (pc := 4) (n := 0) (As := []) (rest := [.ref x]) ⟨hx, hb, hml, hown, hts⟩ (ck_X11_init l D k w x S U hmS hmU H.size) ⟨kw_32, kw_1, by decide +kernel⟩ rfl kw_30 kw_31 ⟨(Nat.le_of_ble_eq_true rfl), (Nat.le_of_ble_eq_true rfl)⟩ pke_blind (prKe hE hS hA (hP.sub [0] rfl) hG (hD.sub [0] (by decide) rfl) hO) rfl hl.1 rfl (Nat.le_of_ble_eq_true rfl) dL_law_4 ⟨(Nat.le_of_ble_eq_true rfl), (Nat.le_of_ble_eq_true rfl)⟩) hP hD hS hA (fun q H locs hP hD hS => ?_)
  refine lv_astore_n (lv' := [(1, .ref x), (0, .ref b)]) (pc := 7) hx hb dL_law_7 rfl hl (Nat.le_of_ble_eq_true rfl) rfl (fun ls hl => ?_)
  refine va_new (pc := 8) (D := D) (ci := 10) (C := RX12) (T := TX12) (N := 30) (fs := [.int 0, .null, .int 0, .int 0, .null, .null, .null, .int 0, .int 0, .null, .null, .null, .null, .int 0, .null, .null, .int 0, .int 0, .int 0, .null, .null, .null, .null, .int 0, .null, .int 0, .int 0, .null, .null, .long 0]) hx hb hts hiX12 tyX12 tyX12_ok hown (hts _ kw_1202) (hts _ kw_1200) (hts _ kw_16) hG.1 hP hD hS hA rfl (fun j hj => by rcases (show j = 0 ∨ j = 1 ∨ j = 2 ∨ j = 3 ∨ j = 4 ∨ j = 5 ∨ j = 6 ∨ j = 7 ∨ j = 8 ∨ j = 9 ∨ j = 10 ∨ j = 11 ∨ j = 12 ∨ j = 13 ∨ j = 14 ∨ j = 15 ∨ j = 16 ∨ j = 17 ∨ j = 18 ∨ j = 19 ∨ j = 20 ∨ j = 21 ∨ j = 22 ∨ j = 23 ∨ j = 24 ∨ j = 25 ∨ j = 26 ∨ j = 27 ∨ j = 28 ∨ j = 29 by omega) with rfl | rfl | rfl | rfl | rfl | rfl | rfl | rfl | rfl | rfl | rfl | rfl | rfl | rfl | rfl | rfl | rfl | rfl | rfl | rfl | rfl | rfl | rfl | rfl | rfl | rfl | rfl | rfl | rfl | rfl <;> rfl) (Nat.le_of_ble_eq_true rfl) (Nat.le_of_ble_eq_true rfl) dL_law_8 (fun mo H hP hD hS => ?_)
  refine lv_dup (pc := 11) hx hb dL_law_11 rfl ?_
  refine ck_back (run_I (pc := 12) (n := 0) (As := []) (rest := [.ref mo]) ⟨hx, hb, hml, hown, hts⟩ (ck_X12_init l D k mo t B hmt hmB H.size) ⟨kw_1205, kw_16, by decide +kernel⟩ rfl kw_1203 kw_1204 ⟨(Nat.le_of_ble_eq_true rfl), (Nat.le_of_ble_eq_true rfl)⟩ pk_blind (prK (hP.sub [137] rfl) hG (hD.sub [137] (by decide) rfl) hO) rfl hl.1 rfl (Nat.le_of_ble_eq_true rfl) dL_law_12 ⟨(Nat.le_of_ble_eq_true rfl), (Nat.le_of_ble_eq_true rfl)⟩) hP hD hS hA (fun r H locs hP hD hS => ?_)
  refine lv_astore_n (lv' := [(2, .ref mo), (1, .ref x), (0, .ref b)]) (pc := 15) hx hb dL_law_15 rfl hl (Nat.le_of_ble_eq_true rfl) rfl (fun ls hl => ?_)
  refine lv_iconst (v := 1) (pc := 16) hx hb dL_law_16 (by decide) ?_
  refine nk_long (pc := 17) (N' := 1) hx hb (hts _ kw_194) hG hP hD hS hA (by decide) rfl (Nat.le_of_ble_eq_true rfl) (Nat.le_of_ble_eq_true rfl) (Nat.le_of_ble_eq_true rfl) dL_law_17 (fun out H hP hD hS => ?_)
  refine lv_astore_n (lv' := [(3, .ref out), (2, .ref mo), (1, .ref x), (0, .ref b)]) (pc := 19) hx hb dL_law_19 rfl hl (Nat.le_of_ble_eq_true rfl) rfl (fun ls hl => ?_)
  refine lv_iconst (v := 0) (pc := 20) hx hb dL_law_20 (by decide) ?_
  refine lv_istore (lv' := [(4, .int 0), (3, .ref out), (2, .ref mo), (1, .ref x), (0, .ref b)]) (pc := 21) hx hb dL_law_21 hl (Nat.le_of_ble_eq_true rfl) rfl (fun ls hl => ?_)
  have hP : va_P D vwCl (WL k w x mo out (q 0) (q 2) (q 52) (q 55) (q 58) (q 59) (q 60) (q 65) (q 70) (q 79) (q 88) (q 92) 0 (q 1) 0 0 0 0 0 0 0 0 (fun _ => 0) (q 3) 0 0 (fun j => q (4 + 3 * j)) (q 53) (q 54) 0 (fun _ => 0) (fun _ => 0) (q 56) (q 57) 0 (fun _ => 0) (fun _ => 0) (fun j => q (96 + 10 * j)) (fun _ => 0) (q 61) (q 64) (.ref (q 70)) U.1 U.2.1 U.2.2.1 (q 62) (q 63) U.2.2.2.1 U.2.2.2.2.1 U.2.2.2.2.2 (fun _ => 0) (q 66) (q 69) .null 0 0 0 (q 67) (q 68) 0 (fun _ => 0) (fun _ => 0) (fun _ => 0) (q 71) (q 72) (q 73) (q 76) S.1 S.2.1 S.2.2.1 S.2.2.2.1 S.2.2.2.2.1 (fun _ => 0) (fun _ => 0) (q 74) (q 75) S.2.2.2.2.2.1 S.2.2.2.2.2.2.1 S.2.2.2.2.2.2.2.1 (q 77) (q 78) S.2.2.2.2.2.2.2.2.1 S.2.2.2.2.2.2.2.2.2 (fun _ => 0) (q 80) (q 81) (q 82) (q 85) 0 0 0 0 0 (fun _ => 0) (fun _ => 0) (q 83) (q 84) 0 (fun _ => 0) (fun _ => 0) (q 86) (q 87) 0 (fun _ => 0) (fun _ => 0) (q 89) (q 90) (q 91) 0 (fun _ => 0) (fun _ => 0) (fun _ => 0) (q 93) (q 94) (q 95) 0 (fun _ => 0) (fun _ => 0) (fun _ => 0) (fun j => q (5 + 3 * j)) (fun j => q (6 + 3 * j)) (fun _ => 0) (fun _ _ => 0) (fun _ _ => 0) (fun j => q (97 + 10 * j)) (fun j => q (100 + 10 * j)) (fun j => q (103 + 10 * j)) (fun _ => 0) (fun j => q (98 + 10 * j)) (fun j => q (99 + 10 * j)) (fun _ => 0) (fun _ _ => 0) (fun _ _ => 0) (fun j => q (101 + 10 * j)) (fun j => q (102 + 10 * j)) (fun _ => 0) (fun _ _ => 0) (fun _ _ => 0) (fun j => q (104 + 10 * j)) (fun j => q (105 + 10 * j)) (fun _ => 0) (fun _ _ => 0) (fun _ _ => 0) 0 (r 0) 0 0 (r 1) (r 2) (r 3) 0 0 (r 4) (r 5) (r 6) (r 7) 0 (r 8) (r 9) 0 0 0 (r 10) (r 11) (r 12) (r 13) B.1 (r 14) B.2.1 B.2.2.1 (r 15) (r 16) 0 (fun _ => 0) (fun _ => 0) (fun _ => 0) (fun _ => 0) wds0 t (fun _ => 0) (fun _ => 0) (fun _ => 0) (fun _ => 0) B.2.2.2.1 (fun _ => 0) (fun _ => 0) B.2.2.2.2.1 B.2.2.2.2.2 (fun _ => 0) (fun _ => 0) (fun _ => 0)) H := hP.sub [0, 1, 2, 3, 4, 53, 54, 55, 56, 57, 58, 59, 60, 61, 62, 63, 64, 65, 66, 67, 68, 69, 70, 71, 72, 73, 74, 75, 76, 77, 78, 79, 80, 81, 82, 83, 84, 85, 86, 87, 88, 89, 90, 91, 92, 93, 94, 95, 96, 5, 6, 7, 8, 9, 10, 11, 12, 13, 14, 15, 16, 17, 18, 19, 20, 21, 22, 23, 24, 25, 26, 27, 28, 29, 30, 31, 32, 33, 34, 35, 36, 37, 38, 39, 40, 41, 42, 43, 44, 45, 46, 47, 48, 49, 50, 51, 52, 97, 98, 99, 100, 101, 102, 103, 104, 105, 106, 107, 108, 109, 110, 111, 112, 113, 114, 115, 116, 117, 118, 119, 120, 121, 122, 123, 124, 125, 126, 127, 128, 129, 130, 131, 132, 133, 134, 135, 136, 137, 138, 139, 140, 141, 142, 143, 144, 145, 146, 147, 148, 149, 150, 151, 152, 153, 154, 155] rfl
  have hD : va_D (fun q : Nat => s.heap.size ≤ q) (WL k w x mo out (q 0) (q 2) (q 52) (q 55) (q 58) (q 59) (q 60) (q 65) (q 70) (q 79) (q 88) (q 92) 0 (q 1) 0 0 0 0 0 0 0 0 (fun _ => 0) (q 3) 0 0 (fun j => q (4 + 3 * j)) (q 53) (q 54) 0 (fun _ => 0) (fun _ => 0) (q 56) (q 57) 0 (fun _ => 0) (fun _ => 0) (fun j => q (96 + 10 * j)) (fun _ => 0) (q 61) (q 64) (.ref (q 70)) U.1 U.2.1 U.2.2.1 (q 62) (q 63) U.2.2.2.1 U.2.2.2.2.1 U.2.2.2.2.2 (fun _ => 0) (q 66) (q 69) .null 0 0 0 (q 67) (q 68) 0 (fun _ => 0) (fun _ => 0) (fun _ => 0) (q 71) (q 72) (q 73) (q 76) S.1 S.2.1 S.2.2.1 S.2.2.2.1 S.2.2.2.2.1 (fun _ => 0) (fun _ => 0) (q 74) (q 75) S.2.2.2.2.2.1 S.2.2.2.2.2.2.1 S.2.2.2.2.2.2.2.1 (q 77) (q 78) S.2.2.2.2.2.2.2.2.1 S.2.2.2.2.2.2.2.2.2 (fun _ => 0) (q 80) (q 81) (q 82) (q 85) 0 0 0 0 0 (fun _ => 0) (fun _ => 0) (q 83) (q 84) 0 (fun _ => 0) (fun _ => 0) (q 86) (q 87) 0 (fun _ => 0) (fun _ => 0) (q 89) (q 90) (q 91) 0 (fun _ => 0) (fun _ => 0) (fun _ => 0) (q 93) (q 94) (q 95) 0 (fun _ => 0) (fun _ => 0) (fun _ => 0) (fun j => q (5 + 3 * j)) (fun j => q (6 + 3 * j)) (fun _ => 0) (fun _ _ => 0) (fun _ _ => 0) (fun j => q (97 + 10 * j)) (fun j => q (100 + 10 * j)) (fun j => q (103 + 10 * j)) (fun _ => 0) (fun j => q (98 + 10 * j)) (fun j => q (99 + 10 * j)) (fun _ => 0) (fun _ _ => 0) (fun _ _ => 0) (fun j => q (101 + 10 * j)) (fun j => q (102 + 10 * j)) (fun _ => 0) (fun _ _ => 0) (fun _ _ => 0) (fun j => q (104 + 10 * j)) (fun j => q (105 + 10 * j)) (fun _ => 0) (fun _ _ => 0) (fun _ _ => 0) 0 (r 0) 0 0 (r 1) (r 2) (r 3) 0 0 (r 4) (r 5) (r 6) (r 7) 0 (r 8) (r 9) 0 0 0 (r 10) (r 11) (r 12) (r 13) B.1 (r 14) B.2.1 B.2.2.1 (r 15) (r 16) 0 (fun _ => 0) (fun _ => 0) (fun _ => 0) (fun _ => 0) wds0 t (fun _ => 0) (fun _ => 0) (fun _ => 0) (fun _ => 0) B.2.2.2.1 (fun _ => 0) (fun _ => 0) B.2.2.2.2.1 B.2.2.2.2.2 (fun _ => 0) (fun _ => 0) (fun _ => 0)) := hD.sub [0, 1, 2, 3, 4, 53, 54, 55, 56, 57, 58, 59, 60, 61, 62, 63, 64, 65, 66, 67, 68, 69, 70, 71, 72, 73, 74, 75, 76, 77, 78, 79, 80, 81, 82, 83, 84, 85, 86, 87, 88, 89, 90, 91, 92, 93, 94, 95, 96, 5, 6, 7, 8, 9, 10, 11, 12, 13, 14, 15, 16, 17, 18, 19, 20, 21, 22, 23, 24, 25, 26, 27, 28, 29, 30, 31, 32, 33, 34, 35, 36, 37, 38, 39, 40, 41, 42, 43, 44, 45, 46, 47, 48, 49, 50, 51, 52, 97, 98, 99, 100, 101, 102, 103, 104, 105, 106, 107, 108, 109, 110, 111, 112, 113, 114, 115, 116, 117, 118, 119, 120, 121, 122, 123, 124, 125, 126, 127, 128, 129, 130, 131, 132, 133, 134, 135, 136, 137, 138, 139, 140, 141, 142, 143, 144, 145, 146, 147, 148, 149, 150, 151, 152, 153, 154, 155] (by decide +kernel) rfl
  have C1 : lwC p s m c b L xs D k w := ⟨hx, hb, hown, hts, hml, hG, hE, hX, hbl⟩
  exact law_loop hL C1 hr hlocks hfl hXF (L + 1) 0 _ _ (Nat.zero_le _) (by omega) rfl rfl 0 nI_0.symm H locs ls (lv_sub hl [4, 3, 2, 1, 0] rfl) (INV.mk (hRel (q 70)) hP hD) hS
