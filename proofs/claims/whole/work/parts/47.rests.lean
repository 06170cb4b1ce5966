/-! MACHINE: rests, which throws -/
abbrev NSE : String := "java/util/NoSuchElementException"
abbrev NSs : List String := ["java/lang/RuntimeException", "java/lang/Exception"]
def nsB : ByteArray := ⟨#[0x2a, 0x2b, 0xb7, 0x00, 0x0d, 0xb1]⟩
abbrev nsAt : List Cond := vn_at RX11 293 NSE 13 nsB NSs
theorem xat_mem : ∀ w ∈ nsAt.filter goodWord, w ∈ TB := by decide +kernel
theorem xat_bad : ∀ w ∈ nsAt.filter (fun w => !goodWord w), w ∈ [Cond.declares (Bundle.initS "java/lang/RuntimeException"), .declares (Bundle.initS "java/lang/Exception"), .declares (Bundle.initS Bundle.tN), .castable NSE NSE] := by decide +kernel
theorem xat_good : ∀ w ∈ Cond.classLink RX11 289 NSE :: Cond.initialized NSE :: nsAt, vx_ot w = true := by decide +kernel
theorem xat_cl : Cond.classLink RX11 289 NSE ∈ TB := by decide +kernel
theorem xat_in : Cond.initialized NSE ∈ TB := by decide +kernel
/-- what a throw stands on: its words that the tables don't keep by themselves, its texts, Throwable's two statics -/
def XW (U : State) : Prop := va_Nw (.declares (Bundle.initS "java/lang/RuntimeException")) U ∧ va_Nw (.declares (Bundle.initS "java/lang/Exception")) U ∧ va_Nw (.declares (Bundle.initS Bundle.tN)) U ∧ va_Nw (.castable NSE NSE) U
theorem XW.warm {u U : State} (hW : u.WarmedH U.vm) (h : XW u) : XW U := ⟨h.1.warmD hW, h.2.1.warmD hW, h.2.2.1.warmD hW, h.2.2.2.warmC hW⟩
theorem XW.same {u U : State} (hv : u.vm = U.vm) (h : XW u) : XW U := ⟨h.1.same rfl hv, h.2.1.same rfl hv, h.2.2.1.same rfl hv, h.2.2.2.same rfl hv⟩
theorem xat {args : Array Value} {s : State} (hts : ∀ w ∈ TB, w.before args s = true) (h : XW s) : ∀ w ∈ nsAt, w.before args s = true := by
  intro w hw
  by_cases g : goodWord w = true
  · exact hts w (xat_mem w (List.mem_filter.mpr ⟨hw, g⟩))
  · have hb := xat_bad w (List.mem_filter.mpr ⟨hw, by rw [Bool.not_eq_true] at g; rw [g]; rfl⟩)
    simp only [List.mem_cons, List.not_mem_nil, or_false] at hb
    rcases hb with rfl | rfl | rfl | rfl
    · exact h.1.use rfl
    · exact h.2.1.use rfl
    · exact h.2.2.1.use rfl
    · exact h.2.2.2.use rfl
def XF (sa sb : Nat) (A : Nat → Prop) (U : State) (H : Heap) : Prop := vk_R RX11 291 "each is told by 0 to 9" sa U ∧ vk_R RX11 300 "there is no such rest" sb U ∧ XW U ∧ vx_Zq Bundle.tN "UNASSIGNED_STACK" Bundle.steD A U H ∧ vx_Zq Bundle.tN "SUPPRESSED_SENTINEL" Bundle.listD A U H
theorem XF.warm {sa sb : Nat} {A : Nat → Prop} {u U : State} {H : Heap} (hW : u.WarmedH U.vm) (h : XF sa sb A u H) : XF sa sb A U H := ⟨h.1.warm hW, h.2.1.warm hW, h.2.2.1.warm hW, h.2.2.2.1.moved hW.alike, h.2.2.2.2.moved hW.alike⟩
theorem XF.kept {sa sb : Nat} {A : Nat → Prop} {U : State} {H H1 : Heap} (h : XF sa sb A U H) (hq : ∀ a : Nat, a < H.size → ¬ A a → H1[a]? = H[a]?) : XF sa sb A U H1 := ⟨h.1, h.2.1, h.2.2.1, h.2.2.2.1.kept hq, h.2.2.2.2.kept hq⟩
theorem XF.narrow {sa sb : Nat} {A B : Nat → Prop} {U : State} {H : Heap} (h : XF sa sb A U H) (hAB : ∀ q, B q → A q) : XF sa sb B U H := ⟨h.1, h.2.1, h.2.2.1, h.2.2.2.1.narrow hAB, h.2.2.2.2.narrow hAB⟩
theorem XF.call {sa sb : Nat} {A : Nat → Prop} {U : State} {g : JFrame} {mk : MethodId} {a : Array Value} (h : XF sa sb A U U.heap) : XF sa sb A (U.calling g mk a) (U.calling g mk a).heap := ⟨vk_R.same (u := U) (U := U.calling g mk a) rfl h.1, vk_R.same (u := U) (U := U.calling g mk a) rfl h.2.1, h.2.2.1.same (u := U) (U := U.calling g mk a) rfl, vx_Zq.moved (u := U) (U := U.calling g mk a) (Vm.Alike.refl U.vm) h.2.2.2.1, vx_Zq.moved (u := U) (U := U.calling g mk a) (Vm.Alike.refl U.vm) h.2.2.2.2⟩
def PX (D : va_G) (tys : List (ClassId × FieldType)) (sa sb : Nat) : State → Prop := fun U => GK D tys U ∧ XF sa sb (fun _ => False) U U.heap
theorem px_blind {D : va_G} {tys : List (ClassId × FieldType)} {sa sb : Nat} {av : List Value} : FrameBlind (va_Pc av (PX D tys sa sb)) := fun _ _ _ _ q => ⟨q.1, q.2.1.call, q.2.2.call⟩
def QX (R : Option Int32) : Array Value → State → Outcome → State → Prop := fun _ st oc t => ∃ v, R = some v ∧ oc = .returned (some (.int v)) ∧ t.heap = st.heap
def XCx (R : Option Int32) : String → State → State → Prop := fun E st t => R = none ∧ E = NSE ∧ st.heap.size ≤ t.heap.size ∧ ∀ q : Nat, q < st.heap.size → t.heap[q]? = st.heap[q]?
theorem dX11_rests_0 : decode cX11_rests 0 = .ok (.iload_n 1, 1) := by decide +kernel
theorem dX11_rests_1 : decode cX11_rests 1 = .ok (.iconst 0, 1) := by decide +kernel
theorem dX11_rests_2 : decode cX11_rests 2 = .ok (.bipush 9, 2) := by decide +kernel
theorem dX11_rests_4 : decode cX11_rests 4 = .ok (.invokestatic 148, 3) := by decide +kernel
theorem dX11_rests_7 : decode cX11_rests 7 = .ok (.ifCond .eq 23, 3) := by decide +kernel
theorem dX11_rests_10 : decode cX11_rests 10 = .ok (.iload_n 2, 1) := by decide +kernel
theorem dX11_rests_11 : decode cX11_rests 11 = .ok (.iconst 0, 1) := by decide +kernel
theorem dX11_rests_12 : decode cX11_rests 12 = .ok (.bipush 9, 2) := by decide +kernel
theorem dX11_rests_14 : decode cX11_rests 14 = .ok (.invokestatic 148, 3) := by decide +kernel
theorem dX11_rests_17 : decode cX11_rests 17 = .ok (.ifCond .eq 13, 3) := by decide +kernel
theorem dX11_rests_20 : decode cX11_rests 20 = .ok (.iload_n 3, 1) := by decide +kernel
theorem dX11_rests_21 : decode cX11_rests 21 = .ok (.iconst 0, 1) := by decide +kernel
theorem dX11_rests_22 : decode cX11_rests 22 = .ok (.bipush 9, 2) := by decide +kernel
theorem dX11_rests_24 : decode cX11_rests 24 = .ok (.invokestatic 148, 3) := by decide +kernel
theorem dX11_rests_27 : decode cX11_rests 27 = .ok (.ifCond .ne 14, 3) := by decide +kernel
theorem dX11_rests_30 : decode cX11_rests 30 = .ok (.new 289, 3) := by decide +kernel
theorem dX11_rests_33 : decode cX11_rests 33 = .ok (.dup, 1) := by decide +kernel
theorem dX11_rests_34 : decode cX11_rests 34 = .ok (.ldc_w 291, 3) := by decide +kernel
theorem dX11_rests_37 : decode cX11_rests 37 = .ok (.invokespecial 293, 3) := by decide +kernel
theorem dX11_rests_40 : decode cX11_rests 40 = .ok (.athrow, 1) := by decide +kernel
theorem dX11_rests_41 : decode cX11_rests 41 = .ok (.iconst 0, 1) := by decide +kernel
theorem dX11_rests_42 : decode cX11_rests 42 = .ok (.istore 5, 2) := by decide +kernel
theorem dX11_rests_44 : decode cX11_rests 44 = .ok (.iconst 0, 1) := by decide +kernel
theorem dX11_rests_45 : decode cX11_rests 45 = .ok (.istore 6, 2) := by decide +kernel
theorem dX11_rests_47 : decode cX11_rests 47 = .ok (.iload 6, 2) := by decide +kernel
theorem dX11_rests_49 : decode cX11_rests 49 = .ok (.iconst 4, 1) := by decide +kernel
theorem dX11_rests_50 : decode cX11_rests 50 = .ok (.if_icmp .ge 33, 3) := by decide +kernel
theorem dX11_rests_53 : decode cX11_rests 53 = .ok (.iload 6, 2) := by decide +kernel
theorem dX11_rests_55 : decode cX11_rests 55 = .ok (.iload_n 1, 1) := by decide +kernel
theorem dX11_rests_56 : decode cX11_rests 56 = .ok (.iload_n 2, 1) := by decide +kernel
theorem dX11_rests_57 : decode cX11_rests 57 = .ok (.iload_n 3, 1) := by decide +kernel
theorem dX11_rests_58 : decode cX11_rests 58 = .ok (.invokestatic 296, 3) := by decide +kernel
theorem dX11_rests_61 : decode cX11_rests 61 = .ok (.ifCond .eq 16, 3) := by decide +kernel
theorem dX11_rests_64 : decode cX11_rests 64 = .ok (.iload 5, 2) := by decide +kernel
theorem dX11_rests_66 : decode cX11_rests 66 = .ok (.iload 4, 2) := by decide +kernel
theorem dX11_rests_68 : decode cX11_rests 68 = .ok (.if_icmp .ne 6, 3) := by decide +kernel
theorem dX11_rests_71 : decode cX11_rests 71 = .ok (.iload 6, 2) := by decide +kernel
theorem dX11_rests_73 : decode cX11_rests 73 = .ok (.ireturn, 1) := by decide +kernel
theorem dX11_rests_74 : decode cX11_rests 74 = .ok (.iinc 5 1, 3) := by decide +kernel
theorem dX11_rests_77 : decode cX11_rests 77 = .ok (.iinc 6 1, 3) := by decide +kernel
theorem dX11_rests_80 : decode cX11_rests 80 = .ok (.goto (-33), 3) := by decide +kernel
theorem dX11_rests_83 : decode cX11_rests 83 = .ok (.iload 4, 2) := by decide +kernel
theorem dX11_rests_85 : decode cX11_rests 85 = .ok (.iconst (-1), 1) := by decide +kernel
theorem dX11_rests_86 : decode cX11_rests 86 = .ok (.if_icmp .eq 14, 3) := by decide +kernel
theorem dX11_rests_89 : decode cX11_rests 89 = .ok (.new 289, 3) := by decide +kernel
theorem dX11_rests_92 : decode cX11_rests 92 = .ok (.dup, 1) := by decide +kernel
theorem dX11_rests_93 : decode cX11_rests 93 = .ok (.ldc_w 300, 3) := by decide +kernel
theorem dX11_rests_96 : decode cX11_rests 96 = .ok (.invokespecial 293, 3) := by decide +kernel
theorem dX11_rests_99 : decode cX11_rests 99 = .ok (.athrow, 1) := by decide +kernel
theorem dX11_rests_100 : decode cX11_rests 100 = .ok (.iload 5, 2) := by decide +kernel
theorem dX11_rests_102 : decode cX11_rests 102 = .ok (.ireturn, 1) := by decide +kernel
set_option maxHeartbeats 4000000 in
theorem c_X11_rests (l : Launch) (hfl : l.stackTraces = false) (D : va_G) (k : Nat → ClassId) (sa sb : Nat) (this : Nat) (a1 a2 a3 a4 : Int32) (R : Option Int32) (hm : m_X11_restsH a1 a2 a3 a4 = some R) : vx_Met l yX11_rests (.code yX11_rests cX11_rests 7 (some .int) :: TB) (RmK 8 200 1 6) (va_Pc [.ref this, .int a1, .int a2, .int a3, .int a4] (PX D (TY k) sa sb)) (QX R) (XCx R) 1 6 (fun _ => False) := by
  refine vx_ofW (cc := cX11_rests) (maxL := 7) (ret := some .int) (by decide) rfl ?_
  intro p e s m args below meth c s₁ B hml htab hv
  obtain ⟨rfl, hG, hX⟩ := hv
  have hx := B.exec
  have hb := B.bytes
  have hr := B.returns
  have hts : ∀ w ∈ TB, w.before _ s = true := fun w hw => atoms_spec B.pre w (List.mem_cons_of_mem _ hw)
  have hown : s.vm.findClass RX11 = some m.cls := findClass_of_methodNamed B.named
  have hlocks := B.notSynchronized
  have hP0 : va_P D vwCl [] s.heap := fun k q h => by simp at h
  have hl := lv_entry ([.ref this, .int a1, .int a2, .int a3, .int a4]) (n := 7) (Nat.le_of_ble_eq_true rfl)
  rw [lg_entry_eq]
  generalize (lg_sl ([.ref this, .int a1, .int a2, .int a3, .int a4]) ++ List.replicate (7 - (lg_sl ([.ref this, .int a1, .int a2, .int a3, .int a4])).length) Slot.unset).toArray = ls at hl ⊢
  have hl : lv_has ls 7 [(0, .ref this), (1, .int a1), (2, .int a2), (3, .int a3), (4, .int a4)] := hl
  have hts : ∀ w ∈ TB, w.before #[.ref this, .int a1, .int a2, .int a3, .int a4] s = true := hts
  show W p l e (RmK 8 200 1 6) s m #[.ref this, .int a1, .int a2, .int a3, .int a4] below meth c s.heap [] 0 0 (vx_MQ below (QX R) (XCx R) #[.ref this, .int a1, .int a2, .int a3, .int a4] s 1 6 (fun _ => False)) (F0 m 0 ls [])
  have thr1 : R = none → ∀ ls : Array Slot, ls.size = 7 → W p l e (RmK 8 200 1 6) s m #[.ref this, .int a1, .int a2, .int a3, .int a4] below meth c s.heap [] 0 0 (vx_MQ below (QX R) (XCx R) #[.ref this, .int a1, .int a2, .int a3, .int a4] s 1 6 (fun _ => False)) (F0 m 30 ls []) := fun hR ls hls =>
    vn_makeSW (own := RX11) (cls := NSE) (names := NSs) (ix := 13) (rx := nsB) (pc := 30) (rest := []) hx hb hfl (by decide +kernel) (by decide +kernel) (by decide +kernel) (by decide +kernel) hown (by decide +kernel) (by decide +kernel) (hts _ xat_cl) (hts _ xat_in) hX.1 (xat hts hX.2.2.1) xat_good hX.2.2.2.1 hX.2.2.2.2 va_S.rf (hls.trans hml.symm) dX11_rests_30 dX11_rests_33 dX11_rests_34 dX11_rests_37 (Nat.lt_of_lt_of_le (show 2 + 3 < 6 by decide) (Nat.le_of_ble_eq_true rfl)) (Nat.le_of_ble_eq_true rfl) (Nat.le_of_ble_eq_true rfl) (Nat.le_of_ble_eq_true rfl) (fun q H1 ce h1 h2 h3 h4 h5 => vn_athrow (pc := 40) hx hb dX11_rests_40 (vx_out (fun x hx => (htab x hx).elim) hlocks h1 h2 h3 (fun t ht _ => ⟨hR, rfl, by rw [ht]; exact h4, fun q hq => by rw [ht]; exact h5 q hq⟩) (fun z h => nomatch h) (Nat.le_of_ble_eq_true rfl) (Nat.le_of_ble_eq_true rfl)))
  have thr2 : R = none → ∀ ls : Array Slot, ls.size = 7 → W p l e (RmK 8 200 1 6) s m #[.ref this, .int a1, .int a2, .int a3, .int a4] below meth c s.heap [] 0 0 (vx_MQ below (QX R) (XCx R) #[.ref this, .int a1, .int a2, .int a3, .int a4] s 1 6 (fun _ => False)) (F0 m 89 ls []) := fun hR ls hls =>
    vn_makeSW (own := RX11) (cls := NSE) (names := NSs) (ix := 13) (rx := nsB) (pc := 89) (rest := []) hx hb hfl (by decide +kernel) (by decide +kernel) (by decide +kernel) (by decide +kernel) hown (by decide +kernel) (by decide +kernel) (hts _ xat_cl) (hts _ xat_in) hX.2.1 (xat hts hX.2.2.1) xat_good hX.2.2.2.1 hX.2.2.2.2 va_S.rf (hls.trans hml.symm) dX11_rests_89 dX11_rests_92 dX11_rests_93 dX11_rests_96 (Nat.lt_of_lt_of_le (show 2 + 3 < 6 by decide) (Nat.le_of_ble_eq_true rfl)) (Nat.le_of_ble_eq_true rfl) (Nat.le_of_ble_eq_true rfl) (Nat.le_of_ble_eq_true rfl) (fun q H1 ce h1 h2 h3 h4 h5 => vn_athrow (pc := 99) hx hb dX11_rests_99 (vx_out (fun x hx => (htab x hx).elim) hlocks h1 h2 h3 (fun t ht _ => ⟨hR, rfl, by rw [ht]; exact h4, fun q hq => by rw [ht]; exact h5 q hq⟩) (fun z h => nomatch h) (Nat.le_of_ble_eq_true rfl) (Nat.le_of_ble_eq_true rfl)))
  have hgo : ∀ (n : Nat) (x5 x6 : Int32) (ls : Array Slot), lv_has ls 7 [(6, .int x6), (5, .int x5), (1, .int a1), (2, .int a2), (3, .int a3), (4, .int a4)] → m_X11_rests_L a1 a2 a3 a4 n x5 x6 = some R → W p l e (RmK 8 200 1 6) s m #[.ref this, .int a1, .int a2, .int a3, .int a4] below meth c s.heap [] 0 0 (vx_MQ below (QX R) (XCx R) #[.ref this, .int a1, .int a2, .int a3, .int a4] s 1 6 (fun _ => False)) (F0 m 47 ls []) := by
    intro n
    induction n with
    | zero => intro x5 x6 ls hl hm; unfold m_X11_rests_L at hm; cases hm
    | succ n ih =>
      intro x5 x6 ls hl hm
      rw [m_X11_rests_L] at hm
      refine lv_iload (pc := 47) hx hb dX11_rests_47 (lv_at hl 0 rfl) ?_
      refine lv_iconst (v := 4) (pc := 49) hx hb dX11_rests_49 (by decide) ?_
      refine lv_icmp_ge (tgt := 83) (pc := 50) hx hb dX11_rests_50 (by decide) (fun hc => ?_) (fun hc => ?_)
      · rw [if_pos hc] at hm
        refine lv_iload (pc := 83) hx hb dX11_rests_83 (lv_at hl 5 rfl) ?_
        refine lv_iconst (v := -1) (pc := 85) hx hb dX11_rests_85 (by decide) ?_
        refine lv_icmp_eq (tgt := 100) (pc := 86) hx hb dX11_rests_86 (by decide) (fun hd => ?_) (fun hd => ?_)
        · rw [if_pos hd] at hm
          refine lv_iload (pc := 100) hx hb dX11_rests_100 (lv_at hl 1 rfl) ?_
          refine W.widen (k := 1) (n := 6) (Nat.zero_le _) (Nat.zero_le _) (vx_ret ?_)
          exact W.iret hx hb hr (fun t ht _ => ⟨x5, (Option.some.inj hm).symm, rfl, ht⟩) (fun _ h => by cases h) dX11_rests_102 hlocks
        · rw [if_neg hd] at hm
          exact thr2 (Option.some.inj hm).symm ls hl.1
      · rw [if_neg hc] at hm
        obtain ⟨r1, hcl, hm⟩ := bd hm
        refine lv_iload (pc := 53) hx hb dX11_rests_53 (lv_at hl 0 rfl) ?_
        refine lv_iload_n (pc := 55) hx hb dX11_rests_55 rfl (lv_at hl 2 rfl) ?_
        refine lv_iload_n (pc := 56) hx hb dX11_rests_56 rfl (lv_at hl 3 rfl) ?_
        refine lv_iload_n (pc := 57) hx hb dX11_rests_57 rfl (lv_at hl 4 rfl) ?_
        refine cr_back (run_S (pc := 58) (n := 4) (As := [.int x6, .int a1, .int a2, .int a3]) (rest := []) ⟨hx, hb, hml, hown, hts⟩ (c_X11_isRest l D k x6 a1 a2 a3 r1 hcl) ⟨kw_1184, kw_1, by decide +kernel⟩ kw_1182 kw_1183 ⟨(Nat.le_of_ble_eq_true rfl), (Nat.le_of_ble_eq_true rfl)⟩ pr_blind (prR hP0 hG) rfl hl.1 rfl (Nat.le_of_ble_eq_true rfl) dX11_rests_58 ⟨Nat.zero_le _, Nat.zero_le _⟩) ?_
        have hstep : ∀ y5 : Int32, m_X11_rests_L a1 a2 a3 a4 n y5 (x6 + 1) = some R → ∀ ls : Array Slot, lv_has ls 7 [(5, .int y5), (6, .int x6), (1, .int a1), (2, .int a2), (3, .int a3), (4, .int a4)] → W p l e (RmK 8 200 1 6) s m #[.ref this, .int a1, .int a2, .int a3, .int a4] below meth c s.heap [] 0 0 (vx_MQ below (QX R) (XCx R) #[.ref this, .int a1, .int a2, .int a3, .int a4] s 1 6 (fun _ => False)) (F0 m 77 ls []) := by
          intro y5 hm ls hl
          refine lv_iinc (k := 1) (v := x6 + 1) (lv' := [(6, .int (x6 + 1)), (5, .int y5), (1, .int a1), (2, .int a2), (3, .int a3), (4, .int a4)]) (pc := 77) hx hb dX11_rests_77 hl rfl rfl (Nat.le_of_ble_eq_true rfl) rfl (fun ls hl => ?_)
          refine lv_goto (tgt := 47) (pc := 80) hx hb dX11_rests_80 (by decide) ?_
          exact ih y5 (x6 + 1) ls hl hm
        refine lv_if_eq (tgt := 77) (pc := 61) hx hb dX11_rests_61 (by decide) (fun hd => ?_) (fun hd => ?_)
        · rw [if_pos hd] at hm
          exact hstep x5 hm ls (lv_sub hl [1, 0, 2, 3, 4, 5] rfl)
        · rw [if_neg hd] at hm
          refine lv_iload (pc := 64) hx hb dX11_rests_64 (lv_at hl 1 rfl) ?_
          refine lv_iload (pc := 66) hx hb dX11_rests_66 (lv_at hl 5 rfl) ?_
          refine lv_icmp_ne (tgt := 74) (pc := 68) hx hb dX11_rests_68 (by decide) (fun hq => ?_) (fun hq => ?_)
          · rw [if_neg hq] at hm
            refine lv_iinc (k := 1) (v := x5 + 1) (lv' := [(5, .int (x5 + 1)), (6, .int x6), (1, .int a1), (2, .int a2), (3, .int a3), (4, .int a4)]) (pc := 74) hx hb dX11_rests_74 hl rfl rfl (Nat.le_of_ble_eq_true rfl) rfl (fun ls hl => ?_)
            exact hstep (x5 + 1) hm ls hl
          · rw [if_pos hq] at hm
            refine lv_iload (pc := 71) hx hb dX11_rests_71 (lv_at hl 0 rfl) ?_
            refine W.widen (k := 1) (n := 6) (Nat.zero_le _) (Nat.zero_le _) (vx_ret ?_)
            exact W.iret hx hb hr (fun t ht _ => ⟨x6, (Option.some.inj hm).symm, rfl, ht⟩) (fun _ h => by cases h) dX11_rests_73 hlocks
  unfold m_X11_restsH at hm
  obtain ⟨r1, e1, hm⟩ := bd hm
  refine lv_iload_n (pc := 0) hx hb dX11_rests_0 rfl (lv_at hl 1 rfl) ?_
  refine lv_iconst (v := 0) (pc := 1) hx hb dX11_rests_1 (by decide) ?_
  refine lv_bipush (v := 9) (pc := 2) hx hb dX11_rests_2 (by decide) ?_
  refine cr_back (run_S (pc := 4) (n := 3) (As := [.int a1, .int 0, .int 9]) (rest := []) ⟨hx, hb, hml, hown, hts⟩ (c_X11_within l D k a1 0 9 r1 e1) ⟨kw_394, kw_1, by decide +kernel⟩ kw_759 kw_393 ⟨(Nat.le_of_ble_eq_true rfl), (Nat.le_of_ble_eq_true rfl)⟩ pr_blind (prR hP0 hG) rfl hl.1 rfl (Nat.le_of_ble_eq_true rfl) dX11_rests_4 ⟨Nat.zero_le _, Nat.zero_le _⟩) ?_
  refine lv_if_eq (tgt := 30) (pc := 7) hx hb dX11_rests_7 (by decide) (fun hd => ?_) (fun hd => ?_)
  · rw [if_pos hd] at hm
    exact thr1 (Option.some.inj hm).symm ls hl.1
  rw [if_neg hd] at hm
  obtain ⟨r2, e2, hm⟩ := bd hm
  refine lv_iload_n (pc := 10) hx hb dX11_rests_10 rfl (lv_at hl 2 rfl) ?_
  refine lv_iconst (v := 0) (pc := 11) hx hb dX11_rests_11 (by decide) ?_
  refine lv_bipush (v := 9) (pc := 12) hx hb dX11_rests_12 (by decide) ?_
  refine cr_back (run_S (pc := 14) (n := 3) (As := [.int a2, .int 0, .int 9]) (rest := []) ⟨hx, hb, hml, hown, hts⟩ (c_X11_within l D k a2 0 9 r2 e2) ⟨kw_394, kw_1, by decide +kernel⟩ kw_759 kw_393 ⟨(Nat.le_of_ble_eq_true rfl), (Nat.le_of_ble_eq_true rfl)⟩ pr_blind (prR hP0 hG) rfl hl.1 rfl (Nat.le_of_ble_eq_true rfl) dX11_rests_14 ⟨Nat.zero_le _, Nat.zero_le _⟩) ?_
  refine lv_if_eq (tgt := 30) (pc := 17) hx hb dX11_rests_17 (by decide) (fun hd => ?_) (fun hd => ?_)
  · rw [if_pos hd] at hm
    exact thr1 (Option.some.inj hm).symm ls hl.1
  rw [if_neg hd] at hm
  obtain ⟨r3, e3, hm⟩ := bd hm
  refine lv_iload_n (pc := 20) hx hb dX11_rests_20 rfl (lv_at hl 3 rfl) ?_
  refine lv_iconst (v := 0) (pc := 21) hx hb dX11_rests_21 (by decide) ?_
  refine lv_bipush (v := 9) (pc := 22) hx hb dX11_rests_22 (by decide) ?_
  refine cr_back (run_S (pc := 24) (n := 3) (As := [.int a3, .int 0, .int 9]) (rest := []) ⟨hx, hb, hml, hown, hts⟩ (c_X11_within l D k a3 0 9 r3 e3) ⟨kw_394, kw_1, by decide +kernel⟩ kw_759 kw_393 ⟨(Nat.le_of_ble_eq_true rfl), (Nat.le_of_ble_eq_true rfl)⟩ pr_blind (prR hP0 hG) rfl hl.1 rfl (Nat.le_of_ble_eq_true rfl) dX11_rests_24 ⟨Nat.zero_le _, Nat.zero_le _⟩) ?_
  refine lv_if_ne (tgt := 41) (pc := 27) hx hb dX11_rests_27 (by decide) (fun hd => ?_) (fun hd => ?_)
  · rw [if_neg hd] at hm
    refine lv_iconst (v := 0) (pc := 41) hx hb dX11_rests_41 (by decide) ?_
    refine lv_istore (lv' := [(5, .int 0), (0, .ref this), (1, .int a1), (2, .int a2), (3, .int a3), (4, .int a4)]) (pc := 42) hx hb dX11_rests_42 hl (Nat.le_of_ble_eq_true rfl) rfl (fun ls hl => ?_)
    refine lv_iconst (v := 0) (pc := 44) hx hb dX11_rests_44 (by decide) ?_
    refine lv_istore (lv' := [(6, .int 0), (5, .int 0), (0, .ref this), (1, .int a1), (2, .int a2), (3, .int a3), (4, .int a4)]) (pc := 45) hx hb dX11_rests_45 hl (Nat.le_of_ble_eq_true rfl) rfl (fun ls hl => ?_)
    exact hgo FU 0 0 ls (lv_sub hl [0, 1, 3, 4, 5, 6] rfl) hm
  · rw [if_pos hd] at hm
    exact thr1 (Option.some.inj hm).symm ls hl.1
