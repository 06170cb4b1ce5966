/-! MACHINE: the law's own rests: a throw of the class's is caught (printed by wip/gen/lrests.py) -/
theorem dL_rests_0 : decode cL_rests 0 = .ok (.aload 5, 2) := by decide +kernel
theorem dL_rests_2 : decode cL_rests 2 = .ok (.iconst 0, 1) := by decide +kernel
theorem dL_rests_3 : decode cL_rests 3 = .ok (.aload_n 0, 1) := by decide +kernel
theorem dL_rests_4 : decode cL_rests 4 = .ok (.iload_n 1, 1) := by decide +kernel
theorem dL_rests_5 : decode cL_rests 5 = .ok (.iload_n 2, 1) := by decide +kernel
theorem dL_rests_6 : decode cL_rests 6 = .ok (.iload_n 3, 1) := by decide +kernel
theorem dL_rests_7 : decode cL_rests 7 = .ok (.iload 4, 2) := by decide +kernel
theorem dL_rests_9 : decode cL_rests 9 = .ok (.invokevirtual 7, 3) := by decide +kernel
theorem dL_rests_12 : decode cL_rests 12 = .ok (.i2l, 1) := by decide +kernel
theorem dL_rests_13 : decode cL_rests 13 = .ok (.lastore, 1) := by decide +kernel
theorem dL_rests_14 : decode cL_rests 14 = .ok (.goto 7, 3) := by decide +kernel
theorem dL_rests_17 : decode cL_rests 17 = .ok (.astore 6, 2) := by decide +kernel
theorem dL_rests_19 : decode cL_rests 19 = .ok (.iconst 1, 1) := by decide +kernel
theorem dL_rests_20 : decode cL_rests 20 = .ok (.ireturn, 1) := by decide +kernel
theorem dL_rests_21 : decode cL_rests 21 = .ok (.iconst 0, 1) := by decide +kernel
theorem dL_rests_22 : decode cL_rests 22 = .ok (.ireturn, 1) := by decide +kernel
def rsK : Option Int32 → Int32
  | none => 1
  | some _ => 0
def rsO (f : Nat → Int64) : Option Int32 → Nat → Int64
  | none => f
  | some v => vp_updL f 0 v.toInt64
def PL (D : va_G) (tys : List (ClassId × FieldType)) (sa sb : Nat) (ws0 : va_W) (sz : Nat) : State → Prop := fun U => PW D tys ws0 sz U ∧ XF sa sb (va_A ws0 sz) U U.heap
theorem pl_blind {D : va_G} {tys : List (ClassId × FieldType)} {sa sb : Nat} {ws0 : va_W} {sz : Nat} {av : List Value} : FrameBlind (va_Pc av (PL D tys sa sb ws0 sz)) := fun _ _ _ _ q => ⟨q.1, ⟨q.2.1.1, q.2.1.2.1, q.2.1.2.2.1.call, q.2.1.2.2.2⟩, q.2.2.call⟩
abbrev wL (k : Nat → ClassId) (x out : Nat) (fs : List Value) (f : Nat → Int64) : va_W := [(x, .inr (9, fs)), (out, .inl (k 1, 1, .inr (.inl f)))]
set_option maxHeartbeats 4000000 in
theorem c_L_rests (l : Launch) (hfl : l.stackTraces = false) (D : va_G) (k : Nat → ClassId) (sa sb x out : Nat) (fs : List Value) (f : Nat → Int64) (a1 a2 a3 a4 : Int32) (R : Option Int32) (hm : m_X11_restsH a1 a2 a3 a4 = some R) (sz : Nat) : Met l yL_rests (.codeWith yL_rests cL_rests 7 (some .int) [(0, 14, 17, 13)] :: TB) (RmK 10 300 1 6) (va_Pc [.ref x, .int a1, .int a2, .int a3, .int a4, .ref out] (PL D (TY k) sa sb (wL k x out fs f) sz)) (QW D (some (.int (rsK R))) (wL k x out fs f) (wL k x out fs (rsO f R)) sz) 1 6 (va_A (wL k x out fs f) sz) := by
  refine va_MetW (cc := cL_rests) (maxL := 7) (ret := some .int) (hh := [(0, 14, 17, 13)]) (by decide) rfl ?_
  intro p e s m args below meth c s₁ B hml hv
  obtain ⟨rfl, ⟨rfl, hP, hG, hD0⟩, hX⟩ := hv
  have hD := hD0.self (sz := s.heap.size)
  have hx := B.exec
  have hb := B.bytes
  have hr := B.returns
  have hts : ∀ w ∈ TB, w.before #[.ref x, .int a1, .int a2, .int a3, .int a4, .ref out] s = true := fun w hw => atoms_spec B.pre w (List.mem_cons_of_mem _ hw)
  have htab := vx_table (x := yL_rests) B (atoms_spec B.pre _ List.mem_cons_self)
  have hown : s.vm.findClass RL = some m.cls := findClass_of_methodNamed B.named
  have hlocks := B.notSynchronized
  have hA : ∀ q : Nat, s.heap.size ≤ q → va_A (wL k x out fs f) s.heap.size q := fun q h => Or.inr h
  have hS : va_S (va_A (wL k x out fs f) s.heap.size) s.heap s.heap [] := va_S.rf
  have hl := lv_entry ([.ref x, .int a1, .int a2, .int a3, .int a4, .ref out]) (n := 7) (Nat.le_of_ble_eq_true rfl)
  rw [lg_entry_eq]
  generalize (lg_sl ([.ref x, .int a1, .int a2, .int a3, .int a4, .ref out]) ++ List.replicate (7 - (lg_sl ([.ref x, .int a1, .int a2, .int a3, .int a4, .ref out])).length) Slot.unset).toArray = ls at hl ⊢
  have hl : lv_has ls 7 [(0, .ref x), (1, .int a1), (2, .int a2), (3, .int a3), (4, .int a4), (5, .ref out)] := hl
  show W p l e (RmK 10 300 1 6) s m #[.ref x, .int a1, .int a2, .int a3, .int a4, .ref out] below meth c s.heap [] 0 0 (MQ below (QW D (some (.int (rsK R))) (wL k x out fs f) (wL k x out fs (rsO f R)) s.heap.size) #[.ref x, .int a1, .int a2, .int a3, .int a4, .ref out] s 1 6 (va_A (wL k x out fs f) s.heap.size)) (F0 m 0 ls [])
  refine lv_aload (pc := 0) hx hb dL_rests_0 (lv_at hl 5 rfl) ?_
  refine lv_iconst (v := 0) (pc := 2) hx hb dL_rests_2 (by decide) ?_
  refine lv_aload_n (pc := 3) hx hb dL_rests_3 rfl (lv_at hl 0 rfl) ?_
  refine lv_iload_n (pc := 4) hx hb dL_rests_4 rfl (lv_at hl 1 rfl) ?_
  refine lv_iload_n (pc := 5) hx hb dL_rests_5 rfl (lv_at hl 2 rfl) ?_
  refine lv_iload_n (pc := 6) hx hb dL_rests_6 rfl (lv_at hl 3 rfl) ?_
  refine lv_iload (pc := 7) hx hb dL_rests_7 (lv_at hl 4 rfl) ?_
  have hrun := vx_runV (p := p) (e := e) (R := RmK 10 300 1 6) (below := below) (meth := meth) (H := s.heap) (locs := []) (cells := 0) (slots := 0) (C := RX11) (g := F0 m 9 ls [.int a4, .int a3, .int a2, .int a1, .ref x, .int 0, .ref out]) (As := [.int a1, .int a2, .int a3, .int a4]) (rest := [.int 0, .ref out]) (⟨hx, hb, hml, hown, hts⟩ : CallFix p m c cL_rests 7 s #[.ref x, .int a1, .int a2, .int a3, .int a4, .ref out] TB RL) (c_X11_rests l hfl D k sa sb x a1 a2 a3 a4 R hm) ⟨callB_of 4 hts (tb_gc kw_1116) rfl rfl rfl (hts _ kw_1) (hts _ kw_1113) (by decide +kernel) ⟨(Nat.le_of_ble_eq_true rfl), (Nat.le_of_ble_eq_true rfl)⟩, hts _ kw_1114, hts _ kw_1115⟩ ⟨px_blind, va_recv hG.1 hP (ci := 9) (q0 := 0) rfl rfl, fun U h1 h2 => ⟨rfl, hG.warm h2, by rw [h1]; exact (hX.narrow (fun _ z => z.elim)).warm h2⟩⟩ rfl rfl hl.1 rfl (lv_room (Nat.le_of_ble_eq_true rfl)) dL_rests_9 ⟨(Nat.le_of_ble_eq_true rfl), (Nat.le_of_ble_eq_true rfl)⟩
  intro T hT Xs
  rcases hrun T hT Xs with ⟨v, st₀, t, T', L, h0, X', hL, e1, e2, ⟨v', hR, hv, hh⟩, st⟩ | ⟨q, st₀, t, T', L, E, ce, h0, X', hL, e1, e2, ⟨hR, hE, hz, hk⟩, hce, hcv, hcl, st⟩
  · cases hv
    subst hR
    have go : W p l e (RmK 10 300 1 6) s m #[.ref x, .int a1, .int a2, .int a3, .int a4, .ref out] below meth c s.heap [] (0 + 1) (0 + 6) (MQ below (QW D (some (.int (rsK (some v')))) (wL k x out fs f) (wL k x out fs (rsO f (some v'))) s.heap.size) #[.ref x, .int a1, .int a2, .int a3, .int a4, .ref out] s 1 6 (va_A (wL k x out fs f) s.heap.size)) (F0 m 12 ls [.int v', .int 0, .ref out]) := by
      refine lv_i2l (pc := 12) hx hb dL_rests_12 rfl ?_
      refine va_last (pc := 13) (D := D) hx hb hG.1 hP hD hS 1 1 rfl rfl (pn_in (c := 0) (Nat.le_of_ble_eq_true rfl) (Nat.le_of_ble_eq_true rfl)) dL_rests_13 (fun H locs hP hD hS => ?_)
      refine lv_goto (tgt := 21) (pc := 14) hx hb dL_rests_14 (by decide) ?_
      refine lv_iconst (v := 0) (pc := 21) hx hb dL_rests_21 (by decide) ?_
      exact W.iret hx hb hr (fun t ht _ => ⟨rfl, by rw [ht]; exact hP, hD, hS.F ht⟩) hS.2.2 dL_rests_22 hlocks
    obtain ⟨t2, g1, g2⟩ := go T' (by rw [e1, hh, h0]) (Stand.forget X' (fun q h => (hL q h).elim))
    exact ⟨t2, st t2 g1, g2⟩
  · subst hR
    subst hE
    rw [h0] at hz hk
    have hP1 : va_P D vwCl (wL k x out fs f) T'.heap := hP.kept (fun j q hq => by rw [e1]; exact hk q.1 (hP j q hq).lt)
    have hS1 : va_S (va_A (wL k x out fs f) s.heap.size) s.heap T'.heap [] := ⟨by rw [e1]; exact hz, fun q h1 h2 => by rw [e1]; exact hk q h1, fun z h => nomatch h⟩
    have go : vx_W p l e (RmK 10 300 1 6) s m #[.ref x, .int a1, .int a2, .int a3, .int a4, .ref out] below meth c T'.heap [] (0 + 1) (0 + 6) (MQ below (QW D (some (.int (rsK none))) (wL k x out fs f) (wL k x out fs (rsO f none)) s.heap.size) #[.ref x, .int a1, .int a2, .int a3, .int a4, .ref out] s 1 6 (va_A (wL k x out fs f) s.heap.size)) (F0 m 9 ls [.int 0, .ref out]) q := by
      refine vx_catch (own := RL) (name := NSE) hown [] _ [] htab (fun z hz => nomatch hz) rfl (by decide) (hts _ kw_1112) (hX.2.2.1.2.2.2.use rfl) (by rw [e1]; exact hce) hcv hcl ?_
      refine lv_astore (lv' := [(6, .ref q), (0, .ref x), (1, .int a1), (2, .int a2), (3, .int a3), (4, .int a4), (5, .ref out)]) (pc := 17) hx hb dL_rests_17 hl (Nat.le_of_ble_eq_true rfl) rfl (fun ls hl => ?_)
      refine lv_iconst (v := 1) (pc := 19) hx hb dL_rests_19 (by decide) ?_
      exact W.iret hx hb hr (fun t ht _ => ⟨rfl, by rw [ht]; exact hP1, hD, hS1.F ht⟩) hS1.2.2 dL_rests_20 hlocks
    obtain ⟨t2, g1, g2⟩ := go T' rfl (Stand.forget X' (fun q h => (hL q h).elim))
    exact ⟨t2, st.trans g1, g2⟩
