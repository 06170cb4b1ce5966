abbrev vwCl : List vw_C := [(RX1, TX1, 6), (RX2, TX2, 3), (RX3, TX3, 3), (RX4, TX4, 4), (RX5, TX5, 3), (RX6, TX6, 3), (RX7, TX7, 9), (RX8, TX8, 9), (RX10, TX10, 4), (RX11, TX11, 13), (RX12, TX12, 30)]
/-! what holds of the machine's tables but isn't carried by the words of a method: the links of nest mates -/
def nbW : Cond → Bool
  | .fieldLinkNest .. => true
  | .methodLinkNest .. => true
  | _ => false
def NB : List Cond := tables_1.filter nbW
theorem nb_t1 {w : Cond} (i : Nat) (h : tables_1_1[i]? = some w) (hg : nbW w = true) : w ∈ NB := List.mem_filter.mpr ⟨tm_1 (List.mem_of_getElem? h), hg⟩
theorem nb_t2 {w : Cond} (i : Nat) (h : tables_1_2[i]? = some w) (hg : nbW w = true) : w ∈ NB := List.mem_filter.mpr ⟨tm_2 (List.mem_of_getElem? h), hg⟩
theorem nb_t3 {w : Cond} (i : Nat) (h : tables_1_3[i]? = some w) (hg : nbW w = true) : w ∈ NB := List.mem_filter.mpr ⟨tm_3 (List.mem_of_getElem? h), hg⟩
theorem nb_t4 {w : Cond} (i : Nat) (h : tables_1_4[i]? = some w) (hg : nbW w = true) : w ∈ NB := List.mem_filter.mpr ⟨tm_4 (List.mem_of_getElem? h), hg⟩
theorem nb_t5 {w : Cond} (i : Nat) (h : tables_1_5[i]? = some w) (hg : nbW w = true) : w ∈ NB := List.mem_filter.mpr ⟨tm_5 (List.mem_of_getElem? h), hg⟩
theorem nb_t6 {w : Cond} (i : Nat) (h : tables_1_6[i]? = some w) (hg : nbW w = true) : w ∈ NB := List.mem_filter.mpr ⟨tm_6 (List.mem_of_getElem? h), hg⟩
theorem nb_t7 {w : Cond} (i : Nat) (h : tables_1_7[i]? = some w) (hg : nbW w = true) : w ∈ NB := List.mem_filter.mpr ⟨tm_7 (List.mem_of_getElem? h), hg⟩
theorem nb_t8 {w : Cond} (i : Nat) (h : tables_1_8[i]? = some w) (hg : nbW w = true) : w ∈ NB := List.mem_filter.mpr ⟨tm_8 (List.mem_of_getElem? h), hg⟩
def GK (D : va_G) (tys : List (ClassId × FieldType)) (U : State) : Prop := va_K D vwCl tys U ∧ ∀ w ∈ NB, va_Nw w U
theorem GK.warm {D : va_G} {tys : List (ClassId × FieldType)} {s U : State} (hW : s.WarmedH U.vm) (h : GK D tys s) : GK D tys U := by
  refine ⟨va_K.moved hW.alike h.1, fun w hw => ?_⟩
  have h1 := h.2 w hw
  have h2 := (List.mem_filter.mp hw).2
  cases w <;> first | (exact va_Nw.warmF hW h1) | (exact va_Nw.warmM hW h1) | (exact absurd h2 (by simp [nbW]))
theorem GK.call {D : va_G} {tys : List (ClassId × FieldType)} {U : State} {g : JFrame} {mk : MethodId} {a : Array Value} (h : GK D tys U) : GK D tys (U.calling g mk a) := by
  refine ⟨va_K.moved (u := U) (U := U.calling g mk a) (Vm.Alike.refl U.vm) h.1, fun w hw => ?_⟩
  have h1 := h.2 w hw
  have h2 := (List.mem_filter.mp hw).2
  have ho : w.onTables = true := by cases w <;> first | rfl | (exact absurd h2 (by simp [nbW]))
  exact va_Nw.same ho (u := U) (U := U.calling g mk a) rfl h1
abbrev Rm (fr lo : Nat) : Room := { frames := fr, cells := 0, slots := 0, locals := lo }
def PR (D : va_G) (tys : List (ClassId × FieldType)) (ws0 : va_W) : State → Prop := fun U => va_P D vwCl ws0 U.heap ∧ GK D tys U
def PW (D : va_G) (tys : List (ClassId × FieldType)) (ws0 : va_W) (sz : Nat) : State → Prop := fun U => U.heap.size = sz ∧ va_P D vwCl ws0 U.heap ∧ GK D tys U ∧ va_D (fun _ => True) ws0
def QR (rv : Option Value) : Array Value → State → Outcome → State → Prop := fun _ st oc t => oc = .returned rv ∧ t.heap = st.heap
def QW (D : va_G) (rv : Option Value) (ws0 ws1 : va_W) (sz : Nat) : Array Value → State → Outcome → State → Prop := fun _ st oc t => oc = .returned rv ∧ va_P D vwCl ws1 t.heap ∧ va_D (va_A ws0 sz) ws1 ∧ va_F (va_A ws0 sz) st t
/-- a method that only reads: it answers rv -/
def CR (l : Launch) (D : va_G) (tys : List (ClassId × FieldType)) (y : MethodName) (cc : ByteArray) (mL : Nat) (ret : Option FieldType) (fr lo : Nat) (av : List Value) (ws0 : va_W) (rv : Option Value) : Prop :=
  Met l y (.code y cc mL ret :: TB) (Rm fr lo) (va_Pc av (PR D tys ws0)) (QR rv) 0 0 (fun _ => False)
/-- a method that writes: it answers rv, its cells ws0 become ws1 -/
def CW (l : Launch) (D : va_G) (tys : List (ClassId × FieldType)) (y : MethodName) (cc : ByteArray) (mL : Nat) (ret : Option FieldType) (fr lo : Nat) (av : List Value) (ws0 : va_W) (rv : Option Value) (ws1 : va_W) : Prop :=
  ∀ sz : Nat, Met l y (.code y cc mL ret :: TB) (Rm fr lo) (va_Pc av (PW D tys ws0 sz)) (QW D rv ws0 ws1 sz) 0 0 (va_A ws0 sz)
/-- what a body has at hand -/
def BX (p : Program) (s : State) (m : MethodId) (args : Array Value) (meth : Method) (c : Code) (cc : ByteArray) (mL : Nat) (ret : Option FieldType) (own : String) : Prop :=
  p.tables.exec = Jvm.exec ∧ c.code = cc ∧ meth.sig.returnType = ret ∧ (∀ w ∈ TB, w.before args s = true) ∧ s.vm.findClass own = some m.cls ∧ meth.locks = false ∧ c.maxLocals = mL
theorem CR.mk {l : Launch} {D : va_G} {tys : List (ClassId × FieldType)} {y : MethodName} {cc : ByteArray} {mL : Nat} {ret : Option FieldType} {fr lo : Nat} {av : List Value} {ws0 : va_W} {rv : Option Value}
    (hy : plainName y.cls = true) (hn : (lg_sl av).length ≤ mL)
    (h : ∀ (p : Program) (e : Env) (s : State) (m : MethodId) (args : Array Value) (below : List Frame) (meth : Method) (c : Code) (ls : Array Slot), BX p s m args meth c cc mL ret y.cls → va_P D vwCl ws0 s.heap → GK D tys s → lv_has ls mL (lv_args 0 av) →
      W p l e (Rm fr lo) s m args below meth c s.heap [] 0 0 (MQ below (QR rv) args s 0 0 (fun _ => False)) (F0 m 0 ls [])) : CR l D tys y cc mL ret fr lo av ws0 rv := by
  refine Met.ofW (cc := cc) (maxL := mL) (ret := ret) hy rfl ?_
  intro p e s m args below meth c s₁ B hml hv
  obtain ⟨rfl, hP, hG⟩ := hv
  rw [lg_entry_eq]
  exact h p e s m _ below meth c _ ⟨B.exec, B.bytes, B.returns, fun w hw => atoms_spec B.pre w (List.mem_cons_of_mem _ hw), findClass_of_methodNamed B.named, B.notSynchronized, hml⟩ hP hG (lv_entry av hn)
theorem CW.mk {l : Launch} {D : va_G} {tys : List (ClassId × FieldType)} {y : MethodName} {cc : ByteArray} {mL : Nat} {ret : Option FieldType} {fr lo : Nat} {av : List Value} {ws0 ws1 : va_W} {rv : Option Value}
    (hy : plainName y.cls = true) (hn : (lg_sl av).length ≤ mL)
    (h : ∀ (p : Program) (e : Env) (s : State) (m : MethodId) (args : Array Value) (below : List Frame) (meth : Method) (c : Code) (ls : Array Slot) (A : Nat → Prop), BX p s m args meth c cc mL ret y.cls → va_P D vwCl ws0 s.heap → GK D tys s → va_D A ws0 → (∀ q : Nat, s.heap.size ≤ q → A q) → lv_has ls mL (lv_args 0 av) →
      va_S A s.heap s.heap [] → (∀ (rv : Option Value) (ws1 : va_W) (H : Heap) (t : State), t.heap = H → va_P D vwCl ws1 H → va_D A ws1 → ∀ locs : List Loc, va_S A s.heap H locs → QW D rv ws0 ws1 s.heap.size args s (.returned rv) t) →
      W p l e (Rm fr lo) s m args below meth c s.heap [] 0 0 (MQ below (QW D rv ws0 ws1 s.heap.size) args s 0 0 A) (F0 m 0 ls [])) : CW l D tys y cc mL ret fr lo av ws0 rv ws1 := by
  intro sz
  refine Met.ofW (cc := cc) (maxL := mL) (ret := ret) hy rfl ?_
  intro p e s m args below meth c s₁ B hml hv
  obtain ⟨rfl, rfl, hP, hG, hD⟩ := hv
  rw [lg_entry_eq]
  exact h p e s m _ below meth c _ (va_A ws0 s.heap.size) ⟨B.exec, B.bytes, B.returns, fun w hw => atoms_spec B.pre w (List.mem_cons_of_mem _ hw), findClass_of_methodNamed B.named, B.notSynchronized, hml⟩ hP hG hD.self (fun q h => Or.inr h) (lv_entry av hn) va_S.rf
    (fun rv ws1 H t ht h1 h2 locs hS => ⟨rfl, by rw [ht]; exact h1, h2, hS.F ht⟩)
theorem pr_blind {D : va_G} {tys : List (ClassId × FieldType)} {ws0 : va_W} {av : List Value} : FrameBlind (va_Pc av (PR D tys ws0)) := fun _ _ _ _ q => ⟨q.1, q.2.1, q.2.2.call⟩
theorem pw_blind {D : va_G} {tys : List (ClassId × FieldType)} {ws0 : va_W} {sz : Nat} {av : List Value} : FrameBlind (va_Pc av (PW D tys ws0 sz)) := fun _ _ _ _ q => ⟨q.1, q.2.1, q.2.2.1, q.2.2.2.1.call, q.2.2.2.2⟩
section RC
variable {p : Program} {l : Launch} {e : Env} {R : Room} {s : State} {m : MethodId} {args : Array Value} {below : List Frame} {meth : Method} {c : Code} {H : Heap} {locs : List Loc} {cells slots : Nat} {Q : State → Prop}
variable {D : va_G} {tys : List (ClassId × FieldType)} {cc bytes : ByteArray} {nL mL index pc : Nat} {own C host : String} {y : MethodName} {ret : Option FieldType} {fr lo : Nat} {As rest st0 : List Value} {ls : Array Slot} {b : Nat} {rv : Option Value} {wc w1 ws ws' : va_W} {A : Nat → Prop} {H0 : Heap}
theorem cr_back {a : Array Value} (hr : va_Run p l e R s m args below meth c H locs cells slots 0 0 (F0 m pc ls st0) rest (QR rv a) (fun _ => False))
    (kk : W p l e R s m args below meth c H locs cells slots Q (F0 m (pc + 3) ls (rv.toList ++ rest))) : W p l e R s m args below meth c H locs cells slots Q (F0 m pc ls st0) := by
  intro T hT X
  obtain ⟨v, st₀, t, T', L, h0, X', hL, e1, e2, ⟨hv, hh⟩, st⟩ := hr T hT X
  cases hv
  obtain ⟨t2, a1, b1⟩ := kk T' (by rw [e1, hh, h0]) (Stand.forget X' (fun q h => (hL q h).elim))
  exact ⟨t2, st t2 a1, b1⟩
theorem cw_back {a : Array Value} (hr : va_Run p l e R s m args below meth c H locs cells slots 0 0 (F0 m pc ls st0) rest (QW D rv wc w1 H.size a) (va_A wc H.size))
    (hP : va_P D vwCl ws H) (hD : va_D A ws) (hS : va_S A H0 H locs) (hA : ∀ q, H0.size ≤ q → A q) (isC isR pm : List Nat) (hC : isC.map (fun i => ws[i]?) = wc.map some) (hR : isR.map (fun i => ws[i]?) = (isR.filterMap (fun i => ws[i]?)).map some) (hn : va_nd isR = true) (hdis : ∀ i ∈ isR, i ∉ isC)
    (hpm : pm.map (fun i => (isR.filterMap (fun i => ws[i]?) ++ w1)[i]?) = ws'.map some) (hpf : pm.filterMap (fun i => (isR.filterMap (fun i => ws[i]?) ++ w1)[i]?) = ws') (hnd : va_nd pm = true)
    (kk : ∀ (H1 : Heap) (locs1 : List Loc), va_P D vwCl ws' H1 → va_D A ws' → va_S A H0 H1 locs1 → W p l e R s m args below meth c H1 locs1 cells slots Q (F0 m (pc + 3) ls (rv.toList ++ rest))) : W p l e R s m args below meth c H locs cells slots Q (F0 m pc ls st0) := by
  have hFc := va_free (wc := wc) hD hS hA isC hC
  intro T hT X
  obtain ⟨v, st₀, t, T', L, h0, X', hL, e1, e2, ⟨hv, hP1, hD1, hz, hk⟩, st⟩ := hr T hT X
  cases hv
  rw [h0] at hz hk
  obtain ⟨hPj, hDj⟩ := va_join (wr := isR.filterMap (fun i => ws[i]?)) (w1 := w1) hP hD isC isR hC hR hn hdis (H1 := T'.heap) (fun q h1 h2 => by rw [e1]; exact hk q h1 h2) hFc (by rw [e1]; exact hP1) hD1
  obtain ⟨t2, a1, b1⟩ := kk T'.heap (locs ++ L) (hPj.sub pm hpf) (hDj.sub pm hnd hpm)
    ⟨Nat.le_trans hS.1 (by rw [e1]; exact hz), fun q h1 h2 => by rw [e1, hk q (Nat.lt_of_lt_of_le h1 hS.1) (fun z => h2 (hFc q z))]; exact hS.2.1 q h1 h2, fun q hq => by
      rcases List.mem_append.mp hq with h | h
      · exact hS.2.2 q h
      · exact hFc _ (hL q h)⟩ T' rfl X'
  exact ⟨t2, st t2 a1, b1⟩
abbrev Callee (y : MethodName) (bytes : ByteArray) (mL : Nat) (ret : Option FieldType) (n : Nat) : Prop := Cond.code y bytes mL ret ∈ TB ∧ Cond.initialized y.cls ∈ TB ∧ (y.cls ≠ "java/lang/invoke/MethodHandle" ∧ y.cls ≠ "java/lang/invoke/VarHandle" ∧ (parseMethodDescriptor y.desc).map (fun d => d.parameters.length) = some n)
variable {n mc ms : Nat} {Pr : State → Prop} {Qc : Array Value → State → Outcome → State → Prop} {free : Addr → Prop}
theorem run_V (S : CallFix p m c cc nL s args TB own) (hM : Met l y (.code y bytes mL ret :: TB) (Rm fr lo) (va_Pc (.ref b :: As) Pr) Qc 0 0 free) (hc : Callee y bytes mL ret n) (hl : Cond.methodLink own index y ∈ TB) (hi : Cond.instanceMethod y ∈ TB) (hs : Cond.selects y.cls y y ∈ TB)
    (hR : fr + 1 ≤ R.frames ∧ 8 + (mL + 11) + lo ≤ R.locals) (hbl : FrameBlind (va_Pc (.ref b :: As) Pr)) (hPr : ∀ U : State, U.heap = H → s.WarmedH U.vm → Pr U) (hrec : ∃ cellB : Cell, H[b]? = some cellB ∧ cellB.vm.isStatics = false ∧ s.vm.findClass y.cls = some cellB.cls)
    (hn : As.length = n) (hsize : ls.size = nL) (hst : st0 = As.reverse ++ .ref b :: rest) (hW : (rest.map fun v => v.category).sum ≤ 8) (hdg : decode cc pc = .ok (.invokevirtual index, 3)) (hf : cells ≤ R.cells ∧ slots ≤ R.slots) :
    va_Run p l e R s m args below meth c H locs cells slots 0 0 (F0 m pc ls st0) rest (Qc (Value.ref b :: As).toArray) free :=
  va_runV (As := As) (rest := rest) S hM ⟨callB_of n S.2.2.2.2 (tb_gc hc.1) rfl rfl rfl (S.2.2.2.2 _ hc.2.1) (S.2.2.2.2 _ hl) hc.2.2 hR, S.2.2.2.2 _ hi, S.2.2.2.2 _ hs⟩ ⟨hbl, hrec, fun U h1 h2 => ⟨rfl, hPr U h1 h2⟩⟩ rfl hn hsize hst (lv_room hW) hdg hf
theorem run_S (S : CallFix p m c cc nL s args TB own) (hM : Met l y (.code y bytes mL ret :: TB) (Rm fr lo) (va_Pc As Pr) Qc 0 0 free) (hc : Callee y bytes mL ret n) (hl : Cond.methodLink own index y ∈ TB) (hs : Cond.static y ∈ TB)
    (hR : fr + 1 ≤ R.frames ∧ 8 + (mL + 11) + lo ≤ R.locals) (hbl : FrameBlind (va_Pc As Pr)) (hPr : ∀ U : State, U.heap = H → s.WarmedH U.vm → Pr U)
    (hn : As.length = n) (hsize : ls.size = nL) (hst : st0 = As.reverse ++ rest) (hW : (rest.map fun v => v.category).sum ≤ 8) (hdg : decode cc pc = .ok (.invokestatic index, 3)) (hf : cells ≤ R.cells ∧ slots ≤ R.slots) :
    va_Run p l e R s m args below meth c H locs cells slots 0 0 (F0 m pc ls st0) rest (Qc As.toArray) free :=
  va_runS (As := As) (rest := rest) S hM ⟨callB_of n S.2.2.2.2 (tb_gc hc.1) rfl rfl rfl (S.2.2.2.2 _ hc.2.1) (S.2.2.2.2 _ hl) hc.2.2 hR, S.2.2.2.2 _ hs⟩ ⟨hbl, fun U h1 h2 => ⟨rfl, hPr U h1 h2⟩⟩ rfl hn hsize hst (lv_room hW) hdg hf
theorem run_VN (S : CallFix p m c cc nL s args TB own) (hM : Met l y (.code y bytes mL ret :: TB) (Rm fr lo) (va_Pc (.ref b :: As) Pr) Qc 0 0 free) (hc : Callee y bytes mL ret n) (hG : GK D tys s) (hl : Cond.methodLinkNest own index y host ∈ NB) (hi : Cond.instanceMethod y ∈ TB) (hs : Cond.selects y.cls y y ∈ TB)
    (hR : fr + 1 ≤ R.frames ∧ 8 + (mL + 11) + lo ≤ R.locals) (hbl : FrameBlind (va_Pc (.ref b :: As) Pr)) (hPr : ∀ U : State, U.heap = H → s.WarmedH U.vm → Pr U) (hrec : ∃ cellB : Cell, H[b]? = some cellB ∧ cellB.vm.isStatics = false ∧ s.vm.findClass y.cls = some cellB.cls)
    (hn : As.length = n) (hsize : ls.size = nL) (hst : st0 = As.reverse ++ .ref b :: rest) (hW : (rest.map fun v => v.category).sum ≤ 8) (hdg : decode cc pc = .ok (.invokevirtual index, 3)) (hf : cells ≤ R.cells ∧ slots ≤ R.slots) :
    va_Run p l e R s m args below meth c H locs cells slots 0 0 (F0 m pc ls st0) rest (Qc (Value.ref b :: As).toArray) free :=
  va_runVN (As := As) (rest := rest) S hM ⟨va_cnB n S.2.2.2.2 (tb_gc hc.1) rfl rfl rfl (hG.2 _ hl) (S.2.2.2.2 _ hc.2.1) hc.2.2 hR, S.2.2.2.2 _ hi, S.2.2.2.2 _ hs⟩ ⟨hbl, hrec, fun U h1 h2 => ⟨rfl, hPr U h1 h2⟩⟩ rfl hn hsize hst (lv_room hW) hdg hf
theorem run_SN (S : CallFix p m c cc nL s args TB own) (hM : Met l y (.code y bytes mL ret :: TB) (Rm fr lo) (va_Pc As Pr) Qc 0 0 free) (hc : Callee y bytes mL ret n) (hG : GK D tys s) (hl : Cond.methodLinkNest own index y host ∈ NB) (hs : Cond.static y ∈ TB)
    (hR : fr + 1 ≤ R.frames ∧ 8 + (mL + 11) + lo ≤ R.locals) (hbl : FrameBlind (va_Pc As Pr)) (hPr : ∀ U : State, U.heap = H → s.WarmedH U.vm → Pr U)
    (hn : As.length = n) (hsize : ls.size = nL) (hst : st0 = As.reverse ++ rest) (hW : (rest.map fun v => v.category).sum ≤ 8) (hdg : decode cc pc = .ok (.invokestatic index, 3)) (hf : cells ≤ R.cells ∧ slots ≤ R.slots) :
    va_Run p l e R s m args below meth c H locs cells slots 0 0 (F0 m pc ls st0) rest (Qc As.toArray) free :=
  va_runSN (As := As) (rest := rest) S hM ⟨va_cnB n S.2.2.2.2 (tb_gc hc.1) rfl rfl rfl (hG.2 _ hl) (S.2.2.2.2 _ hc.2.1) hc.2.2 hR, S.2.2.2.2 _ hs, trivial⟩ ⟨hbl, fun U h1 h2 => ⟨rfl, hPr U h1 h2⟩⟩ rfl hn hsize hst (lv_room hW) hdg hf
theorem prR (hP : va_P D vwCl wc H) (hG : GK D tys s) : ∀ U : State, U.heap = H → s.WarmedH U.vm → PR D tys wc U := fun _ hU hW => ⟨by rw [hU]; exact hP, hG.warm hW⟩
theorem prW (hP : va_P D vwCl wc H) (hG : GK D tys s) (hD : va_D A wc) : ∀ U : State, U.heap = H → s.WarmedH U.vm → PW D tys wc H.size U := fun _ hU hW => ⟨by rw [hU], by rw [hU]; exact hP, hG.warm hW, hD.weaken (fun _ _ _ _ => trivial)⟩
end RC
theorem gd {α : Type} {c : Prop} [Decidable c] {a : Option α} {b : α} (h : (if c then a else none) = some b) : c ∧ a = some b := by
  by_cases hc : c
  · rw [if_pos hc] at h; exact ⟨hc, h⟩
  · rw [if_neg hc] at h; cases h
theorem bd {α β : Type} {x : Option α} {f : α → Option β} {b : β} (h : Option.bind x f = some b) : ∃ a, x = some a ∧ f a = some b := by
  cases x with
  | none => cases h
  | some a => exact ⟨a, rfl, h⟩
abbrev TY (k : Nat → ClassId) : List (ClassId × FieldType) := [(k 0, .int), (k 1, .long), (k 2, .char), (k 3, .boolean), (k 4, .object "HalfMast$Mark"), (k 5, .object "HalfMast$State")]
/-- as often as any loop here may go round; never unfolded but by FU_big -/
def FU : Nat := 2 ^ 40
theorem nar_bool {x : Int32} (h : x = 0 ∨ x = 1) : narrow .boolean (.int x) = .int x := by rcases h with rfl | rfl <;> rfl
theorem va_rf_cases (r : Option Nat) : va_rf r = .null ∨ ∃ a, va_rf r = .ref a := by cases r with
  | none => exact Or.inl rfl
  | some a => exact Or.inr ⟨a, rfl⟩
theorem sw_out {x : Int32} {lo hi : Int} (hl : -2147483648 ≤ lo) (hh : hi ≤ 2147483647) (h : ∀ v : Int, lo ≤ v → v ≤ hi → ¬ x = Int32.ofInt v) : x.toInt < lo ∨ hi < x.toInt := by
  by_cases h1 : x.toInt < lo
  · exact Or.inl h1
  · by_cases h2 : hi < x.toInt
    · exact Or.inr h2
    · exact absurd (Int32.ofInt_toInt x).symm (h x.toInt (by omega) (by omega))
theorem hiX1 : ∀ w ∈ wsX10, w ∈ TB := by decide +kernel
theorem hiX2 : ∀ w ∈ wsX20, w ∈ TB := by decide +kernel
theorem hiX3 : ∀ w ∈ wsX30, w ∈ TB := by decide +kernel
theorem hiX4 : ∀ w ∈ wsX40, w ∈ TB := by decide +kernel
theorem hiX5 : ∀ w ∈ wsX50, w ∈ TB := by decide +kernel
theorem hiX6 : ∀ w ∈ wsX60, w ∈ TB := by decide +kernel
theorem hiX7 : ∀ w ∈ wsX70, w ∈ TB := by decide +kernel
theorem hiX8 : ∀ w ∈ wsX80, w ∈ TB := by decide +kernel
theorem hiX10 : ∀ w ∈ wsX100, w ∈ TB := by decide +kernel
theorem hiX11 : ∀ w ∈ wsX110, w ∈ TB := by decide +kernel
theorem hiX12 : ∀ w ∈ wsX120, w ∈ TB := by decide +kernel
/-- a written place of a row -/
theorem pn_in {c N : Nat} (h : c < N) (hN : N < 2147483648) : vp_in (OfNat.ofNat c) N := nI_in (c := c) h hN
/-! a callee's cells among the caller's, in the same order: by a mask -/
def pick : List Bool → va_W → va_W
  | true :: bs, q :: ws => q :: pick bs ws
  | false :: bs, _ :: ws => pick bs ws
  | _, _ => []
def mrg : List Bool → va_W → va_W → va_W
  | true :: bs, _ :: ws, c :: cs => c :: mrg bs ws cs
  | false :: bs, q :: ws, cs => q :: mrg bs ws cs
  | _, ws, _ => ws
theorem pick_sub : ∀ (bs : List Bool) (ws : va_W), (pick bs ws).Sublist ws
  | true :: bs, q :: ws => (pick_sub bs ws).cons_cons q
  | false :: bs, q :: ws => (pick_sub bs ws).cons q
  | [], _ => List.nil_sublist _
  | true :: _, [] => List.Sublist.refl _
  | false :: _, [] => List.Sublist.refl _
theorem D_iff {A : Nat → Prop} {ws : va_W} : va_D A ws ↔ (ws.map (fun q => q.1)).Nodup ∧ ∀ q ∈ ws, A q.1 := by
  constructor
  · intro h
    refine ⟨List.pairwise_iff_getElem.mpr (fun i j hi hj hij e => ?_), fun q hq => ?_⟩
    · rw [List.getElem_map, List.getElem_map] at e
      rw [List.length_map] at hi hj
      exact absurd (h.1 i j _ _ (List.getElem?_eq_getElem hi) (List.getElem?_eq_getElem hj) e) (Nat.ne_of_lt hij)
    · obtain ⟨k, hk⟩ := List.getElem?_of_mem hq
      exact h.2 k q hk
  · intro h
    refine ⟨fun i j p q h1 h2 e => ?_, fun k q hk => h.2 q (List.mem_of_getElem? hk)⟩
    have hn := List.pairwise_iff_getElem.mp h.1
    obtain ⟨l1, g1⟩ := List.getElem?_eq_some_iff.mp h1
    obtain ⟨l2, g2⟩ := List.getElem?_eq_some_iff.mp h2
    have m1 : i < (ws.map (fun q => q.1)).length := by rw [List.length_map]; exact l1
    have m2 : j < (ws.map (fun q => q.1)).length := by rw [List.length_map]; exact l2
    rcases Nat.lt_trichotomy i j with h3 | h3 | h3
    · exact absurd (by rw [List.getElem_map, List.getElem_map, g1, g2]; exact e) (hn i j m1 m2 h3)
    · exact h3
    · exact absurd (by rw [List.getElem_map, List.getElem_map, g1, g2]; exact e.symm) (hn j i m2 m1 h3)
theorem P_pick {D : va_G} {cl : List vw_C} {ws wc : va_W} {H : Heap} (bs : List Bool) (hw : pick bs ws = wc) (h : va_P D cl ws H) : va_P D cl wc H := by
  subst hw
  intro k q hk
  obtain ⟨j, hj⟩ := List.getElem?_of_mem ((pick_sub bs ws).subset (List.mem_of_getElem? hk))
  exact h j q hj
theorem D_pick {A : Nat → Prop} {ws wc : va_W} (bs : List Bool) (hw : pick bs ws = wc) (h : va_D A ws) : va_D A wc := by
  subst hw
  have h := D_iff.mp h
  exact D_iff.mpr ⟨h.1.sublist ((pick_sub bs ws).map _), fun q hq => h.2 q ((pick_sub bs ws).subset hq)⟩
theorem mrg_addr : ∀ (bs : List Bool) (ws w1 : va_W), w1.map (fun q => q.1) = (pick bs ws).map (fun q => q.1) → (mrg bs ws w1).map (fun q => q.1) = ws.map (fun q => q.1)
  | true :: bs, q :: ws, [], h => rfl
  | true :: bs, q :: ws, c :: cs, h => by
    have h' : c.1 :: cs.map (fun q => q.1) = q.1 :: (pick bs ws).map (fun q => q.1) := h
    injection h' with h1 h2
    show c.1 :: (mrg bs ws cs).map (fun q => q.1) = q.1 :: ws.map (fun q => q.1)
    rw [h1, mrg_addr bs ws cs h2]
  | false :: bs, q :: ws, cs, h => by
    show q.1 :: (mrg bs ws cs).map (fun q => q.1) = q.1 :: ws.map (fun q => q.1)
    rw [mrg_addr bs ws cs h]
  | [], _, _, _ => rfl
  | true :: _, [], _, _ => rfl
  | false :: _, [], _, _ => rfl
theorem mrg_mem : ∀ (bs : List Bool) (ws w1 : va_W) (q : Nat × va_E), w1.map (fun q => q.1) = (pick bs ws).map (fun q => q.1) → (ws.map (fun q => q.1)).Nodup → q ∈ mrg bs ws w1 → q ∈ w1 ∨ (q ∈ ws ∧ q.1 ∉ (pick bs ws).map (fun q => q.1))
  | true :: bs, q0 :: ws, [], q, h, _, _ => by cases h
  | true :: bs, q0 :: ws, c :: cs, q, h, hn, hq => by
    have h' : c.1 :: cs.map (fun q => q.1) = q0.1 :: (pick bs ws).map (fun q => q.1) := h
    injection h' with h1 h2
    have hn' : (q0.1 :: ws.map (fun q => q.1)).Nodup := hn
    rcases List.mem_cons.mp (show q ∈ c :: mrg bs ws cs from hq) with e | e
    · exact Or.inl (e ▸ List.mem_cons_self)
    · rcases mrg_mem bs ws cs q h2 (List.nodup_cons.mp hn').2 e with g | ⟨g1, g2⟩
      · exact Or.inl (List.mem_cons_of_mem _ g)
      · refine Or.inr ⟨List.mem_cons_of_mem _ g1, fun z => ?_⟩
        rcases List.mem_cons.mp (show q.1 ∈ q0.1 :: (pick bs ws).map (fun q => q.1) from z) with e2 | e2
        · exact (List.nodup_cons.mp hn').1 (e2 ▸ List.mem_map_of_mem g1)
        · exact g2 e2
  | false :: bs, q0 :: ws, cs, q, h, hn, hq => by
    have hn' : (q0.1 :: ws.map (fun q => q.1)).Nodup := hn
    rcases List.mem_cons.mp (show q ∈ q0 :: mrg bs ws cs from hq) with e | e
    · subst e
      refine Or.inr ⟨List.mem_cons_self, fun z => ?_⟩
      obtain ⟨x, hx, e⟩ := List.mem_map.mp (show q.1 ∈ (pick bs ws).map (fun q => q.1) from z)
      exact (List.nodup_cons.mp hn').1 (e ▸ List.mem_map_of_mem ((pick_sub bs ws).subset hx))
    · rcases mrg_mem bs ws cs q h (List.nodup_cons.mp hn').2 e with g | ⟨g1, g2⟩
      · exact Or.inl g
      · exact Or.inr ⟨List.mem_cons_of_mem _ g1, g2⟩
  | [], ws, _, q, _, _, hq => Or.inr ⟨hq, List.not_mem_nil⟩
  | true :: _, [], _, q, _, _, hq => Or.inr ⟨hq, List.not_mem_nil⟩
  | false :: _, [], _, q, _, _, hq => Or.inr ⟨hq, List.not_mem_nil⟩
theorem cw_mask {p : Program} {l : Launch} {e : Env} {R : Room} {s : State} {m : MethodId} {args : Array Value} {below : List Frame} {meth : Method} {c : Code} {H : Heap} {locs : List Loc} {cells slots : Nat} {Q : State → Prop}
    {D : va_G} {pc : Nat} {rest st0 : List Value} {ls : Array Slot} {rv : Option Value} {wc w1 ws ws' : va_W} {A : Nat → Prop} {H0 : Heap} {a : Array Value} (hr : va_Run p l e R s m args below meth c H locs cells slots 0 0 (F0 m pc ls st0) rest (QW D rv wc w1 H.size a) (va_A wc H.size))
    (hP : va_P D vwCl ws H) (hD : va_D A ws) (hS : va_S A H0 H locs) (hA : ∀ q, H0.size ≤ q → A q) (bs : List Bool) (hC : pick bs ws = wc) (hadr : w1.map (fun q => q.1) = wc.map (fun q => q.1)) (hws : mrg bs ws w1 = ws')
    (kk : ∀ (H1 : Heap) (locs1 : List Loc), va_P D vwCl ws' H1 → va_D A ws' → va_S A H0 H1 locs1 → W p l e R s m args below meth c H1 locs1 cells slots Q (F0 m (pc + 3) ls (rv.toList ++ rest))) : W p l e R s m args below meth c H locs cells slots Q (F0 m pc ls st0) := by
  subst hC
  subst hws
  have hDD := D_iff.mp hD
  have hFc : ∀ q, va_A (pick bs ws) H.size q → A q := by
    intro q hq
    rcases hq with ⟨k, e, h⟩ | h
    · exact hDD.2 _ ((pick_sub bs ws).subset (List.mem_of_getElem? h))
    · exact hA q (Nat.le_trans hS.1 h)
  intro T hT X
  obtain ⟨v, st₀, t, T', L, h0, X', hL, e1, e2, ⟨hv, hP1, hD1, hz, hk⟩, st⟩ := hr T hT X
  cases hv
  rw [h0] at hz hk
  have hPj : va_P D vwCl (mrg bs ws w1) T'.heap := by
    intro k q hq
    rcases mrg_mem bs ws w1 q hadr hDD.1 (List.mem_of_getElem? hq) with g | ⟨g1, g2⟩
    · obtain ⟨j, hj⟩ := List.getElem?_of_mem g
      rw [e1]; exact hP1 j q hj
    · obtain ⟨j, hj⟩ := List.getElem?_of_mem g1
      have hl := (hP j q hj).lt
      refine (hP j q hj).kept ?_
      rw [e1]
      refine hk q.1 hl (fun z => ?_)
      rcases z with ⟨i, e, hz⟩ | hz
      · exact g2 (List.mem_map.mpr ⟨(q.1, e), List.mem_of_getElem? hz, rfl⟩)
      · omega
  have hDj : va_D A (mrg bs ws w1) := by
    have ha := mrg_addr bs ws w1 hadr
    refine D_iff.mpr ⟨by rw [ha]; exact hDD.1, fun q hq => ?_⟩
    have : q.1 ∈ ws.map (fun q => q.1) := by rw [← ha]; exact List.mem_map_of_mem hq
    obtain ⟨x, hx, ex⟩ := List.mem_map.mp this
    rw [← ex]; exact hDD.2 x hx
  obtain ⟨t2, a1, b1⟩ := kk T'.heap (locs ++ L) hPj hDj
    ⟨Nat.le_trans hS.1 (by rw [e1]; exact hz), fun q h1 h2 => by rw [e1, hk q (Nat.lt_of_lt_of_le h1 hS.1) (fun z => h2 (hFc q z))]; exact hS.2.1 q h1 h2, fun q hq => by
      rcases List.mem_append.mp hq with h | h
      · exact hS.2.2 q h
      · exact hFc _ (hL q h)⟩ T' rfl X'
  exact ⟨t2, st t2 a1, b1⟩
theorem cw_maskP {p : Program} {l : Launch} {e : Env} {R : Room} {s : State} {m : MethodId} {args : Array Value} {below : List Frame} {meth : Method} {c : Code} {H : Heap} {locs : List Loc} {cells slots : Nat} {Q : State → Prop}
    {D : va_G} {pc : Nat} {rest st0 : List Value} {ls : Array Slot} {rv : Option Value} {wc w1 ws ws' w2 : va_W} {A : Nat → Prop} {H0 : Heap} {a : Array Value} (hr : va_Run p l e R s m args below meth c H locs cells slots 0 0 (F0 m pc ls st0) rest (QW D rv wc w1 H.size a) (va_A wc H.size))
    (hP : va_P D vwCl ws H) (hD : va_D A ws) (hS : va_S A H0 H locs) (hA : ∀ q, H0.size ≤ q → A q) (bs : List Bool) (pm pm' : List Nat) (hC : pm.filterMap (fun i => (pick bs ws)[i]?) = wc) (h2 : pm'.filterMap (fun i => w1[i]?) = w2) (hadr : w2.map (fun q => q.1) = (pick bs ws).map (fun q => q.1)) (hws : mrg bs ws w2 = ws')
    (kk : ∀ (H1 : Heap) (locs1 : List Loc), va_P D vwCl ws' H1 → va_D A ws' → va_S A H0 H1 locs1 → W p l e R s m args below meth c H1 locs1 cells slots Q (F0 m (pc + 3) ls (rv.toList ++ rest))) : W p l e R s m args below meth c H locs cells slots Q (F0 m pc ls st0) := by
  subst hws
  have hDD := D_iff.mp hD
  have hsub : ∀ q ∈ wc, q ∈ pick bs ws := by
    intro q hq
    rw [← hC] at hq
    obtain ⟨i, -, hi⟩ := List.mem_filterMap.mp hq
    exact List.mem_of_getElem? hi
  have hsub2 : ∀ q ∈ w2, q ∈ w1 := by
    intro q hq
    rw [← h2] at hq
    obtain ⟨i, -, hi⟩ := List.mem_filterMap.mp hq
    exact List.mem_of_getElem? hi
  have hFc : ∀ q, va_A wc H.size q → A q := by
    intro q hq
    rcases hq with ⟨k, e, h⟩ | h
    · exact hDD.2 _ ((pick_sub bs ws).subset (hsub _ (List.mem_of_getElem? h)))
    · exact hA q (Nat.le_trans hS.1 h)
  intro T hT X
  obtain ⟨v, st₀, t, T', L, h0, X', hL, e1, e2, ⟨hv, hP1, hD1, hz, hk⟩, st⟩ := hr T hT X
  cases hv
  rw [h0] at hz hk
  have hPj : va_P D vwCl (mrg bs ws w2) T'.heap := by
    intro k q hq
    rcases mrg_mem bs ws w2 q hadr hDD.1 (List.mem_of_getElem? hq) with g | ⟨g1, g2⟩
    · obtain ⟨j, hj⟩ := List.getElem?_of_mem (hsub2 q g)
      rw [e1]; exact hP1 j q hj
    · obtain ⟨j, hj⟩ := List.getElem?_of_mem g1
      have hl := (hP j q hj).lt
      refine (hP j q hj).kept ?_
      rw [e1]
      refine hk q.1 hl (fun z => ?_)
      rcases z with ⟨i, e, hz⟩ | hz
      · exact g2 (List.mem_map.mpr ⟨(q.1, e), hsub _ (List.mem_of_getElem? hz), rfl⟩)
      · omega
  have hDj : va_D A (mrg bs ws w2) := by
    have ha := mrg_addr bs ws w2 hadr
    refine D_iff.mpr ⟨by rw [ha]; exact hDD.1, fun q hq => ?_⟩
    have : q.1 ∈ ws.map (fun q => q.1) := by rw [← ha]; exact List.mem_map_of_mem hq
    obtain ⟨x, hx, ex⟩ := List.mem_map.mp this
    rw [← ex]; exact hDD.2 x hx
  obtain ⟨t2, a1, b1⟩ := kk T'.heap (locs ++ L) hPj hDj
    ⟨Nat.le_trans hS.1 (by rw [e1]; exact hz), fun q h1 h2 => by rw [e1, hk q (Nat.lt_of_lt_of_le h1 hS.1) (fun z => h2 (hFc q z))]; exact hS.2.1 q h1 h2, fun q hq => by
      rcases List.mem_append.mp hq with h | h
      · exact hS.2.2 q h
      · exact hFc _ (hL q h)⟩ T' rfl X'
  exact ⟨t2, st t2 a1, b1⟩
theorem kn_38 : (Jvm.Cond.methodLinkNest "HalfMast" (11 : Nat) ({ cls := "HalfMast$Tape", name := "<init>", desc := "()V" } : Jvm.MethodName) "HalfMast") ∈ NB := nb_t1 38 rfl rfl
theorem kn_45 : (Jvm.Cond.fieldLinkNest "HalfMast" (89 : Nat) "HalfMast$Tape" "length" "I" "HalfMast") ∈ NB := nb_t1 45 rfl rfl
theorem kn_51 : (Jvm.Cond.fieldLinkNest "HalfMast$Law" (72 : Nat) "HalfMast$Tape" "number" "I" "HalfMast") ∈ NB := nb_t1 51 rfl rfl
theorem kn_52 : (Jvm.Cond.fieldLinkNest "HalfMast$Town" (144 : Nat) "HalfMast$Tape" "letters" "J" "HalfMast") ∈ NB := nb_t1 52 rfl rfl
theorem kn_55 : (Jvm.Cond.fieldLinkNest "HalfMast$Year" (49 : Nat) "HalfMast$Tape" "word" "LHalfMast$Word;" "HalfMast") ∈ NB := nb_t1 55 rfl rfl
theorem kn_56 : (Jvm.Cond.fieldLinkNest "HalfMast$Town" (82 : Nat) "HalfMast$Tape" "word" "LHalfMast$Word;" "HalfMast") ∈ NB := nb_t1 56 rfl rfl
theorem kn_57 : (Jvm.Cond.fieldLinkNest "HalfMast$Law" (75 : Nat) "HalfMast$Tape" "word" "LHalfMast$Word;" "HalfMast") ∈ NB := nb_t1 57 rfl rfl
theorem kn_59 : (Jvm.Cond.fieldLinkNest "HalfMast$Town" (74 : Nat) "HalfMast$Tape" "fault" "I" "HalfMast") ∈ NB := nb_t1 59 rfl rfl
theorem kn_60 : (Jvm.Cond.fieldLinkNest "HalfMast$Year" (46 : Nat) "HalfMast$Tape" "fault" "I" "HalfMast") ∈ NB := nb_t1 60 rfl rfl
theorem kn_83 : (Jvm.Cond.methodLinkNest "HalfMast" (18 : Nat) ({ cls := "HalfMast$History", name := "<init>", desc := "()V" } : Jvm.MethodName) "HalfMast") ∈ NB := nb_t1 83 rfl rfl
theorem kn_90 : (Jvm.Cond.methodLinkNest "HalfMast$History" (17 : Nat) ({ cls := "HalfMast$State", name := "<init>", desc := "()V" } : Jvm.MethodName) "HalfMast") ∈ NB := nb_t1 90 rfl rfl
theorem kn_95 : (Jvm.Cond.fieldLinkNest "HalfMast$Course" (59 : Nat) "HalfMast$State" "lacks" "[I" "HalfMast") ∈ NB := nb_t1 95 rfl rfl
theorem kn_96 : (Jvm.Cond.fieldLinkNest "HalfMast$Town" (141 : Nat) "HalfMast$State" "lacks" "[I" "HalfMast") ∈ NB := nb_t1 96 rfl rfl
theorem kn_98 : (Jvm.Cond.fieldLinkNest "HalfMast" (139 : Nat) "HalfMast$State" "feels" "[I" "HalfMast") ∈ NB := nb_t1 98 rfl rfl
theorem kn_100 : (Jvm.Cond.fieldLinkNest "HalfMast$Course" (87 : Nat) "HalfMast$State" "date" "I" "HalfMast") ∈ NB := nb_t1 100 rfl rfl
theorem kn_101 : (Jvm.Cond.fieldLinkNest "HalfMast" (349 : Nat) "HalfMast$State" "date" "I" "HalfMast") ∈ NB := nb_t1 101 rfl rfl
theorem kn_113 : (Jvm.Cond.fieldLinkNest "HalfMast" (358 : Nat) "HalfMast$History" "many" "I" "HalfMast") ∈ NB := nb_t1 113 rfl rfl
theorem kn_123 : (Jvm.Cond.methodLinkNest "HalfMast" (25 : Nat) ({ cls := "HalfMast$Notes", name := "<init>", desc := "()V" } : Jvm.MethodName) "HalfMast") ∈ NB := nb_t1 123 rfl rfl
theorem kn_130 : (Jvm.Cond.fieldLinkNest "HalfMast" (355 : Nat) "HalfMast$Notes" "many" "I" "HalfMast") ∈ NB := nb_t1 130 rfl rfl
theorem kn_142 : (Jvm.Cond.methodLinkNest "HalfMast" (45 : Nat) ({ cls := "HalfMast$Course", name := "<init>", desc := "()V" } : Jvm.MethodName) "HalfMast") ∈ NB := nb_t1 142 rfl rfl
theorem kn_147 : (Jvm.Cond.methodLinkNest "HalfMast$Course" (11 : Nat) ({ cls := "HalfMast$State", name := "<init>", desc := "()V" } : Jvm.MethodName) "HalfMast") ∈ NB := nb_t1 147 rfl rfl
theorem kn_149 : (Jvm.Cond.fieldLinkNest "HalfMast" (136 : Nat) "HalfMast$Course" "state" "LHalfMast$State;" "HalfMast") ∈ NB := nb_t1 149 rfl rfl
theorem kn_150 : (Jvm.Cond.fieldLinkNest "HalfMast$Year" (110 : Nat) "HalfMast$Course" "state" "LHalfMast$State;" "HalfMast") ∈ NB := nb_t1 150 rfl rfl
theorem kn_156 : (Jvm.Cond.fieldLinkNest "HalfMast" (114 : Nat) "HalfMast$Course" "flag" "I" "HalfMast") ∈ NB := nb_t1 156 rfl rfl
theorem kn_172 : (Jvm.Cond.methodLinkNest "HalfMast" (55 : Nat) ({ cls := "HalfMast$Town", name := "<init>", desc := "()V" } : Jvm.MethodName) "HalfMast") ∈ NB := nb_t1 172 rfl rfl
theorem kn_177 : (Jvm.Cond.methodLinkNest "HalfMast$Town" (21 : Nat) ({ cls := "HalfMast$State", name := "<init>", desc := "()V" } : Jvm.MethodName) "HalfMast") ∈ NB := nb_t1 177 rfl rfl
theorem kn_180 : (Jvm.Cond.methodLinkNest "HalfMast$Town" (28 : Nat) ({ cls := "HalfMast$Law", name := "<init>", desc := "()V" } : Jvm.MethodName) "HalfMast") ∈ NB := nb_t1 180 rfl rfl
theorem kn_197 : (Jvm.Cond.fieldLinkNest "HalfMast" (121 : Nat) "HalfMast$Town" "kinds" "[I" "HalfMast") ∈ NB := nb_t1 197 rfl rfl
theorem kn_199 : (Jvm.Cond.fieldLinkNest "HalfMast" (77 : Nat) "HalfMast$Town" "begin" "LHalfMast$State;" "HalfMast") ∈ NB := nb_t1 199 rfl rfl
theorem kn_201 : (Jvm.Cond.fieldLinkNest "HalfMast$Course" (90 : Nat) "HalfMast$Town" "law" "LHalfMast$Law;" "HalfMast") ∈ NB := nb_t1 201 rfl rfl
theorem kn_203 : (Jvm.Cond.fieldLinkNest "HalfMast$Course" (81 : Nat) "HalfMast$Town" "persons" "I" "HalfMast") ∈ NB := nb_t1 203 rfl rfl
theorem kn_204 : (Jvm.Cond.fieldLinkNest "HalfMast" (197 : Nat) "HalfMast$Town" "persons" "I" "HalfMast") ∈ NB := nb_t1 204 rfl rfl
theorem kn_206 : (Jvm.Cond.fieldLinkNest "HalfMast" (340 : Nat) "HalfMast$Town" "mast" "I" "HalfMast") ∈ NB := nb_t1 206 rfl rfl
theorem kn_207 : (Jvm.Cond.fieldLinkNest "HalfMast$Course" (22 : Nat) "HalfMast$Town" "weighs" "I" "HalfMast") ∈ NB := nb_t1 207 rfl rfl
theorem kn_209 : (Jvm.Cond.fieldLinkNest "HalfMast" (343 : Nat) "HalfMast$Town" "weighs" "I" "HalfMast") ∈ NB := nb_t1 209 rfl rfl
theorem kn_210 : (Jvm.Cond.fieldLinkNest "HalfMast$Course" (28 : Nat) "HalfMast$Town" "rounds" "I" "HalfMast") ∈ NB := nb_t1 210 rfl rfl
theorem kn_212 : (Jvm.Cond.fieldLinkNest "HalfMast" (346 : Nat) "HalfMast$Town" "rounds" "I" "HalfMast") ∈ NB := nb_t1 212 rfl rfl
theorem kn_235 : (Jvm.Cond.methodLinkNest "HalfMast" (65 : Nat) ({ cls := "HalfMast$Year", name := "<init>", desc := "()V" } : Jvm.MethodName) "HalfMast") ∈ NB := nb_t1 235 rfl rfl
theorem kn_243 : (Jvm.Cond.fieldLinkNest "HalfMast" (175 : Nat) "HalfMast$Year" "lines" "I" "HalfMast") ∈ NB := nb_t2 3 rfl rfl
theorem kn_254 : (Jvm.Cond.methodLinkNest "HalfMast" (73 : Nat) ({ cls := "HalfMast$Mark", name := "<init>", desc := "()V" } : Jvm.MethodName) "HalfMast") ∈ NB := nb_t2 14 rfl rfl
theorem kn_259 : (Jvm.Cond.methodLinkNest "HalfMast$Mark" (9 : Nat) ({ cls := "HalfMast$State", name := "<init>", desc := "()V" } : Jvm.MethodName) "HalfMast") ∈ NB := nb_t2 19 rfl rfl
theorem kn_261 : (Jvm.Cond.methodLinkNest "HalfMast$Mark" (18 : Nat) ({ cls := "HalfMast$Notes", name := "<init>", desc := "()V" } : Jvm.MethodName) "HalfMast") ∈ NB := nb_t2 21 rfl rfl
theorem kn_263 : (Jvm.Cond.fieldLinkNest "HalfMast" (331 : Nat) "HalfMast$Mark" "state" "LHalfMast$State;" "HalfMast") ∈ NB := nb_t2 23 rfl rfl
theorem kn_265 : (Jvm.Cond.fieldLinkNest "HalfMast" (335 : Nat) "HalfMast$Mark" "seen" "LHalfMast$Notes;" "HalfMast") ∈ NB := nb_t2 25 rfl rfl
theorem kn_267 : (Jvm.Cond.fieldLinkNest "HalfMast" (339 : Nat) "HalfMast$Mark" "measured" "LHalfMast$Notes;" "HalfMast") ∈ NB := nb_t2 27 rfl rfl
theorem kn_268 : (Jvm.Cond.fieldLinkNest "HalfMast" (107 : Nat) "HalfMast$Mark" "laid" "Z" "HalfMast") ∈ NB := nb_t2 28 rfl rfl
theorem kn_278 : (Jvm.Cond.methodLinkNest "HalfMast" (74 : Nat) ({ cls := "HalfMast$Town", name := "clear", desc := "()V" } : Jvm.MethodName) "HalfMast") ∈ NB := nb_t2 38 rfl rfl
theorem kn_282 : (Jvm.Cond.methodLinkNest "HalfMast$Town" (33 : Nat) ({ cls := "HalfMast$State", name := "clear", desc := "()V" } : Jvm.MethodName) "HalfMast") ∈ NB := nb_t2 42 rfl rfl
theorem kn_289 : (Jvm.Cond.methodLinkNest "HalfMast$Town" (36 : Nat) ({ cls := "HalfMast$Law", name := "useOldLaw", desc := "()V" } : Jvm.MethodName) "HalfMast") ∈ NB := nb_t2 49 rfl rfl
theorem kn_301 : (Jvm.Cond.methodLinkNest "HalfMast$Law" (29 : Nat) ({ cls := "HalfMast", name := "put", desc := "([III)V" } : Jvm.MethodName) "HalfMast") ∈ NB := nb_t2 61 rfl rfl
theorem kn_304 : (Jvm.Cond.methodLinkNest "HalfMast" (81 : Nat) ({ cls := "HalfMast$Course", name := "start", desc := "(LHalfMast$Town;LHalfMast$State;)V" } : Jvm.MethodName) "HalfMast") ∈ NB := nb_t2 64 rfl rfl
theorem kn_312 : (Jvm.Cond.methodLinkNest "HalfMast$Course" (41 : Nat) ({ cls := "HalfMast$State", name := "copy", desc := "(LHalfMast$State;)V" } : Jvm.MethodName) "HalfMast") ∈ NB := nb_t2 72 rfl rfl
theorem kn_323 : (Jvm.Cond.methodLinkNest "HalfMast$Course" (48 : Nat) ({ cls := "HalfMast$Town", name := "weightOfAll", desc := "(LHalfMast$State;)I" } : Jvm.MethodName) "HalfMast") ∈ NB := nb_t2 83 rfl rfl
theorem kn_327 : (Jvm.Cond.methodLinkNest "HalfMast$Town" (176 : Nat) ({ cls := "HalfMast", name := "at", desc := "([II)I" } : Jvm.MethodName) "HalfMast") ∈ NB := nb_t2 87 rfl rfl
theorem kn_334 : (Jvm.Cond.methodLinkNest "HalfMast$Course" (52 : Nat) ({ cls := "HalfMast$Town", name := "flagUnder", desc := "(III)I" } : Jvm.MethodName) "HalfMast") ∈ NB := nb_t2 94 rfl rfl
theorem kn_388 : (Jvm.Cond.methodLinkNest "HalfMast" (85 : Nat) ({ cls := "HalfMast$Tape", name := "append", desc := "(J)V" } : Jvm.MethodName) "HalfMast") ∈ NB := nb_t2 148 rfl rfl
theorem kn_392 : (Jvm.Cond.methodLinkNest "HalfMast$Tape" (24 : Nat) ({ cls := "HalfMast", name := "within", desc := "(III)Z" } : Jvm.MethodName) "HalfMast") ∈ NB := nb_t2 152 rfl rfl
theorem kn_399 : (Jvm.Cond.methodLinkNest "HalfMast" (93 : Nat) ({ cls := "HalfMast$Town", name := "read", desc := "(LHalfMast$Tape;)I" } : Jvm.MethodName) "HalfMast") ∈ NB := nb_t2 159 rfl rfl
theorem kn_404 : (Jvm.Cond.methodLinkNest "HalfMast$Town" (56 : Nat) ({ cls := "HalfMast$Tape", name := "rewind", desc := "()V" } : Jvm.MethodName) "HalfMast") ∈ NB := nb_t2 164 rfl rfl
theorem kn_424 : (Jvm.Cond.methodLinkNest "HalfMast$Tape" (78 : Nat) ({ cls := "HalfMast$Word", name := "by", desc := "(J)LHalfMast$Word;" } : Jvm.MethodName) "HalfMast") ∈ NB := nb_t2 184 rfl rfl
theorem kn_522 : (Jvm.Cond.methodLinkNest "HalfMast$Town" (61 : Nat) ({ cls := "HalfMast$Tape", name := "goesOn", desc := "()Z" } : Jvm.MethodName) "HalfMast") ∈ NB := nb_t3 42 rfl rfl
theorem kn_542 : (Jvm.Cond.methodLinkNest "HalfMast$Town" (116 : Nat) ({ cls := "HalfMast$Tape", name := "refuse", desc := "(I)V" } : Jvm.MethodName) "HalfMast") ∈ NB := nb_t3 62 rfl rfl
theorem kn_546 : (Jvm.Cond.methodLinkNest "HalfMast$Town" (120 : Nat) ({ cls := "HalfMast$Tape", name := "advance", desc := "()V" } : Jvm.MethodName) "HalfMast") ∈ NB := nb_t3 66 rfl rfl
theorem kn_551 : (Jvm.Cond.methodLinkNest "HalfMast$Town" (148 : Nat) ({ cls := "HalfMast$Tape", name := "atName", desc := "()Z" } : Jvm.MethodName) "HalfMast") ∈ NB := nb_t3 71 rfl rfl
theorem kn_567 : (Jvm.Cond.methodLinkNest "HalfMast$Town" (133 : Nat) ({ cls := "HalfMast$Tape", name := "takeWord", desc := "(LHalfMast$Word;)V" } : Jvm.MethodName) "HalfMast") ∈ NB := nb_t3 87 rfl rfl
theorem kn_576 : (Jvm.Cond.methodLinkNest "HalfMast$Town" (102 : Nat) ({ cls := "HalfMast$Tape", name := "takeNumber", desc := "(II)I" } : Jvm.MethodName) "HalfMast") ∈ NB := nb_t3 96 rfl rfl
theorem kn_584 : (Jvm.Cond.methodLinkNest "HalfMast$Town" (137 : Nat) ({ cls := "HalfMast", name := "put", desc := "([III)V" } : Jvm.MethodName) "HalfMast") ∈ NB := nb_t3 104 rfl rfl
theorem kn_597 : (Jvm.Cond.methodLinkNest "HalfMast$Town" (168 : Nat) ({ cls := "HalfMast$State", name := "feels", desc := "(II)Z" } : Jvm.MethodName) "HalfMast") ∈ NB := nb_t3 117 rfl rfl
theorem kn_601 : (Jvm.Cond.methodLinkNest "HalfMast$State" (34 : Nat) ({ cls := "HalfMast", name := "at", desc := "([II)I" } : Jvm.MethodName) "HalfMast") ∈ NB := nb_t3 121 rfl rfl
theorem kn_602 : (Jvm.Cond.methodLinkNest "HalfMast$State" (38 : Nat) ({ cls := "HalfMast", name := "holds", desc := "(II)Z" } : Jvm.MethodName) "HalfMast") ∈ NB := nb_t3 122 rfl rfl
theorem kn_608 : (Jvm.Cond.methodLinkNest "HalfMast$Town" (172 : Nat) ({ cls := "HalfMast$State", name := "turnFeeling", desc := "(II)V" } : Jvm.MethodName) "HalfMast") ∈ NB := nb_t3 128 rfl rfl
theorem kn_612 : (Jvm.Cond.methodLinkNest "HalfMast$State" (42 : Nat) ({ cls := "HalfMast", name := "bit", desc := "(I)I" } : Jvm.MethodName) "HalfMast") ∈ NB := nb_t3 132 rfl rfl
theorem kn_613 : (Jvm.Cond.methodLinkNest "HalfMast$State" (46 : Nat) ({ cls := "HalfMast", name := "put", desc := "([III)V" } : Jvm.MethodName) "HalfMast") ∈ NB := nb_t3 133 rfl rfl
theorem kn_624 : (Jvm.Cond.methodLinkNest "HalfMast$Town" (110 : Nat) ({ cls := "HalfMast$Law", name := "forget", desc := "()V" } : Jvm.MethodName) "HalfMast") ∈ NB := nb_t3 144 rfl rfl
theorem kn_625 : (Jvm.Cond.methodLinkNest "HalfMast$Town" (113 : Nat) ({ cls := "HalfMast$Law", name := "readWhole", desc := "(LHalfMast$Tape;I)V" } : Jvm.MethodName) "HalfMast") ∈ NB := nb_t3 145 rfl rfl
theorem kn_645 : (Jvm.Cond.methodLinkNest "HalfMast$Law" (68 : Nat) ({ cls := "HalfMast$Tape", name := "atNumber", desc := "()Z" } : Jvm.MethodName) "HalfMast") ∈ NB := nb_t3 165 rfl rfl
theorem kn_653 : (Jvm.Cond.methodLinkNest "HalfMast$Law" (43 : Nat) ({ cls := "HalfMast$Tape", name := "atWord", desc := "(LHalfMast$Word;)Z" } : Jvm.MethodName) "HalfMast") ∈ NB := nb_t3 173 rfl rfl
theorem kn_654 : (Jvm.Cond.methodLinkNest "HalfMast$Law" (58 : Nat) ({ cls := "HalfMast$Tape", name := "atSign", desc := "(C)Z" } : Jvm.MethodName) "HalfMast") ∈ NB := nb_t3 174 rfl rfl
theorem kn_658 : (Jvm.Cond.methodLinkNest "HalfMast$Law" (85 : Nat) ({ cls := "HalfMast$Tape", name := "refuse", desc := "(I)V" } : Jvm.MethodName) "HalfMast") ∈ NB := nb_t3 178 rfl rfl
theorem kn_659 : (Jvm.Cond.methodLinkNest "HalfMast$Law" (52 : Nat) ({ cls := "HalfMast$Tape", name := "advance", desc := "()V" } : Jvm.MethodName) "HalfMast") ∈ NB := nb_t3 179 rfl rfl
theorem kn_661 : (Jvm.Cond.methodLinkNest "HalfMast$Law" (91 : Nat) ({ cls := "HalfMast$Tape", name := "takeSign", desc := "(C)V" } : Jvm.MethodName) "HalfMast") ∈ NB := nb_t3 181 rfl rfl
theorem kn_670 : (Jvm.Cond.methodLinkNest "HalfMast$Town" (69 : Nat) ({ cls := "HalfMast$Tape", name := "takeSign", desc := "(C)V" } : Jvm.MethodName) "HalfMast") ∈ NB := nb_t3 190 rfl rfl
theorem kn_671 : (Jvm.Cond.methodLinkNest "HalfMast$Town" (73 : Nat) ({ cls := "HalfMast$Tape", name := "clear", desc := "()V" } : Jvm.MethodName) "HalfMast") ∈ NB := nb_t3 191 rfl rfl
theorem kn_679 : (Jvm.Cond.methodLinkNest "HalfMast" (100 : Nat) ({ cls := "HalfMast$Year", name := "clear", desc := "()V" } : Jvm.MethodName) "HalfMast") ∈ NB := nb_t3 199 rfl rfl
theorem kn_683 : (Jvm.Cond.methodLinkNest "HalfMast" (101 : Nat) ({ cls := "HalfMast$Notes", name := "clear", desc := "()V" } : Jvm.MethodName) "HalfMast") ∈ NB := nb_t3 203 rfl rfl
theorem kn_687 : (Jvm.Cond.methodLinkNest "HalfMast" (102 : Nat) ({ cls := "HalfMast$History", name := "clear", desc := "()V" } : Jvm.MethodName) "HalfMast") ∈ NB := nb_t3 207 rfl rfl
theorem kn_700 : (Jvm.Cond.methodLinkNest "HalfMast" (111 : Nat) ({ cls := "HalfMast$Year", name := "read", desc := "(LHalfMast$Tape;LHalfMast$Town;)I" } : Jvm.MethodName) "HalfMast") ∈ NB := nb_t3 220 rfl rfl
theorem kn_705 : (Jvm.Cond.methodLinkNest "HalfMast$Year" (28 : Nat) ({ cls := "HalfMast$Tape", name := "rewind", desc := "()V" } : Jvm.MethodName) "HalfMast") ∈ NB := nb_t3 225 rfl rfl
theorem kn_706 : (Jvm.Cond.methodLinkNest "HalfMast$Year" (33 : Nat) ({ cls := "HalfMast$Tape", name := "goesOn", desc := "()Z" } : Jvm.MethodName) "HalfMast") ∈ NB := nb_t3 226 rfl rfl
theorem kn_716 : (Jvm.Cond.methodLinkNest "HalfMast$Year" (57 : Nat) ({ cls := "HalfMast$Tape", name := "refuse", desc := "(I)V" } : Jvm.MethodName) "HalfMast") ∈ NB := nb_t3 236 rfl rfl
theorem kn_717 : (Jvm.Cond.methodLinkNest "HalfMast$Year" (61 : Nat) ({ cls := "HalfMast$Tape", name := "advance", desc := "()V" } : Jvm.MethodName) "HalfMast") ∈ NB := nb_t3 237 rfl rfl
theorem kn_718 : (Jvm.Cond.methodLinkNest "HalfMast$Year" (64 : Nat) ({ cls := "HalfMast", name := "put", desc := "([III)V" } : Jvm.MethodName) "HalfMast") ∈ NB := nb_t3 238 rfl rfl
theorem kn_719 : (Jvm.Cond.methodLinkNest "HalfMast$Year" (68 : Nat) ({ cls := "HalfMast$Town", name := "takePerson", desc := "(LHalfMast$Tape;)I" } : Jvm.MethodName) "HalfMast") ∈ NB := nb_t3 239 rfl rfl
theorem kn_724 : (Jvm.Cond.methodLinkNest "HalfMast$Year" (78 : Nat) ({ cls := "HalfMast", name := "at", desc := "([II)I" } : Jvm.MethodName) "HalfMast") ∈ NB := nb_t4 4 rfl rfl
theorem kn_725 : (Jvm.Cond.methodLinkNest "HalfMast$Year" (82 : Nat) ({ cls := "HalfMast$Town", name := "takeOther", desc := "(LHalfMast$Tape;I)I" } : Jvm.MethodName) "HalfMast") ∈ NB := nb_t4 5 rfl rfl
theorem kn_729 : (Jvm.Cond.methodLinkNest "HalfMast$Year" (86 : Nat) ({ cls := "HalfMast$Tape", name := "takeNumber", desc := "(II)I" } : Jvm.MethodName) "HalfMast") ∈ NB := nb_t4 9 rfl rfl
theorem kn_730 : (Jvm.Cond.methodLinkNest "HalfMast$Year" (41 : Nat) ({ cls := "HalfMast$Tape", name := "takeSign", desc := "(C)V" } : Jvm.MethodName) "HalfMast") ∈ NB := nb_t4 10 rfl rfl
theorem kn_731 : (Jvm.Cond.methodLinkNest "HalfMast$Year" (45 : Nat) ({ cls := "HalfMast$Tape", name := "clear", desc := "()V" } : Jvm.MethodName) "HalfMast") ∈ NB := nb_t4 11 rfl rfl
theorem kn_740 : (Jvm.Cond.methodLinkNest "HalfMast" (117 : Nat) ({ cls := "HalfMast$Town", name := "has", desc := "(I)Z" } : Jvm.MethodName) "HalfMast") ∈ NB := nb_t4 20 rfl rfl
theorem kn_745 : (Jvm.Cond.methodLinkNest "HalfMast" (128 : Nat) ({ cls := "HalfMast$Course", name := "lacking", desc := "(I)I" } : Jvm.MethodName) "HalfMast") ∈ NB := nb_t4 25 rfl rfl
theorem kn_749 : (Jvm.Cond.methodLinkNest "HalfMast$Course" (62 : Nat) ({ cls := "HalfMast", name := "at", desc := "([II)I" } : Jvm.MethodName) "HalfMast") ∈ NB := nb_t4 29 rfl rfl
theorem kn_750 : (Jvm.Cond.methodLinkNest "HalfMast" (132 : Nat) ({ cls := "HalfMast$Town", name := "weight", desc := "(II)I" } : Jvm.MethodName) "HalfMast") ∈ NB := nb_t4 30 rfl rfl
theorem kn_760 : (Jvm.Cond.methodLinkNest "HalfMast" (152 : Nat) ({ cls := "HalfMast$History", name := "keep", desc := "(LHalfMast$State;)V" } : Jvm.MethodName) "HalfMast") ∈ NB := nb_t4 40 rfl rfl
theorem kn_768 : (Jvm.Cond.methodLinkNest "HalfMast$History" (29 : Nat) ({ cls := "HalfMast$State", name := "copy", desc := "(LHalfMast$State;)V" } : Jvm.MethodName) "HalfMast") ∈ NB := nb_t4 48 rfl rfl
theorem kn_770 : (Jvm.Cond.methodLinkNest "HalfMast" (156 : Nat) ({ cls := "HalfMast$Course", name := "shift", desc := "(II)V" } : Jvm.MethodName) "HalfMast") ∈ NB := nb_t4 50 rfl rfl
theorem kn_775 : (Jvm.Cond.methodLinkNest "HalfMast$Course" (70 : Nat) ({ cls := "HalfMast", name := "between", desc := "(III)I" } : Jvm.MethodName) "HalfMast") ∈ NB := nb_t4 55 rfl rfl
theorem kn_780 : (Jvm.Cond.methodLinkNest "HalfMast$Course" (73 : Nat) ({ cls := "HalfMast", name := "put", desc := "([III)V" } : Jvm.MethodName) "HalfMast") ∈ NB := nb_t4 60 rfl rfl
theorem kn_789 : (Jvm.Cond.methodLinkNest "HalfMast" (160 : Nat) ({ cls := "HalfMast$Course", name := "letOff", desc := "(I)V" } : Jvm.MethodName) "HalfMast") ∈ NB := nb_t4 69 rfl rfl
theorem kn_798 : (Jvm.Cond.methodLinkNest "HalfMast" (164 : Nat) ({ cls := "HalfMast$State", name := "turnFeeling", desc := "(II)V" } : Jvm.MethodName) "HalfMast") ∈ NB := nb_t4 78 rfl rfl
theorem kn_803 : (Jvm.Cond.methodLinkNest "HalfMast" (167 : Nat) ({ cls := "HalfMast$Course", name := "passDay", desc := "()Z" } : Jvm.MethodName) "HalfMast") ∈ NB := nb_t4 83 rfl rfl
theorem kn_811 : (Jvm.Cond.methodLinkNest "HalfMast$Course" (94 : Nat) ({ cls := "HalfMast$State", name := "lackingMoreAmongFelt", desc := "(I)I" } : Jvm.MethodName) "HalfMast") ∈ NB := nb_t4 91 rfl rfl
theorem kn_815 : (Jvm.Cond.methodLinkNest "HalfMast$Course" (97 : Nat) ({ cls := "HalfMast$Law", name := "tell", desc := "(IIII)I" } : Jvm.MethodName) "HalfMast") ∈ NB := nb_t4 95 rfl rfl
theorem kn_829 : (Jvm.Cond.methodLinkNest "HalfMast" (171 : Nat) ({ cls := "HalfMast$History", name := "takeLast", desc := "()LHalfMast$State;" } : Jvm.MethodName) "HalfMast") ∈ NB := nb_t4 109 rfl rfl
theorem kn_837 : (Jvm.Cond.methodLinkNest "HalfMast" (178 : Nat) ({ cls := "HalfMast$Year", name := "carryOut", desc := "(ILHalfMast$Course;)V" } : Jvm.MethodName) "HalfMast") ∈ NB := nb_t4 117 rfl rfl
theorem kn_841 : (Jvm.Cond.methodLinkNest "HalfMast$Year" (101 : Nat) ({ cls := "HalfMast$Course", name := "shift", desc := "(II)V" } : Jvm.MethodName) "HalfMast") ∈ NB := nb_t4 121 rfl rfl
theorem kn_842 : (Jvm.Cond.methodLinkNest "HalfMast$Year" (107 : Nat) ({ cls := "HalfMast$Course", name := "letOff", desc := "(I)V" } : Jvm.MethodName) "HalfMast") ∈ NB := nb_t4 122 rfl rfl
theorem kn_843 : (Jvm.Cond.methodLinkNest "HalfMast$Year" (114 : Nat) ({ cls := "HalfMast$State", name := "turnFeeling", desc := "(II)V" } : Jvm.MethodName) "HalfMast") ∈ NB := nb_t4 123 rfl rfl
theorem kn_844 : (Jvm.Cond.methodLinkNest "HalfMast$Year" (119 : Nat) ({ cls := "HalfMast$Course", name := "passDay", desc := "()Z" } : Jvm.MethodName) "HalfMast") ∈ NB := nb_t4 124 rfl rfl
theorem kn_849 : (Jvm.Cond.methodLinkNest "HalfMast" (182 : Nat) ({ cls := "HalfMast$Course", name := "passDays", desc := "(I)V" } : Jvm.MethodName) "HalfMast") ∈ NB := nb_t4 129 rfl rfl
theorem kn_862 : (Jvm.Cond.methodLinkNest "HalfMast" (185 : Nat) ({ cls := "HalfMast$Course", name := "wayOfNextDay", desc := "()I" } : Jvm.MethodName) "HalfMast") ∈ NB := nb_t4 142 rfl rfl
theorem kn_912 : (Jvm.Cond.methodLinkNest "HalfMast" (212 : Nat) ({ cls := "HalfMast$Town", name := "flagBy", desc := "(I)I" } : Jvm.MethodName) "HalfMast") ∈ NB := nb_t4 192 rfl rfl
theorem kn_929 : (Jvm.Cond.methodLinkNest "HalfMast" (221 : Nat) ({ cls := "HalfMast$Town", name := "weightOfAll", desc := "(LHalfMast$State;)I" } : Jvm.MethodName) "HalfMast") ∈ NB := nb_t4 209 rfl rfl
theorem kn_950 : (Jvm.Cond.methodLinkNest "HalfMast" (228 : Nat) ({ cls := "HalfMast$Notes", name := "add", desc := "(II)Z" } : Jvm.MethodName) "HalfMast") ∈ NB := nb_t4 230 rfl rfl
theorem kn_954 : (Jvm.Cond.methodLinkNest "HalfMast$Notes" (28 : Nat) ({ cls := "HalfMast", name := "within", desc := "(III)Z" } : Jvm.MethodName) "HalfMast") ∈ NB := nb_t4 234 rfl rfl
theorem kn_955 : (Jvm.Cond.methodLinkNest "HalfMast$Notes" (32 : Nat) ({ cls := "HalfMast", name := "put", desc := "([III)V" } : Jvm.MethodName) "HalfMast") ∈ NB := nb_t4 235 rfl rfl
theorem kn_968 : (Jvm.Cond.methodLinkNest "HalfMast" (238 : Nat) ({ cls := "HalfMast$Notes", name := "lastDay", desc := "()I" } : Jvm.MethodName) "HalfMast") ∈ NB := nb_t5 8 rfl rfl
theorem kn_972 : (Jvm.Cond.methodLinkNest "HalfMast$Notes" (36 : Nat) ({ cls := "HalfMast", name := "at", desc := "([II)I" } : Jvm.MethodName) "HalfMast") ∈ NB := nb_t5 12 rfl rfl
theorem kn_974 : (Jvm.Cond.methodLinkNest "HalfMast" (241 : Nat) ({ cls := "HalfMast$Notes", name := "agree", desc := "(II)Z" } : Jvm.MethodName) "HalfMast") ∈ NB := nb_t5 14 rfl rfl
theorem kn_1000 : (Jvm.Cond.methodLinkNest "HalfMast" (260 : Nat) ({ cls := "HalfMast$Course", name := "startBy", desc := "(LHalfMast$Town;LHalfMast$State;II)V" } : Jvm.MethodName) "HalfMast") ∈ NB := nb_t5 40 rfl rfl
theorem kn_1005 : (Jvm.Cond.methodLinkNest "HalfMast" (264 : Nat) ({ cls := "HalfMast$State", name := "feltFrom", desc := "(I)I" } : Jvm.MethodName) "HalfMast") ∈ NB := nb_t5 45 rfl rfl
theorem kn_1017 : (Jvm.Cond.methodLinkNest "HalfMast" (267 : Nat) ({ cls := "HalfMast$State", name := "feltBy", desc := "(I)I" } : Jvm.MethodName) "HalfMast") ∈ NB := nb_t5 57 rfl rfl
theorem kn_1034 : (Jvm.Cond.methodLinkNest "HalfMast" (273 : Nat) ({ cls := "HalfMast$State", name := "feels", desc := "(II)Z" } : Jvm.MethodName) "HalfMast") ∈ NB := nb_t5 74 rfl rfl
theorem kn_1091 : (Jvm.Cond.methodLinkNest "HalfMast" (336 : Nat) ({ cls := "HalfMast$Notes", name := "copy", desc := "(LHalfMast$Notes;)V" } : Jvm.MethodName) "HalfMast") ∈ NB := nb_t5 131 rfl rfl
theorem kn_1100 : (Jvm.Cond.methodLinkNest "HalfMast" (332 : Nat) ({ cls := "HalfMast$State", name := "copy", desc := "(LHalfMast$State;)V" } : Jvm.MethodName) "HalfMast") ∈ NB := nb_t5 140 rfl rfl
theorem kn_1773 : (Jvm.Cond.fieldLinkNest "HalfMast$Tape" (85 : Nat) "HalfMast$Word" "reserved" "Z" "HalfMast") ∈ NB := nb_t8 93 rfl rfl
