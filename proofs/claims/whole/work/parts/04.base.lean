abbrev vwCl : List vw_C := [(RX1, TX1, 6), (RX2, TX2, 3), (RX3, TX3, 3), (RX4, TX4, 4), (RX5, TX5, 3), (RX6, TX6, 3), (RX7, TX7, 9), (RX8, TX8, 9), (RX10, TX10, 4), (RX11, TX11, 13), (RX12, TX12, 30)]
/-! what holds of the machine's tables but isn't carried by the words of a method: the links of nest mates -/
def nbW : Cond → Bool
  | .fieldLinkNest .. => true
  | .methodLinkNest .. => true
  | _ => false
def NB : List Cond := tables_1.filter nbW
theorem nb_t1 {w : Cond} (i : Nat) (h : tables_1_1[i]? = some w) (hg : nbW w = true) : w ∈ NB := List.mem_filter.mpr ⟨tm_1 (List.mem_of_getElem? h), hg⟩
theorem nb_t2 {w : Cond} (i : Nat) (h : tables_1_2[i]? = some w) (hg : nbW w = true) : w ∈ NB := List.mem_filter.mpr ⟨tm_2 (List.mem_of_getElem? h), hg⟩
theorem nb_t3 {w : Cond} (i : Nat) (h : tables_1_3[i]? = some w) (hg : nbW w = true) : w ∈ NB := List.mem_filter.mpr ⟨tm_3 (List.mem_of_getElem? h), hg⟩
theorem nb_t4 {w : Cond} (i : Nat) (h : tables_1_4[i]? = some w) (hg : nbW w = true) : w ∈ NB := List.mem_filter.mpr ⟨tm_4 (List.mem_of_getElem? h), hg⟩
theorem nb_t5 {w : Cond} (i : Nat) (h : tables_1_5[i]? = some w) (hg : nbW w = true) : w ∈ NB := List.mem_filter.mpr ⟨tm_5 (List.mem_of_getElem? h), hg⟩
theorem nb_t6 {w : Cond} (i : Nat) (h : tables_1_6[i]? = some w) (hg : nbW w = true) : w ∈ NB := List.mem_filter.mpr ⟨tm_6 (List.mem_of_getElem? h), hg⟩
theorem nb_t7 {w : Cond} (i : Nat) (h : tables_1_7[i]? = some w) (hg : nbW w = true) : w ∈ NB := List.mem_filter.mpr ⟨tm_7 (List.mem_of_getElem? h), hg⟩
theorem nb_t8 {w : Cond} (i : Nat) (h : tables_1_8[i]? = some w) (hg : nbW w = true) : w ∈ NB := List.mem_filter.mpr ⟨tm_8 (List.mem_of_getElem? h), hg⟩
def GK (D : va_G) (tys : List (ClassId × FieldType)) (U : State) : Prop := va_K D vwCl tys U ∧ ∀ w ∈ NB, va_Nw w U
theorem GK.warm {D : va_G} {tys : List (ClassId × FieldType)} {s U : State} (hW : s.WarmedH U.vm) (h : GK D tys s) : GK D tys U := by
  refine ⟨va_K.moved hW.alike h.1, fun w hw => ?_⟩
  have h1 := h.2 w hw
  have h2 := (List.mem_filter.mp hw).2
  cases w <;> first | (exact va_Nw.warmF hW h1) | (exact va_Nw.warmM hW h1) | (exact absurd h2 (by simp [nbW]))
theorem GK.call {D : va_G} {tys : List (ClassId × FieldType)} {U : State} {g : JFrame} {mk : MethodId} {a : Array Value} (h : GK D tys U) : GK D tys (U.calling g mk a) := by
  refine ⟨va_K.moved (u := U) (U := U.calling g mk a) (Vm.Alike.refl U.vm) h.1, fun w hw => ?_⟩
  have h1 := h.2 w hw
  have h2 := (List.mem_filter.mp hw).2
  have ho : w.onTables = true := by cases w <;> first | rfl | (exact absurd h2 (by simp [nbW]))
  exact va_Nw.same ho (u := U) (U := U.calling g mk a) rfl h1
abbrev Rm (fr lo : Nat) : Room := { frames := fr, cells := 0, slots := 0, locals := lo }
def PR (D : va_G) (tys : List (ClassId × FieldType)) (ws0 : va_W) : State → Prop := fun U => va_P D vwCl ws0 U.heap ∧ GK D tys U
def PW (D : va_G) (tys : List (ClassId × FieldType)) (ws0 : va_W) (sz : Nat) : State → Prop := fun U => U.heap.size = sz ∧ va_P D vwCl ws0 U.heap ∧ GK D tys U ∧ va_D (fun _ => True) ws0
def QR (rv : Option Value) : Array Value → State → Outcome → State → Prop := fun _ st oc t => oc = .returned rv ∧ t.heap = st.heap
def QW (D : va_G) (rv : Option Value) (ws0 ws1 : va_W) (sz : Nat) : Array Value → State → Outcome → State → Prop := fun _ st oc t => oc = .returned rv ∧ va_P D vwCl ws1 t.heap ∧ va_D (va_A ws0 sz) ws1 ∧ va_F (va_A ws0 sz) st t
/-- a method that only reads: it answers rv -/
def CR (l : Launch) (D : va_G) (tys : List (ClassId × FieldType)) (y : MethodName) (cc : ByteArray) (mL : Nat) (ret : Option FieldType) (fr lo : Nat) (av : List Value) (ws0 : va_W) (rv : Option Value) : Prop :=
  Met l y (.code y cc mL ret :: TB) (Rm fr lo) (va_Pc av (PR D tys ws0)) (QR rv) 0 0 (fun _ => False)
/-- a method that writes: it answers rv, its cells ws0 become ws1 -/
def CW (l : Launch) (D : va_G) (tys : List (ClassId × FieldType)) (y : MethodName) (cc : ByteArray) (mL : Nat) (ret : Option FieldType) (fr lo : Nat) (av : List Value) (ws0 : va_W) (rv : Option Value) (ws1 : va_W) : Prop :=
  ∀ sz : Nat, Met l y (.code y cc mL ret :: TB) (Rm fr lo) (va_Pc av (PW D tys ws0 sz)) (QW D rv ws0 ws1 sz) 0 0 (va_A ws0 sz)
/-- what a body has at hand -/
def BX (p : Program) (s : State) (m : MethodId) (args : Array Value) (meth : Method) (c : Code) (cc : ByteArray) (mL : Nat) (ret : Option FieldType) (own : String) : Prop :=
  p.tables.exec = Jvm.exec ∧ c.code = cc ∧ meth.sig.returnType = ret ∧ (∀ w ∈ TB, w.before args s = true) ∧ s.vm.findClass own = some m.cls ∧ meth.locks = false ∧ c.maxLocals = mL
theorem CR.mk {l : Launch} {D : va_G} {tys : List (ClassId × FieldType)} {y : MethodName} {cc : ByteArray} {mL : Nat} {ret : Option FieldType} {fr lo : Nat} {av : List Value} {ws0 : va_W} {rv : Option Value}
    (hy : plainName y.cls = true) (hn : (lg_sl av).length ≤ mL)
    (h : ∀ (p : Program) (e : Env) (s : State) (m : MethodId) (args : Array Value) (below : List Frame) (meth : Method) (c : Code) (ls : Array Slot), BX p s m args meth c cc mL ret y.cls → va_P D vwCl ws0 s.heap → GK D tys s → lv_has ls mL (lv_args 0 av) →
      W p l e (Rm fr lo) s m args below meth c s.heap [] 0 0 (MQ below (QR rv) args s 0 0 (fun _ => False)) (F0 m 0 ls [])) : CR l D tys y cc mL ret fr lo av ws0 rv := by
  refine Met.ofW (cc := cc) (maxL := mL) (ret := ret) hy rfl ?_
  intro p e s m args below meth c s₁ B hml hv
  obtain ⟨rfl, hP, hG⟩ := hv
  rw [lg_entry_eq]
  exact h p e s m _ below meth c _ ⟨B.exec, B.bytes, B.returns, fun w hw => atoms_spec B.pre w (List.mem_cons_of_mem _ hw), findClass_of_methodNamed B.named, B.notSynchronized, hml⟩ hP hG (lv_entry av hn)
theorem CW.mk {l : Launch} {D : va_G} {tys : List (ClassId × FieldType)} {y : MethodName} {cc : ByteArray} {mL : Nat} {ret : Option FieldType} {fr lo : Nat} {av : List Value} {ws0 ws1 : va_W} {rv : Option Value}
    (hy : plainName y.cls = true) (hn : (lg_sl av).length ≤ mL)
    (h : ∀ (p : Program) (e : Env) (s : State) (m : MethodId) (args : Array Value) (below : List Frame) (meth : Method) (c : Code) (ls : Array Slot) (A : Nat → Prop), BX p s m args meth c cc mL ret y.cls → va_P D vwCl ws0 s.heap → GK D tys s → va_D A ws0 → (∀ q : Nat, s.heap.size ≤ q → A q) → lv_has ls mL (lv_args 0 av) →
      va_S A s.heap s.heap [] → (∀ (rv : Option Value) (ws1 : va_W) (H : Heap) (t : State), t.heap = H → va_P D vwCl ws1 H → va_D A ws1 → ∀ locs : List Loc, va_S A s.heap H locs → QW D rv ws0 ws1 s.heap.size args s (.returned rv) t) →
      W p l e (Rm fr lo) s m args below meth c s.heap [] 0 0 (MQ below (QW D rv ws0 ws1 s.heap.size) args s 0 0 A) (F0 m 0 ls [])) : CW l D tys y cc mL ret fr lo av ws0 rv ws1 := by
  intro sz
  refine Met.ofW (cc := cc) (maxL := mL) (ret := ret) hy rfl ?_
  intro p e s m args below meth c s₁ B hml hv
  obtain ⟨rfl, rfl, hP, hG, hD⟩ := hv
  rw [lg_entry_eq]
  exact h p e s m _ below meth c _ (va_A ws0 s.heap.size) ⟨B.exec, B.bytes, B.returns, fun w hw => atoms_spec B.pre w (List.mem_cons_of_mem _ hw), findClass_of_methodNamed B.named, B.notSynchronized, hml⟩ hP hG hD.self (fun q h => Or.inr h) (lv_entry av hn) va_S.rf
    (fun rv ws1 H t ht h1 h2 locs hS => ⟨rfl, by rw [ht]; exact h1, h2, hS.F ht⟩)
theorem pr_blind {D : va_G} {tys : List (ClassId × FieldType)} {ws0 : va_W} {av : List Value} : FrameBlind (va_Pc av (PR D tys ws0)) := fun _ _ _ _ q => ⟨q.1, q.2.1, q.2.2.call⟩
theorem pw_blind {D : va_G} {tys : List (ClassId × FieldType)} {ws0 : va_W} {sz : Nat} {av : List Value} : FrameBlind (va_Pc av (PW D tys ws0 sz)) := fun _ _ _ _ q => ⟨q.1, q.2.1, q.2.2.1, q.2.2.2.1.call, q.2.2.2.2⟩
section RC
variable {p : Program} {l : Launch} {e : Env} {R : Room} {s : State} {m : MethodId} {args : Array Value} {below : List Frame} {meth : Method} {c : Code} {H : Heap} {locs : List Loc} {cells slots : Nat} {Q : State → Prop}
variable {D : va_G} {tys : List (ClassId × FieldType)} {cc bytes : ByteArray} {nL mL index pc : Nat} {own C host : String} {y : MethodName} {ret : Option FieldType} {fr lo : Nat} {As rest st0 : List Value} {ls : Array Slot} {b : Nat} {rv : Option Value} {wc w1 ws ws' : va_W} {A : Nat → Prop} {H0 : Heap}
theorem cr_back {a : Array Value} (hr : va_Run p l e R s m args below meth c H locs cells slots 0 0 (F0 m pc ls st0) rest (QR rv a) (fun _ => False))
    (kk : W p l e R s m args below meth c H locs cells slots Q (F0 m (pc + 3) ls (rv.toList ++ rest))) : W p l e R s m args below meth c H locs cells slots Q (F0 m pc ls st0) := by
  intro T hT X
  obtain ⟨v, st₀, t, T', L, h0, X', hL, e1, e2, ⟨hv, hh⟩, st⟩ := hr T hT X
  cases hv
  obtain ⟨t2, a1, b1⟩ := kk T' (by rw [e1, hh, h0]) (Stand.forget X' (fun q h => (hL q h).elim))
  exact ⟨t2, st t2 a1, b1⟩
theorem cw_back {a : Array Value} (hr : va_Run p l e R s m args below meth c H locs cells slots 0 0 (F0 m pc ls st0) rest (QW D rv wc w1 H.size a) (va_A wc H.size))
    (hP : va_P D vwCl ws H) (hD : va_D A ws) (hS : va_S A H0 H locs) (hA : ∀ q, H0.size ≤ q → A q) (isC isR pm : List Nat) (hC : isC.map (fun i => ws[i]?) = wc.map some) (hR : isR.map (fun i => ws[i]?) = (isR.filterMap (fun i => ws[i]?)).map some) (hn : va_nd isR = true) (hdis : ∀ i ∈ isR, i ∉ isC)
    (hpm : pm.map (fun i => (isR.filterMap (fun i => ws[i]?) ++ w1)[i]?) = ws'.map some) (hpf : pm.filterMap (fun i => (isR.filterMap (fun i => ws[i]?) ++ w1)[i]?) = ws') (hnd : va_nd pm = true)
    (kk : ∀ (H1 : Heap) (locs1 : List Loc), va_P D vwCl ws' H1 → va_D A ws' → va_S A H0 H1 locs1 → W p l e R s m args below meth c H1 locs1 cells slots Q (F0 m (pc + 3) ls (rv.toList ++ rest))) : W p l e R s m args below meth c H locs cells slots Q (F0 m pc ls st0) := by
  have hFc := va_free (wc := wc) hD hS hA isC hC
  intro T hT X
  obtain ⟨v, st₀, t, T', L, h0, X', hL, e1, e2, ⟨hv, hP1, hD1, hz, hk⟩, st⟩ := hr T hT X
  cases hv
  rw [h0] at hz hk
  obtain ⟨hPj, hDj⟩ := va_join (wr := isR.filterMap (fun i => ws[i]?)) (w1 := w1) hP hD isC isR hC hR hn hdis (H1 := T'.heap) (fun q h1 h2 => by rw [e1]; exact hk q h1 h2) hFc (by rw [e1]; exact hP1) hD1
  obtain ⟨t2, a1, b1⟩ := kk T'.heap (locs ++ L) (hPj.sub pm hpf) (hDj.sub pm hnd hpm)
    ⟨Nat.le_trans hS.1 (by rw [e1]; exact hz), fun q h1 h2 => by rw [e1, hk q (Nat.lt_of_lt_of_le h1 hS.1) (fun z => h2 (hFc q z))]; exact hS.2.1 q h1 h2, fun q hq => by
      rcases List.mem_append.mp hq with h | h
      · exact hS.2.2 q h
      · exact hFc _ (hL q h)⟩ T' rfl X'
  exact ⟨t2, st t2 a1, b1⟩
abbrev Callee (y : MethodName) (bytes : ByteArray) (mL : Nat) (ret : Option FieldType) (n : Nat) : Prop := Cond.code y bytes mL ret ∈ TB ∧ Cond.initialized y.cls ∈ TB ∧ (y.cls ≠ "java/lang/invoke/MethodHandle" ∧ y.cls ≠ "java/lang/invoke/VarHandle" ∧ (parseMethodDescriptor y.desc).map (fun d => d.parameters.length) = some n)
variable {n mc ms : Nat} {Pr : State → Prop} {Qc : Array Value → State → Outcome → State → Prop} {free : Addr → Prop}
theorem run_V (S : CallFix p m c cc nL s args TB own) (hM : Met l y (.code y bytes mL ret :: TB) (Rm fr lo) (va_Pc (.ref b :: As) Pr) Qc 0 0 free) (hc : Callee y bytes mL ret n) (hl : Cond.methodLink own index y ∈ TB) (hi : Cond.instanceMethod y ∈ TB) (hs : Cond.selects y.cls y y ∈ TB)
    (hR : fr + 1 ≤ R.frames ∧ 8 + (mL + 11) + lo ≤ R.locals) (hbl : FrameBlind (va_Pc (.ref b :: As) Pr)) (hPr : ∀ U : State, U.heap = H → s.WarmedH U.vm → Pr U) (hrec : ∃ cellB : Cell, H[b]? = some cellB ∧ cellB.vm.isStatics = false ∧ s.vm.findClass y.cls = some cellB.cls)
    (hn : As.length = n) (hsize : ls.size = nL) (hst : st0 = As.reverse ++ .ref b :: rest) (hW : (rest.map fun v => v.category).sum ≤ 8) (hdg : decode cc pc = .ok (.invokevirtual index, 3)) (hf : cells ≤ R.cells ∧ slots ≤ R.slots) :
    va_Run p l e R s m args below meth c H locs cells slots 0 0 (F0 m pc ls st0) rest (Qc (Value.ref b :: As).toArray) free :=
  va_runV (As := As) (rest := rest) S hM ⟨callB_of n S.2.2.2.2 (tb_gc hc.1) rfl rfl rfl (S.2.2.2.2 _ hc.2.1) (S.2.2.2.2 _ hl) hc.2.2 hR, S.2.2.2.2 _ hi, S.2.2.2.2 _ hs⟩ ⟨hbl, hrec, fun U h1 h2 => ⟨rfl, hPr U h1 h2⟩⟩ rfl hn hsize hst (lv_room hW) hdg hf
theorem run_S (S : CallFix p m c cc nL s args TB own) (hM : Met l y (.code y bytes mL ret :: TB) (Rm fr lo) (va_Pc As Pr) Qc 0 0 free) (hc : Callee y bytes mL ret n) (hl : Cond.methodLink own index y ∈ TB) (hs : Cond.static y ∈ TB)
    (hR : fr + 1 ≤ R.frames ∧ 8 + (mL + 11) + lo ≤ R.locals) (hbl : FrameBlind (va_Pc As Pr)) (hPr : ∀ U : State, U.heap = H → s.WarmedH U.vm → Pr U)
    (hn : As.length = n) (hsize : ls.size = nL) (hst : st0 = As.reverse ++ rest) (hW : (rest.map fun v => v.category).sum ≤ 8) (hdg : decode cc pc = .ok (.invokestatic index, 3)) (hf : cells ≤ R.cells ∧ slots ≤ R.slots) :
    va_Run p l e R s m args below meth c H locs cells slots 0 0 (F0 m pc ls st0) rest (Qc As.toArray) free :=
  va_runS (As := As) (rest := rest) S hM ⟨callB_of n S.2.2.2.2 (tb_gc hc.1) rfl rfl rfl (S.2.2.2.2 _ hc.2.1) (S.2.2.2.2 _ hl) hc.2.2 hR, S.2.2.2.2 _ hs⟩ ⟨hbl, fun U h1 h2 => ⟨rfl, hPr U h1 h2⟩⟩ rfl hn hsize hst (lv_room hW) hdg hf
theorem run_VN (S : CallFix p m c cc nL s args TB own) (hM : Met l y (.code y bytes mL ret :: TB) (Rm fr lo) (va_Pc (.ref b :: As) Pr) Qc 0 0 free) (hc : Callee y bytes mL ret n) (hG : GK D tys s) (hl : Cond.methodLinkNest own index y host ∈ NB) (hi : Cond.instanceMethod y ∈ TB) (hs : Cond.selects y.cls y y ∈ TB)
    (hR : fr + 1 ≤ R.frames ∧ 8 + (mL + 11) + lo ≤ R.locals) (hbl : FrameBlind (va_Pc (.ref b :: As) Pr)) (hPr : ∀ U : State, U.heap = H → s.WarmedH U.vm → Pr U) (hrec : ∃ cellB : Cell, H[b]? = some cellB ∧ cellB.vm.isStatics = false ∧ s.vm.findClass y.cls = some cellB.cls)
    (hn : As.length = n) (hsize : ls.size = nL) (hst : st0 = As.reverse ++ .ref b :: rest) (hW : (rest.map fun v => v.category).sum ≤ 8) (hdg : decode cc pc = .ok (.invokevirtual index, 3)) (hf : cells ≤ R.cells ∧ slots ≤ R.slots) :
    va_Run p l e R s m args below meth c H locs cells slots 0 0 (F0 m pc ls st0) rest (Qc (Value.ref b :: As).toArray) free :=
  va_runVN (As := As) (rest := rest) S hM ⟨va_cnB n S.2.2.2.2 (tb_gc hc.1) rfl rfl rfl (hG.2 _ hl) (S.2.2.2.2 _ hc.2.1) hc.2.2 hR, S.2.2.2.2 _ hi, S.2.2.2.2 _ hs⟩ ⟨hbl, hrec, fun U h1 h2 => ⟨rfl, hPr U h1 h2⟩⟩ rfl hn hsize hst (lv_room hW) hdg hf
theorem run_SN (S : CallFix p m c cc nL s args TB own) (hM : Met l y (.code y bytes mL ret :: TB) (Rm fr lo) (va_Pc As Pr) Qc 0 0 free) (hc : Callee y bytes mL ret n) (hG : GK D tys s) (hl : Cond.methodLinkNest own index y host ∈ NB) (hs : Cond.static y ∈ TB)
    (hR : fr + 1 ≤ R.frames ∧ 8 + (mL + 11) + lo ≤ R.locals) (hbl : FrameBlind (va_Pc As Pr)) (hPr : ∀ U : State, U.heap = H → s.WarmedH U.vm → Pr U)
    (hn : As.length = n) (hsize : ls.size = nL) (hst : st0 = As.reverse ++ rest) (hW : (rest.map fun v => v.category).sum ≤ 8) (hdg : decode cc pc = .ok (.invokestatic index, 3)) (hf : cells ≤ R.cells ∧ slots ≤ R.slots) :
    va_Run p l e R s m args below meth c H locs cells slots 0 0 (F0 m pc ls st0) rest (Qc As.toArray) free :=
  va_runSN (As := As) (rest := rest) S hM ⟨va_cnB n S.2.2.2.2 (tb_gc hc.1) rfl rfl rfl (hG.2 _ hl) (S.2.2.2.2 _ hc.2.1) hc.2.2 hR, S.2.2.2.2 _ hs, trivial⟩ ⟨hbl, fun U h1 h2 => ⟨rfl, hPr U h1 h2⟩⟩ rfl hn hsize hst (lv_room hW) hdg hf
theorem prR (hP : va_P D vwCl wc H) (hG : GK D tys s) : ∀ U : State, U.heap = H → s.WarmedH U.vm → PR D tys wc U := fun _ hU hW => ⟨by rw [hU]; exact hP, hG.warm hW⟩
theorem prW (hP : va_P D vwCl wc H) (hG : GK D tys s) (hD : va_D A wc) : ∀ U : State, U.heap = H → s.WarmedH U.vm → PW D tys wc H.size U := fun _ hU hW => ⟨by rw [hU], by rw [hU]; exact hP, hG.warm hW, hD.weaken (fun _ _ _ _ => trivial)⟩
end RC
theorem gd {α : Type} {c : Prop} [Decidable c] {a : Option α} {b : α} (h : (if c then a else none) = some b) : c ∧ a = some b := by
  by_cases hc : c
  · rw [if_pos hc] at h; exact ⟨hc, h⟩
  · rw [if_neg hc] at h; cases h
theorem bd {α β : Type} {x : Option α} {f : α → Option β} {b : β} (h : Option.bind x f = some b) : ∃ a, x = some a ∧ f a = some b := by
  cases x with
  | none => cases h
  | some a => exact ⟨a, rfl, h⟩
abbrev TY (k : Nat → ClassId) : List (ClassId × FieldType) := [(k 0, .int), (k 1, .long), (k 2, .char), (k 3, .boolean), (k 4, .object "HalfMast$Mark"), (k 5, .object "HalfMast$State")]
/-- as often as any loop here may go round; never unfolded but by FU_big -/
def FU : Nat := 2 ^ 40
theorem nar_bool {x : Int32} (h : x = 0 ∨ x = 1) : narrow .boolean (.int x) = .int x := by rcases h with rfl | rfl <;> rfl
theorem va_rf_cases (r : Option Nat) : va_rf r = .null ∨ ∃ a, va_rf r = .ref a := by cases r with
  | none => exact Or.inl rfl
  | some a => exact Or.inr ⟨a, rfl⟩
theorem sw_out {x : Int32} {lo hi : Int} (hl : -2147483648 ≤ lo) (hh : hi ≤ 2147483647) (h : ∀ v : Int, lo ≤ v → v ≤ hi → ¬ x = Int32.ofInt v) : x.toInt < lo ∨ hi < x.toInt := by
  by_cases h1 : x.toInt < lo
  · exact Or.inl h1
  · by_cases h2 : hi < x.toInt
    · exact Or.inr h2
    · exact absurd (Int32.ofInt_toInt x).symm (h x.toInt (by omega) (by omega))
theorem hiX1 : ∀ w ∈ wsX10, w ∈ TB := by decide +kernel
theorem hiX2 : ∀ w ∈ wsX20, w ∈ TB := by decide +kernel
theorem hiX3 : ∀ w ∈ wsX30, w ∈ TB := by decide +kernel
theorem hiX4 : ∀ w ∈ wsX40, w ∈ TB := by decide +kernel
theorem hiX5 : ∀ w ∈ wsX50, w ∈ TB := by decide +kernel
theorem hiX6 : ∀ w ∈ wsX60, w ∈ TB := by decide +kernel
theorem hiX7 : ∀ w ∈ wsX70, w ∈ TB := by decide +kernel
theorem hiX8 : ∀ w ∈ wsX80, w ∈ TB := by decide +kernel
theorem hiX10 : ∀ w ∈ wsX100, w ∈ TB := by decide +kernel
theorem hiX11 : ∀ w ∈ wsX110, w ∈ TB := by decide +kernel
theorem hiX12 : ∀ w ∈ wsX120, w ∈ TB := by decide +kernel
