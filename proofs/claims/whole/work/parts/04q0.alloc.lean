/-! MACHINE: makers (constructors), what they add -/
abbrev RmK (fr lo mc ms : Nat) : Room := { frames := fr, cells := mc, slots := ms, locals := lo }
def QK (D : va_G) (ws0 : va_W) (P : (Nat → Nat) → va_W) (sz : Nat) : Array Value → State → Outcome → State → Prop := fun _ st oc t => oc = .returned none ∧ ∃ q : Nat → Nat, va_P D vwCl (P q) t.heap ∧ va_D (va_A ws0 sz) (P q) ∧ va_F (va_A ws0 sz) st t
/-- the rows of references that may be made -/
def AO (U : State) : Prop := va_AO "HalfMast$State" U ∧ va_AO "HalfMast$Mark" U
def PK (D : va_G) (tys : List (ClassId × FieldType)) (ws0 : va_W) (sz : Nat) : State → Prop := fun U => PW D tys ws0 sz U ∧ AO U
theorem pk_blind {D : va_G} {tys : List (ClassId × FieldType)} {ws0 : va_W} {sz : Nat} {av : List Value} : FrameBlind (va_Pc av (PK D tys ws0 sz)) := fun _ U _ _ q => ⟨q.1, ⟨q.2.1.1, q.2.1.2.1, q.2.1.2.2.1.call, q.2.1.2.2.2⟩, va_AO.moved (u := U) (Vm.Alike.refl U.vm) q.2.2.1, va_AO.moved (u := U) (Vm.Alike.refl U.vm) q.2.2.2⟩
theorem prK {D : va_G} {tys : List (ClassId × FieldType)} {wc : va_W} {H : Heap} {s : State} {A : Nat → Prop} (hP : va_P D vwCl wc H) (hG : GK D tys s) (hD : va_D A wc) (hO : AO s) : ∀ U : State, U.heap = H → s.WarmedH U.vm → PK D tys wc H.size U := fun U hU hW => ⟨prW hP hG hD U hU hW, hO.1.moved hW.alike, hO.2.moved hW.alike⟩
/-- a maker: its cells ws0 become P q, for some new places q; it adds mc cells with ms slots -/
def CK (l : Launch) (D : va_G) (tys : List (ClassId × FieldType)) (y : MethodName) (cc : ByteArray) (mL : Nat) (fr lo mc ms : Nat) (av : List Value) (ws0 : va_W) (P : (Nat → Nat) → va_W) : Prop :=
  ∀ sz : Nat, Met l y (.code y cc mL none :: TB) (RmK fr lo mc ms) (va_Pc av (PK D tys ws0 sz)) (QK D ws0 P sz) mc ms (va_A ws0 sz)
theorem CK.mk {l : Launch} {D : va_G} {tys : List (ClassId × FieldType)} {y : MethodName} {cc : ByteArray} {mL : Nat} {fr lo mc ms : Nat} {av : List Value} {ws0 : va_W} {P : (Nat → Nat) → va_W}
    (hy : plainName y.cls = true) (hn : (lg_sl av).length ≤ mL)
    (h : ∀ (p : Program) (e : Env) (s : State) (m : MethodId) (args : Array Value) (below : List Frame) (meth : Method) (c : Code) (ls : Array Slot) (A : Nat → Prop), BX p s m args meth c cc mL none y.cls → meth.name = y.name → va_P D vwCl ws0 s.heap → GK D tys s → AO s → va_D A ws0 → (∀ q : Nat, s.heap.size ≤ q → A q) → lv_has ls mL (lv_args 0 av) →
      va_S A s.heap s.heap [] → (∀ (q : Nat → Nat) (H : Heap) (t : State), t.heap = H → va_P D vwCl (P q) H → va_D A (P q) → ∀ locs : List Loc, va_S A s.heap H locs → QK D ws0 P s.heap.size args s (.returned none) t) →
      W p l e (RmK fr lo mc ms) s m args below meth c s.heap [] 0 0 (MQ below (QK D ws0 P s.heap.size) args s mc ms A) (F0 m 0 ls [])) : CK l D tys y cc mL fr lo mc ms av ws0 P := by
  intro sz
  refine Met.ofW (cc := cc) (maxL := mL) (ret := none) hy rfl ?_
  intro p e s m args below meth c s₁ B hml hv
  obtain ⟨rfl, ⟨rfl, hP, hG, hD⟩, hO⟩ := hv
  rw [lg_entry_eq]
  exact h p e s m _ below meth c _ (va_A ws0 s.heap.size) ⟨B.exec, B.bytes, B.returns, fun w hw => atoms_spec B.pre w (List.mem_cons_of_mem _ hw), findClass_of_methodNamed B.named, B.notSynchronized, hml⟩ (name_of_methodNamed B.named B.method).1 hP hG hO hD.self (fun q h => Or.inr h) (lv_entry av hn) va_S.rf
    (fun q H t ht h1 h2 locs hS => ⟨rfl, q, by rw [ht]; exact h1, h2, hS.F ht⟩)
section NK
variable {p : Program} {l : Launch} {e : Env} {R : Room} {s : State} {m : MethodId} {args : Array Value} {below : List Frame} {meth : Method} {c : Code} {H : Heap} {locs : List Loc} {cells slots : Nat} {Q : State → Prop}
variable {D : va_G} {cc : ByteArray} {pc : Nat} {rest : List Value} {ls : Array Slot} {ws : va_W} {A : Nat → Prop} {H0 : Heap}
/-- a new row of ints: its class is the world's own -/
theorem nk_int {k : Nat → ClassId} (hexec : p.tables.exec = Jvm.exec) (hb : c.code = cc) (harr : (Cond.arrayClass .int).before args s = true) (hG : GK D (TY k) s) (hP : va_P D vwCl ws H) (hD : va_D A ws) (hS : va_S A H0 H locs) (hA : ∀ q, H0.size ≤ q → A q)
    {n : Int32} {N' : Nat} (hn : ¬ n < 0) (hN : n.toNatClampNeg = N') (hbytes : N' * 4 ≤ 536870912) (hcells : cells + 1 ≤ R.cells) (hslots : slots + N' ≤ R.slots) (hdg : decode cc pc = .ok (.newarray .int, 2))
    (kk : ∀ (q : Nat) (H1 : Heap), va_P D vwCl (ws ++ [(q, .inl (k 0, N', .inl (fun _ => 0)))]) H1 → va_D A (ws ++ [(q, .inl (k 0, N', .inl (fun _ => 0)))]) → va_S A H0 H1 locs →
      W p l e R s m args below meth c H1 locs (cells + 1) (slots + N') Q (F0 m (pc + 2) ls (.ref q :: rest))) : W p l e R s m args below meth c H locs cells slots Q (F0 m pc ls (.int n :: rest)) := by
  refine va_newa (a0 := (N', .inl (fun _ => 0))) (ty := .int) hexec hb (atype := .int) harr rfl hG.1 hP hD hS hA (fun cA => rfl) hn hN hbytes hcells hslots hdg (fun q cA H1 hK1 hP1 hD1 hS1 => ?_)
  have h1 := (hK1.2 6 (cA, .int) rfl).2
  have h2 := (hG.1.2 0 (k 0, .int) rfl).2
  have e : cA = k 0 := Option.some.inj (h1.symm.trans h2)
  subst e
  exact kk q H1 hP1 hD1 hS1
theorem nk_long {k : Nat → ClassId} (hexec : p.tables.exec = Jvm.exec) (hb : c.code = cc) (harr : (Cond.arrayClass .long).before args s = true) (hG : GK D (TY k) s) (hP : va_P D vwCl ws H) (hD : va_D A ws) (hS : va_S A H0 H locs) (hA : ∀ q, H0.size ≤ q → A q)
    {n : Int32} {N' : Nat} (hn : ¬ n < 0) (hN : n.toNatClampNeg = N') (hbytes : N' * 8 ≤ 536870912) (hcells : cells + 1 ≤ R.cells) (hslots : slots + N' ≤ R.slots) (hdg : decode cc pc = .ok (.newarray .long, 2))
    (kk : ∀ (q : Nat) (H1 : Heap), va_P D vwCl (ws ++ [(q, .inl (k 1, N', .inr (.inl (fun _ => 0))))]) H1 → va_D A (ws ++ [(q, .inl (k 1, N', .inr (.inl (fun _ => 0))))]) → va_S A H0 H1 locs →
      W p l e R s m args below meth c H1 locs (cells + 1) (slots + N') Q (F0 m (pc + 2) ls (.ref q :: rest))) : W p l e R s m args below meth c H locs cells slots Q (F0 m pc ls (.int n :: rest)) := by
  refine va_newa (a0 := (N', .inr (.inl (fun _ => 0)))) (ty := .long) hexec hb (atype := .long) harr rfl hG.1 hP hD hS hA (fun cA => rfl) hn hN hbytes hcells hslots hdg (fun q cA H1 hK1 hP1 hD1 hS1 => ?_)
  have h1 := (hK1.2 6 (cA, .long) rfl).2
  have h2 := (hG.1.2 1 (k 1, .long) rfl).2
  have e : cA = k 1 := Option.some.inj (h1.symm.trans h2)
  subst e
  exact kk q H1 hP1 hD1 hS1
theorem nk_char {k : Nat → ClassId} (hexec : p.tables.exec = Jvm.exec) (hb : c.code = cc) (harr : (Cond.arrayClass .char).before args s = true) (hG : GK D (TY k) s) (hP : va_P D vwCl ws H) (hD : va_D A ws) (hS : va_S A H0 H locs) (hA : ∀ q, H0.size ≤ q → A q)
    {n : Int32} {N' : Nat} (hn : ¬ n < 0) (hN : n.toNatClampNeg = N') (hbytes : N' * 2 ≤ 536870912) (hcells : cells + 1 ≤ R.cells) (hslots : slots + N' ≤ R.slots) (hdg : decode cc pc = .ok (.newarray .char, 2))
    (kk : ∀ (q : Nat) (H1 : Heap), va_P D vwCl (ws ++ [(q, .inl (k 2, N', .inl (fun _ => 0)))]) H1 → va_D A (ws ++ [(q, .inl (k 2, N', .inl (fun _ => 0)))]) → va_S A H0 H1 locs →
      W p l e R s m args below meth c H1 locs (cells + 1) (slots + N') Q (F0 m (pc + 2) ls (.ref q :: rest))) : W p l e R s m args below meth c H locs cells slots Q (F0 m pc ls (.int n :: rest)) := by
  refine va_newa (a0 := (N', .inl (fun _ => 0))) (ty := .char) hexec hb (atype := .char) harr rfl hG.1 hP hD hS hA (fun cA => rfl) hn hN hbytes hcells hslots hdg (fun q cA H1 hK1 hP1 hD1 hS1 => ?_)
  have h1 := (hK1.2 6 (cA, .char) rfl).2
  have h2 := (hG.1.2 2 (k 2, .char) rfl).2
  have e : cA = k 2 := Option.some.inj (h1.symm.trans h2)
  subst e
  exact kk q H1 hP1 hD1 hS1
theorem nk_bool {k : Nat → ClassId} (hexec : p.tables.exec = Jvm.exec) (hb : c.code = cc) (harr : (Cond.arrayClass .boolean).before args s = true) (hG : GK D (TY k) s) (hP : va_P D vwCl ws H) (hD : va_D A ws) (hS : va_S A H0 H locs) (hA : ∀ q, H0.size ≤ q → A q)
    {n : Int32} {N' : Nat} (hn : ¬ n < 0) (hN : n.toNatClampNeg = N') (hbytes : N' * 1 ≤ 536870912) (hcells : cells + 1 ≤ R.cells) (hslots : slots + N' ≤ R.slots) (hdg : decode cc pc = .ok (.newarray .boolean, 2))
    (kk : ∀ (q : Nat) (H1 : Heap), va_P D vwCl (ws ++ [(q, .inl (k 3, N', .inl (fun _ => 0)))]) H1 → va_D A (ws ++ [(q, .inl (k 3, N', .inl (fun _ => 0)))]) → va_S A H0 H1 locs →
      W p l e R s m args below meth c H1 locs (cells + 1) (slots + N') Q (F0 m (pc + 2) ls (.ref q :: rest))) : W p l e R s m args below meth c H locs cells slots Q (F0 m pc ls (.int n :: rest)) := by
  refine va_newa (a0 := (N', .inl (fun _ => 0))) (ty := .boolean) hexec hb (atype := .boolean) harr rfl hG.1 hP hD hS hA (fun cA => rfl) hn hN hbytes hcells hslots hdg (fun q cA H1 hK1 hP1 hD1 hS1 => ?_)
  have h1 := (hK1.2 6 (cA, .boolean) rfl).2
  have h2 := (hG.1.2 3 (k 3, .boolean) rfl).2
  have e : cA = k 3 := Option.some.inj (h1.symm.trans h2)
  subst e
  exact kk q H1 hP1 hD1 hS1
/-- a new row of references -/
theorem nk_obj {k : Nat → ClassId} {own C : String} {index : Nat} (hexec : p.tables.exec = Jvm.exec) (hb : c.code = cc) (hown : s.vm.findClass own = some m.cls) (hcl : (Cond.classLink own index C).before args s = true) (hov : va_AO C s) (hG : GK D (TY k) s) (t : Nat) {cK : ClassId} (ht : (TY k)[t]? = some (cK, .object C)) (hP : va_P D vwCl ws H) (hD : va_D A ws) (hS : va_S A H0 H locs) (hA : ∀ q, H0.size ≤ q → A q)
    {n : Int32} {N' : Nat} (hn : ¬ n < 0) (hN : n.toNatClampNeg = N') (hbytes : N' * 4 ≤ 536870912) (hcells : cells + 1 ≤ R.cells) (hslots : slots + N' ≤ R.slots) (hdg : decode cc pc = .ok (.anewarray index, 3))
    (kk : ∀ (q : Nat) (H1 : Heap), va_P D vwCl (ws ++ [(q, .inl (cK, N', .inr (.inr (.inr (.inr (fun _ => none))))))]) H1 → va_D A (ws ++ [(q, .inl (cK, N', .inr (.inr (.inr (.inr (fun _ => none))))))]) → va_S A H0 H1 locs →
      W p l e R s m args below meth c H1 locs (cells + 1) (slots + N') Q (F0 m (pc + 3) ls (.ref q :: rest))) : W p l e R s m args below meth c H locs cells slots Q (F0 m pc ls (.int n :: rest)) := by
  refine va_newq hexec hb hown hcl hov hG.1 hP hD hS hA hn hN hbytes hcells hslots hdg (fun q cA H1 hK1 hP1 hD1 hS1 => ?_)
  obtain ⟨-, -, -, -, -, h1⟩ := (hK1.2 6 (cA, .object C) rfl).2
  obtain ⟨-, -, -, -, -, h2⟩ := (hG.1.2 t (cK, .object C) ht).2
  have e : cA = cK := Option.some.inj (h1.symm.trans h2)
  subst e
  exact kk q H1 hP1 hD1 hS1
variable {y : MethodName} {bytes : ByteArray} {mL nL n index fr lo mc ms b : Nat} {own host : String} {Pr : State → Prop} {Qc : Array Value → State → Outcome → State → Prop} {free : Addr → Prop} {As st0 : List Value} {tys : List (ClassId × FieldType)}
/-- a maker called, of a nest mate -/
theorem run_IN (S : CallFix p m c cc nL s args TB own) (hM : Met l y (.code y bytes mL none :: TB) (RmK fr lo mc ms) (va_Pc (.ref b :: As) Pr) Qc mc ms free) (hc : Callee y bytes mL none n) (hy : y.name = "<init>") (hG : GK D tys s) (hl : Cond.methodLinkNest own index y host ∈ NB) (hi : Cond.instanceMethod y ∈ TB)
    (hR : fr + 1 ≤ R.frames ∧ 8 + (mL + 11) + lo ≤ R.locals) (hbl : FrameBlind (va_Pc (.ref b :: As) Pr)) (hPr : ∀ U : State, U.heap = H → s.WarmedH U.vm → Pr U)
    (hn : As.length = n) (hsize : ls.size = nL) (hst : st0 = As.reverse ++ .ref b :: rest) (hW : (rest.map fun v => v.category).sum ≤ 8) (hdg : decode cc pc = .ok (.invokespecial index, 3)) (hf : cells + mc ≤ R.cells ∧ slots + ms ≤ R.slots) :
    va_Run p l e R s m args below meth c H locs cells slots mc ms (F0 m pc ls st0) rest (Qc (Value.ref b :: As).toArray) free :=
  va_runIN (As := As) (rest := rest) S hM ⟨va_cnB n S.2.2.2.2 (tb_gc hc.1) rfl rfl rfl (hG.2 _ hl) (S.2.2.2.2 _ hc.2.1) hc.2.2 hR, hy, S.2.2.2.2 _ hi⟩ ⟨hbl, fun U h1 h2 => ⟨rfl, hPr U h1 h2⟩⟩ rfl hn hsize hst (lv_room hW) hdg hf
/-- a maker called, by a plain link -/
theorem run_I (S : CallFix p m c cc nL s args TB own) (hM : Met l y (.code y bytes mL none :: TB) (RmK fr lo mc ms) (va_Pc (.ref b :: As) Pr) Qc mc ms free) (hc : Callee y bytes mL none n) (hy : y.name = "<init>") (hl : Cond.methodLink own index y ∈ TB) (hi : Cond.instanceMethod y ∈ TB)
    (hR : fr + 1 ≤ R.frames ∧ 8 + (mL + 11) + lo ≤ R.locals) (hbl : FrameBlind (va_Pc (.ref b :: As) Pr)) (hPr : ∀ U : State, U.heap = H → s.WarmedH U.vm → Pr U)
    (hn : As.length = n) (hsize : ls.size = nL) (hst : st0 = As.reverse ++ .ref b :: rest) (hW : (rest.map fun v => v.category).sum ≤ 8) (hdg : decode cc pc = .ok (.invokespecial index, 3)) (hf : cells + mc ≤ R.cells ∧ slots + ms ≤ R.slots) :
    va_Run p l e R s m args below meth c H locs cells slots mc ms (F0 m pc ls st0) rest (Qc (Value.ref b :: As).toArray) free :=
  va_runI (As := As) (rest := rest) S hM ⟨callB_of n S.2.2.2.2 (tb_gc hc.1) rfl rfl rfl (S.2.2.2.2 _ hc.2.1) (S.2.2.2.2 _ hl) hc.2.2 hR, hy, S.2.2.2.2 _ hi⟩ ⟨hbl, fun U h1 h2 => ⟨rfl, hPr U h1 h2⟩⟩ rfl hn hsize hst (lv_room hW) hdg hf
/-- behind a maker: its own cell was the world's last, the new ones follow it -/
theorem ck_back {x : Nat × va_E} {P : (Nat → Nat) → va_W} {a : Array Value} (hr : va_Run p l e R s m args below meth c H locs cells slots mc ms (F0 m pc ls st0) rest (QK D [x] P H.size a) (va_A [x] H.size))
    (hP : va_P D vwCl (ws ++ [x]) H) (hD : va_D A (ws ++ [x])) (hS : va_S A H0 H locs) (hA : ∀ q, H0.size ≤ q → A q)
    (kk : ∀ (q : Nat → Nat) (H1 : Heap) (locs1 : List Loc), va_P D vwCl (ws ++ P q) H1 → va_D A (ws ++ P q) → va_S A H0 H1 locs1 → W p l e R s m args below meth c H1 locs1 (cells + mc) (slots + ms) Q (F0 m (pc + 3) ls rest)) : W p l e R s m args below meth c H locs cells slots Q (F0 m pc ls st0) := by
  have hlast : (ws ++ [x])[ws.length]? = some x := by simp
  have hFc := va_free (wc := [x]) hD hS hA [ws.length] (by simp)
  have hleft : ∀ (k : Nat) (q : Nat × va_E), ws[k]? = some q → (ws ++ [x])[k]? = some q ∧ k < ws.length := fun k q hk => by
    have hlt : k < ws.length := (List.getElem?_eq_some_iff.mp hk).1
    exact ⟨by rw [List.getElem?_append_left hlt]; exact hk, hlt⟩
  have hout : ∀ (k : Nat) (q : Nat × va_E), ws[k]? = some q → q.1 < H.size ∧ ¬ q.1 = x.1 := fun k q hk => by
    obtain ⟨h1, h2⟩ := hleft k q hk
    refine ⟨(hP k q h1).lt, fun z => ?_⟩
    have := hD.1 k ws.length q x h1 hlast z
    omega
  have hA1 : ∀ a : Nat, va_A [x] H.size a → a = x.1 ∨ H.size ≤ a := fun a h => by
    rcases h with ⟨k, e, h⟩ | h
    · have hz : k < 1 := (List.getElem?_eq_some_iff.mp h).1
      rw [show k = 0 by omega] at h
      cases h
      exact Or.inl rfl
    · exact Or.inr h
  intro T hT X
  obtain ⟨v, st₀, t, T', L, h0, X', hL, e1, e2, ⟨hv, q, hP1, hD1, hz, hk⟩, st⟩ := hr T hT X
  cases hv
  rw [h0] at hz hk
  have hkeep : ∀ (k : Nat) (q : Nat × va_E), ws[k]? = some q → T'.heap[q.1]? = H[q.1]? := fun k q hq => by
    obtain ⟨g1, g2⟩ := hout k q hq
    rw [e1]
    exact hk q.1 g1 (fun z => (hA1 _ z).elim g2 (fun w => by omega))
  have hPw : va_P D vwCl ws H := fun k q hq => hP k q (hleft k q hq).1
  have hDw : va_D A ws := ⟨fun i j p q hi hj => hD.1 i j p q (hleft i p hi).1 (hleft j q hj).1, fun k q hq => hD.2 k q (hleft k q hq).1⟩
  obtain ⟨t2, a1, b1⟩ := kk q T'.heap (locs ++ L) ((hPw.kept hkeep).app (by rw [e1]; exact hP1)) (hDw.app (hD1.weaken (fun k q _ h => hFc _ h)) (fun i j p r hi hj e => by
      obtain ⟨g1, g2⟩ := hout i p hi
      rcases hA1 _ (hD1.2 j r hj) with z | z
      · exact g2 (e.trans z)
      · omega))
    ⟨Nat.le_trans hS.1 (by rw [e1]; exact hz), fun q h1 h2 => by rw [e1, hk q (Nat.lt_of_lt_of_le h1 hS.1) (fun z => h2 (hFc q z))]; exact hS.2.1 q h1 h2, fun q hq => by
      rcases List.mem_append.mp hq with h | h
      · exact hS.2.2 q h
      · exact hFc _ (hL q h)⟩ T' rfl X'
  exact ⟨t2, st t2 a1, b1⟩
end NK
/-- a row of references, told by another function -/
theorem P_refs {D : va_G} {ws : va_W} {H : Heap} {a n : Nat} {cA : ClassId} {f g : Nat → Option Nat} (p : Nat) (hP : va_P D vwCl ws H) (hp : ws[p]? = some (a, .inl (cA, n, .inr (.inr (.inr (.inr f)))))) (h : ∀ j, j < n → f j = g j) : va_P D vwCl (ws.set p (a, .inl (cA, n, .inr (.inr (.inr (.inr g)))))) H := by
  intro k q hq
  have hlt : p < ws.length := (List.getElem?_eq_some_iff.mp hp).1
  by_cases e : k = p
  · subst e
    rw [List.getElem?_set_self hlt] at hq
    cases hq
    have h1 : H[a]? = some (vp_cell cA (n, .inr (.inr (.inr (.inr f))))) := hP k _ hp
    show H[a]? = some (vp_cell cA (n, .inr (.inr (.inr (.inr g)))))
    rw [h1, vp_cell_q, vp_cell_q]
    congr 1
    unfold arrV
    congr 1
    first
    | (refine congrArg _ ?_; exact List.map_congr_left (fun j hj => by rw [h j (List.mem_range.mp hj)]))
    | (apply Array.ext <;> simp_all)
  · rw [List.getElem?_set_ne (fun z => e z.symm)] at hq
    exact hP k q hq
