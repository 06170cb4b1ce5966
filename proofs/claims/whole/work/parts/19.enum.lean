/-! the words of the language, an enum: its constants stand from the start and are never written. w i: the constant's place; w 27: the array ALL, w 28: the switch's table -/
def EN0 (w : Nat → Nat) (A : Nat → Prop) (U : State) (H : Heap) : Prop :=
  va_En "HalfMast$Word" "LHalfMast$Word;" wNm wF w A U H ∧ va_Ef 27 "HalfMast$Word" "letters" "J" (fun i => .long (wLet i)) w A U H ∧ (va_Z "HalfMast$Word" "ALL" "[LHalfMast$Word;" (.ref (w 27)) A U H ∧ va_T (.object "HalfMast$Word") (w 27) 27 (fun j => .ref (w j)) A U H) ∧ (va_Z "HalfMast$1" "$SwitchMap$HalfMast$Word" "[I" (.ref (w 28)) A U H ∧ va_T .int (w 28) 27 (fun j => .int (wSm j)) A U H)
/-- the text of the signs: w 29, its bytes w 30 -/
def EN1 (w : Nat → Nat) (A : Nat → Prop) (U : State) (H : Heap) : Prop :=
  va_O "java/lang/String" (w 29) A U H ∧ va_OF "java/lang/String" "coder" "B" (.int 0) (w 29) A U H ∧ va_OF "java/lang/String" "value" "[B" (.ref (w 30)) (w 29) A U H ∧ va_T .byte (w 30) 8 (fun j => .int (wSg j)) A U H ∧ va_Z "java/lang/String" "COMPACT_STRINGS" "Z" (.int 1) A U H
def EN (w : Nat → Nat) (A : Nat → Prop) (U : State) (H : Heap) : Prop := EN0 w A U H ∧ EN1 w A U H ∧ vk_R "HalfMast$Tape" 64 "()<=+-*;" (w 29) U
theorem EN0.moved {w : Nat → Nat} {A : Nat → Prop} {u U : State} {H : Heap} (hvm : u.vm.Alike U.vm) (h : EN0 w A u H) : EN0 w A U H := ⟨h.1.moved hvm, fun i hi => (h.2.1 i hi).moved hvm, ⟨h.2.2.1.1.moved hvm, h.2.2.1.2.moved hvm⟩, h.2.2.2.1.moved hvm, h.2.2.2.2.moved hvm⟩
theorem EN0.kept {w : Nat → Nat} {A : Nat → Prop} {U : State} {H H1 : Heap} (h : EN0 w A U H) (hq : ∀ a : Nat, a < H.size → ¬ A a → H1[a]? = H[a]?) : EN0 w A U H1 := ⟨h.1.kept hq, fun i hi => (h.2.1 i hi).kept hq, ⟨h.2.2.1.1.kept hq, h.2.2.1.2.kept hq⟩, h.2.2.2.1.kept hq, h.2.2.2.2.kept hq⟩
theorem EN0.narrow {w : Nat → Nat} {A B : Nat → Prop} {U : State} {H : Heap} (h : EN0 w A U H) (hAB : ∀ q, B q → A q) : EN0 w B U H := ⟨h.1.narrow hAB, fun i hi => (h.2.1 i hi).narrow hAB, ⟨h.2.2.1.1.narrow hAB, h.2.2.1.2.narrow hAB⟩, h.2.2.2.1.narrow hAB, h.2.2.2.2.narrow hAB⟩
theorem EN1.moved {w : Nat → Nat} {A : Nat → Prop} {u U : State} {H : Heap} (hvm : u.vm.Alike U.vm) (h : EN1 w A u H) : EN1 w A U H := ⟨h.1.moved hvm, h.2.1.moved hvm, h.2.2.1.moved hvm, h.2.2.2.1.moved hvm, h.2.2.2.2.moved hvm⟩
theorem EN1.kept {w : Nat → Nat} {A : Nat → Prop} {U : State} {H H1 : Heap} (h : EN1 w A U H) (hq : ∀ a : Nat, a < H.size → ¬ A a → H1[a]? = H[a]?) : EN1 w A U H1 := ⟨h.1.kept hq, h.2.1.kept hq, h.2.2.1.kept hq, h.2.2.2.1.kept hq, h.2.2.2.2.kept hq⟩
theorem EN1.narrow {w : Nat → Nat} {A B : Nat → Prop} {U : State} {H : Heap} (h : EN1 w A U H) (hAB : ∀ q, B q → A q) : EN1 w B U H := ⟨h.1.narrow hAB, h.2.1.narrow hAB, h.2.2.1.narrow hAB, h.2.2.2.1.narrow hAB, h.2.2.2.2.narrow hAB⟩
theorem EN.warm {w : Nat → Nat} {A : Nat → Prop} {u U : State} {H : Heap} (hW : u.WarmedH U.vm) (h : EN w A u H) : EN w A U H := ⟨h.1.moved hW.alike, h.2.1.moved hW.alike, h.2.2.warm hW⟩
theorem EN.kept {w : Nat → Nat} {A : Nat → Prop} {U : State} {H H1 : Heap} (h : EN w A U H) (hq : ∀ a : Nat, a < H.size → ¬ A a → H1[a]? = H[a]?) : EN w A U H1 := ⟨h.1.kept hq, h.2.1.kept hq, h.2.2⟩
theorem EN.narrow {w : Nat → Nat} {A B : Nat → Prop} {U : State} {H : Heap} (h : EN w A U H) (hAB : ∀ q, B q → A q) : EN w B U H := ⟨h.1.narrow hAB, h.2.1.narrow hAB, h.2.2⟩
def PRe (w : Nat → Nat) (D : va_G) (tys : List (ClassId × FieldType)) (ws0 : va_W) : State → Prop := fun U => PR D tys ws0 U ∧ EN w (fun _ => False) U U.heap
def PWe (w : Nat → Nat) (D : va_G) (tys : List (ClassId × FieldType)) (ws0 : va_W) (sz : Nat) : State → Prop := fun U => PW D tys ws0 sz U ∧ EN w (va_A ws0 sz) U U.heap
def CRe (w : Nat → Nat) (l : Launch) (D : va_G) (tys : List (ClassId × FieldType)) (y : MethodName) (cc : ByteArray) (mL : Nat) (ret : Option FieldType) (fr lo : Nat) (av : List Value) (ws0 : va_W) (rv : Option Value) : Prop :=
  Met l y (.code y cc mL ret :: TB) (Rm fr lo) (va_Pc av (PRe w D tys ws0)) (QR rv) 0 0 (fun _ => False)
def CWe (w : Nat → Nat) (l : Launch) (D : va_G) (tys : List (ClassId × FieldType)) (y : MethodName) (cc : ByteArray) (mL : Nat) (ret : Option FieldType) (fr lo : Nat) (av : List Value) (ws0 : va_W) (rv : Option Value) (ws1 : va_W) : Prop :=
  ∀ sz : Nat, Met l y (.code y cc mL ret :: TB) (Rm fr lo) (va_Pc av (PWe w D tys ws0 sz)) (QW D rv ws0 ws1 sz) 0 0 (va_A ws0 sz)
theorem CRe.mk {w : Nat → Nat} {l : Launch} {D : va_G} {tys : List (ClassId × FieldType)} {y : MethodName} {cc : ByteArray} {mL : Nat} {ret : Option FieldType} {fr lo : Nat} {av : List Value} {ws0 : va_W} {rv : Option Value}
    (hy : plainName y.cls = true) (hn : (lg_sl av).length ≤ mL)
    (h : ∀ (p : Program) (e : Env) (s : State) (m : MethodId) (args : Array Value) (below : List Frame) (meth : Method) (c : Code) (ls : Array Slot), BX p s m args meth c cc mL ret y.cls → va_P D vwCl ws0 s.heap → GK D tys s → EN w (fun _ => False) s s.heap → lv_has ls mL (lv_args 0 av) →
      W p l e (Rm fr lo) s m args below meth c s.heap [] 0 0 (MQ below (QR rv) args s 0 0 (fun _ => False)) (F0 m 0 ls [])) : CRe w l D tys y cc mL ret fr lo av ws0 rv := by
  refine Met.ofW (cc := cc) (maxL := mL) (ret := ret) hy rfl ?_
  intro p e s m args below meth c s₁ B hml hv
  obtain ⟨rfl, ⟨hP, hG⟩, hE⟩ := hv
  rw [lg_entry_eq]
  exact h p e s m _ below meth c _ ⟨B.exec, B.bytes, B.returns, fun w hw => atoms_spec B.pre w (List.mem_cons_of_mem _ hw), findClass_of_methodNamed B.named, B.notSynchronized, hml⟩ hP hG hE (lv_entry av hn)
theorem CWe.mk {w : Nat → Nat} {l : Launch} {D : va_G} {tys : List (ClassId × FieldType)} {y : MethodName} {cc : ByteArray} {mL : Nat} {ret : Option FieldType} {fr lo : Nat} {av : List Value} {ws0 ws1 : va_W} {rv : Option Value}
    (hy : plainName y.cls = true) (hn : (lg_sl av).length ≤ mL)
    (h : ∀ (p : Program) (e : Env) (s : State) (m : MethodId) (args : Array Value) (below : List Frame) (meth : Method) (c : Code) (ls : Array Slot) (A : Nat → Prop), BX p s m args meth c cc mL ret y.cls → va_P D vwCl ws0 s.heap → GK D tys s → EN w A s s.heap → va_D A ws0 → (∀ q : Nat, s.heap.size ≤ q → A q) → lv_has ls mL (lv_args 0 av) →
      va_S A s.heap s.heap [] → (∀ (rv : Option Value) (ws1 : va_W) (H : Heap) (t : State), t.heap = H → va_P D vwCl ws1 H → va_D A ws1 → ∀ locs : List Loc, va_S A s.heap H locs → QW D rv ws0 ws1 s.heap.size args s (.returned rv) t) →
      W p l e (Rm fr lo) s m args below meth c s.heap [] 0 0 (MQ below (QW D rv ws0 ws1 s.heap.size) args s 0 0 A) (F0 m 0 ls [])) : CWe w l D tys y cc mL ret fr lo av ws0 rv ws1 := by
  intro sz
  refine Met.ofW (cc := cc) (maxL := mL) (ret := ret) hy rfl ?_
  intro p e s m args below meth c s₁ B hml hv
  obtain ⟨rfl, ⟨rfl, hP, hG, hD⟩, hE⟩ := hv
  rw [lg_entry_eq]
  exact h p e s m _ below meth c _ (va_A ws0 s.heap.size) ⟨B.exec, B.bytes, B.returns, fun w hw => atoms_spec B.pre w (List.mem_cons_of_mem _ hw), findClass_of_methodNamed B.named, B.notSynchronized, hml⟩ hP hG hE hD.self (fun q h => Or.inr h) (lv_entry av hn) va_S.rf
    (fun rv ws1 H t ht h1 h2 locs hS => ⟨rfl, by rw [ht]; exact h1, h2, hS.F ht⟩)
theorem EN.call {w : Nat → Nat} {A : Nat → Prop} {U : State} {g : JFrame} {mk : MethodId} {a : Array Value} (h : EN w A U U.heap) : EN w A (U.calling g mk a) (U.calling g mk a).heap := ⟨EN0.moved (u := U) (U := U.calling g mk a) (Vm.Alike.refl U.vm) h.1, EN1.moved (u := U) (U := U.calling g mk a) (Vm.Alike.refl U.vm) h.2.1, vk_R.same (u := U) (U := U.calling g mk a) rfl h.2.2⟩
theorem pre_blind {w : Nat → Nat} {D : va_G} {tys : List (ClassId × FieldType)} {ws0 : va_W} {av : List Value} : FrameBlind (va_Pc av (PRe w D tys ws0)) := fun _ _ _ _ q => ⟨q.1, ⟨q.2.1.1, q.2.1.2.call⟩, q.2.2.call⟩
theorem pwe_blind {w : Nat → Nat} {D : va_G} {tys : List (ClassId × FieldType)} {ws0 : va_W} {sz : Nat} {av : List Value} : FrameBlind (va_Pc av (PWe w D tys ws0 sz)) := fun _ _ _ _ q => ⟨q.1, ⟨q.2.1.1, q.2.1.2.1, q.2.1.2.2.1.call, q.2.1.2.2.2⟩, q.2.2.call⟩
section ENC
variable {p : Program} {l : Launch} {e : Env} {R : Room} {s : State} {m : MethodId} {args : Array Value} {below : List Frame} {meth : Method} {c : Code} {H : Heap} {locs : List Loc} {cells slots : Nat} {Q : State → Prop}
variable {w : Nat → Nat} {D : va_G} {tys : List (ClassId × FieldType)} {cc : ByteArray} {pc index : Nat} {own : String} {rest : List Value} {ls : Array Slot} {wc : va_W} {A : Nat → Prop} {H0 : Heap}
theorem prRe (hE : EN w A s s.heap) (hS : va_S A s.heap H locs) (hP : va_P D vwCl wc H) (hG : GK D tys s) : ∀ U : State, U.heap = H → s.WarmedH U.vm → PRe w D tys wc U := fun U hU hW => ⟨prR hP hG U hU hW, by rw [hU]; exact ((hE.kept hS.2.1).narrow (fun _ h => h.elim)).warm hW⟩
theorem prWe (hE : EN w A s s.heap) (hS : va_S A s.heap H locs) (hA : ∀ q, s.heap.size ≤ q → A q) (hP : va_P D vwCl wc H) (hG : GK D tys s) (hD : va_D A wc) : ∀ U : State, U.heap = H → s.WarmedH U.vm → PWe w D tys wc H.size U := fun U hU hW => ⟨prW hP hG hD U hU hW, by
  rw [hU]
  refine ((hE.kept hS.2.1).narrow (fun q hq => ?_)).warm hW
  rcases hq with ⟨k, e, h⟩ | h
  · exact hD.2 k _ h
  · exact hA q (Nat.le_trans hS.1 h)⟩
theorem en_static (hx : p.tables.exec = Jvm.exec) (hb : c.code = cc) (hE : EN w A s s.heap) (hS : va_S A s.heap H locs) (i : Nat) (hi : i < 27) (hown : s.vm.findClass own = some m.cls) (hl : (Cond.fieldLink own index "HalfMast$Word" (wNm.getD i "") "LHalfMast$Word;").before args s = true) (hdg : decode cc pc = .ok (.getstatic index, 3))
    (kk : W p l e R s m args below meth c H locs cells slots Q (F0 m (pc + 3) ls (.ref (w i) :: rest))) : W p l e R s m args below meth c H locs cells slots Q (F0 m pc ls rest) :=
  va_gets hx hb (hE.1.1.1 i hi).1 hS hown hl (fun _ h => h) hdg kk
theorem en_all (hx : p.tables.exec = Jvm.exec) (hb : c.code = cc) (hE : EN w A s s.heap) (hS : va_S A s.heap H locs) (hown : s.vm.findClass own = some m.cls) (hl : (Cond.fieldLink own index "HalfMast$Word" "ALL" "[LHalfMast$Word;").before args s = true) (hdg : decode cc pc = .ok (.getstatic index, 3))
    (kk : W p l e R s m args below meth c H locs cells slots Q (F0 m (pc + 3) ls (.ref (w 27) :: rest))) : W p l e R s m args below meth c H locs cells slots Q (F0 m pc ls rest) :=
  va_gets hx hb hE.1.2.2.1.1 hS hown hl (fun _ h => h) hdg kk
theorem en_sm (hx : p.tables.exec = Jvm.exec) (hb : c.code = cc) (hE : EN w A s s.heap) (hS : va_S A s.heap H locs) (hown : s.vm.findClass own = some m.cls) (hl : (Cond.fieldLink own index "HalfMast$1" "$SwitchMap$HalfMast$Word" "[I").before args s = true) (hdg : decode cc pc = .ok (.getstatic index, 3))
    (kk : W p l e R s m args below meth c H locs cells slots Q (F0 m (pc + 3) ls (.ref (w 28) :: rest))) : W p l e R s m args below meth c H locs cells slots Q (F0 m pc ls rest) :=
  va_gets hx hb hE.1.2.2.2.1 hS hown hl (fun _ h => h) hdg kk
theorem en_let (hx : p.tables.exec = Jvm.exec) (hb : c.code = cc) (hE : EN w A s s.heap) (hS : va_S A s.heap H locs) {i : Nat} (hi : i < 27) (hown : s.vm.findClass own = some m.cls) (hl : (Cond.fieldLink own index "HalfMast$Word" "letters" "J").before args s = true) (hdg : decode cc pc = .ok (.getfield index, 3))
    (kk : W p l e R s m args below meth c H locs cells slots Q (F0 m (pc + 3) ls (.long (wLet i) :: rest))) : W p l e R s m args below meth c H locs cells slots Q (F0 m pc ls (.ref (w i) :: rest)) :=
  va_getX hx hb hE.1.2.1 hi hS hown hl (fun _ h => h) hdg kk
theorem en_ord (hx : p.tables.exec = Jvm.exec) (hb : c.code = cc) (hE : EN w A s s.heap) (hS : va_S A s.heap H locs) {i : Nat} (hi : i < 27) (hown : s.vm.findClass own = some m.cls) (hl : (Cond.fieldLink own index "java/lang/Enum" "ordinal" "I").before args s = true) (hdg : decode cc pc = .ok (.getfield index, 3))
    (kk : W p l e R s m args below meth c H locs cells slots Q (F0 m (pc + 3) ls (.int (wOrdf i) :: rest))) : W p l e R s m args below meth c H locs cells slots Q (F0 m pc ls (.ref (w i) :: rest)) :=
  va_getE (q := ("java/lang/Enum", "ordinal", "I", wOrd)) hx hb hE.1.1 hi hS hown List.mem_cons_self hl (fun _ h => h) hdg kk
theorem en_res {host : String} (hx : p.tables.exec = Jvm.exec) (hb : c.code = cc) (hE : EN w A s s.heap) (hS : va_S A s.heap H locs) {i : Nat} (hi : i < 27) (hown : s.vm.findClass own = some m.cls) (hl : (Cond.fieldLinkNest own index "HalfMast$Word" "reserved" "Z" host).before args s = true) (hdg : decode cc pc = .ok (.getfield index, 3))
    (kk : W p l e R s m args below meth c H locs cells slots Q (F0 m (pc + 3) ls (.int (wRes i) :: rest))) : W p l e R s m args below meth c H locs cells slots Q (F0 m pc ls (.ref (w i) :: rest)) := by
  obtain ⟨cf, k, fi, f, cell, h1, h2, h3, h4, h5, h6⟩ := ((hE.1.1.1 i hi).2.2 ("HalfMast$Word", "reserved", "Z", wResL) (List.mem_cons_of_mem _ List.mem_cons_self)).kept hS.2.1
  exact va_Wgetf hx hb hown hl h1 h2 h3 h4 h5 rfl rfl hdg kk
theorem en_smld (hx : p.tables.exec = Jvm.exec) (hb : c.code = cc) (hE : EN w A s s.heap) (hS : va_S A s.heap H locs) {i : Int32} (hin : vp_in i 27) (hdg : decode cc pc = .ok (.iaload, 1))
    (kk : W p l e R s m args below meth c H locs cells slots Q (F0 m (pc + 1) ls (.int (wSm i.toNatClampNeg) :: rest))) : W p l e R s m args below meth c H locs cells slots Q (F0 m pc ls (.int i :: .ref (w 28) :: rest)) :=
  va_ti hx hb hE.1.2.2.2.2 hS hin rfl hdg kk
theorem en_allld (hx : p.tables.exec = Jvm.exec) (hb : c.code = cc) (hE : EN w A s s.heap) (hS : va_S A s.heap H locs) {i : Int32} (hin : vp_in i 27) (hdg : decode cc pc = .ok (.aaload, 1))
    (kk : W p l e R s m args below meth c H locs cells slots Q (F0 m (pc + 1) ls (.ref (w i.toNatClampNeg) :: rest))) : W p l e R s m args below meth c H locs cells slots Q (F0 m pc ls (.int i :: .ref (w 27) :: rest)) :=
  vb_tq hx hb hE.1.2.2.1.2 hS hin rfl hdg kk
theorem en_len (hx : p.tables.exec = Jvm.exec) (hb : c.code = cc) (hE : EN w A s s.heap) (hS : va_S A s.heap H locs) (hdg : decode cc pc = .ok (.arraylength, 1))
    (kk : W p l e R s m args below meth c H locs cells slots Q (F0 m (pc + 1) ls (.int 27 :: rest))) : W p l e R s m args below meth c H locs cells slots Q (F0 m pc ls (.ref (w 27) :: rest)) :=
  va_tlen hx hb hE.1.2.2.1.2 hS rfl hdg kk
theorem en_ne (hx : p.tables.exec = Jvm.exec) (hb : c.code = cc) (hE : EN w A s s.heap) {i j : Nat} (hi : i < 27) (hj : j < 27) {off : Int} {tgt : Nat} (hdg : decode cc pc = .ok (.if_acmp .ne off, 3)) (ht : (pc : Int) + off = (tgt : Int))
    (kt : ¬ i = j → W p l e R s m args below meth c H locs cells slots Q (F0 m tgt ls rest)) (kf : i = j → W p l e R s m args below meth c H locs cells slots Q (F0 m (pc + 3) ls rest)) : W p l e R s m args below meth c H locs cells slots Q (F0 m pc ls (.ref (w j) :: .ref (w i) :: rest)) :=
  lv_acmp_ne (rx := some (w i)) (ry := some (w j)) hx hb hdg ht (fun h => kt (fun e => h (by rw [e]))) (fun h => kf (hE.1.1.2 i j hi hj (Option.some.inj h)))
theorem en_str (hx : p.tables.exec = Jvm.exec) (hb : c.code = cc) (hE : EN w A s s.heap) (hown : s.vm.findClass "HalfMast$Tape" = some m.cls) (hdg : decode cc pc = .ok (.ldc 64, 2))
    (kk : W p l e R s m args below meth c H locs cells slots Q (F0 m (pc + 2) ls (.ref (w 29) :: rest))) : W p l e R s m args below meth c H locs cells slots Q (F0 m pc ls rest) := va_ldcS hx hb hown hE.2.2 hdg kk
theorem en_coder (hx : p.tables.exec = Jvm.exec) (hb : c.code = cc) (hE : EN w A s s.heap) (hS : va_S A s.heap H locs) (hown : s.vm.findClass own = some m.cls) (hl : (Cond.fieldLink own index "java/lang/String" "coder" "B").before args s = true) (hdg : decode cc pc = .ok (.getfield index, 3))
    (kk : W p l e R s m args below meth c H locs cells slots Q (F0 m (pc + 3) ls (.int 0 :: rest))) : W p l e R s m args below meth c H locs cells slots Q (F0 m pc ls (.ref (w 29) :: rest)) := by
  obtain ⟨cf, k, fi, f, cell, h1, h2, h3, h4, h5, h6⟩ := hE.2.1.2.1.kept hS.2.1
  exact W.getf hx hb hown hl h1 h2 h3 h4 (v := .int 0) h5 rfl rfl hdg kk
theorem en_value (hx : p.tables.exec = Jvm.exec) (hb : c.code = cc) (hE : EN w A s s.heap) (hS : va_S A s.heap H locs) (hown : s.vm.findClass own = some m.cls) (hl : (Cond.fieldLink own index "java/lang/String" "value" "[B").before args s = true) (hdg : decode cc pc = .ok (.getfield index, 3))
    (kk : W p l e R s m args below meth c H locs cells slots Q (F0 m (pc + 3) ls (.ref (w 30) :: rest))) : W p l e R s m args below meth c H locs cells slots Q (F0 m pc ls (.ref (w 29) :: rest)) := by
  obtain ⟨cf, k, fi, f, cell, h1, h2, h3, h4, h5, h6⟩ := hE.2.1.2.2.1.kept hS.2.1
  exact W.getf hx hb hown hl h1 h2 h3 h4 (v := .ref (w 30)) h5 rfl rfl hdg kk
theorem en_compact (hx : p.tables.exec = Jvm.exec) (hb : c.code = cc) (hE : EN w A s s.heap) (hS : va_S A s.heap H locs) (hown : s.vm.findClass own = some m.cls) (hl : (Cond.fieldLink own index "java/lang/String" "COMPACT_STRINGS" "Z").before args s = true) (hdg : decode cc pc = .ok (.getstatic index, 3))
    (kk : W p l e R s m args below meth c H locs cells slots Q (F0 m (pc + 3) ls (.int 1 :: rest))) : W p l e R s m args below meth c H locs cells slots Q (F0 m pc ls rest) :=
  va_gets hx hb hE.2.1.2.2.2.2 hS hown hl (fun _ h => h) hdg kk
theorem en_blen (hx : p.tables.exec = Jvm.exec) (hb : c.code = cc) (hE : EN w A s s.heap) (hS : va_S A s.heap H locs) (hdg : decode cc pc = .ok (.arraylength, 1))
    (kk : W p l e R s m args below meth c H locs cells slots Q (F0 m (pc + 1) ls (.int 8 :: rest))) : W p l e R s m args below meth c H locs cells slots Q (F0 m pc ls (.ref (w 30) :: rest)) :=
  va_tlen hx hb hE.2.1.2.2.2.1 hS rfl hdg kk
theorem en_bald (hx : p.tables.exec = Jvm.exec) (hb : c.code = cc) (hE : EN w A s s.heap) (hS : va_S A s.heap H locs) {i : Int32} (hin : vp_in i 8) (hdg : decode cc pc = .ok (.baload, 1))
    (kk : W p l e R s m args below meth c H locs cells slots Q (F0 m (pc + 1) ls (.int (wSg i.toNatClampNeg) :: rest))) : W p l e R s m args below meth c H locs cells slots Q (F0 m pc ls (.int i :: .ref (w 30) :: rest)) :=
  va_tb hx hb hE.2.1.2.2.2.1 hS hin rfl hdg kk
theorem en_srec (hE : EN w A s s.heap) (hS : va_S A s.heap H locs) : ∃ cell : Cell, H[w 29]? = some cell ∧ cell.vm.isStatics = false ∧ s.vm.findClass "java/lang/String" = some cell.cls := by
  obtain ⟨cell, h1, h2, h3, -⟩ := hE.2.1.1.kept hS.2.1
  exact ⟨cell, h1, h2, h3⟩
end ENC

theorem dJx29ce0_ordinal_8abf5_0 : decode cJx29ce0_ordinal_8abf5 0 = .ok (.aload_n 0, 1) := by decide +kernel
theorem dJx29ce0_ordinal_8abf5_1 : decode cJx29ce0_ordinal_8abf5 1 = .ok (.getfield 7, 3) := by decide +kernel
theorem dJx29ce0_ordinal_8abf5_4 : decode cJx29ce0_ordinal_8abf5 4 = .ok (.ireturn, 1) := by decide +kernel
theorem c_ordinal (w : Nat → Nat) (l : Launch) (D : va_G) (tys : List (ClassId × FieldType)) {i : Nat} (hi : i < 27) : CRe w l D tys yJx29ce0_ordinal_8abf5 cJx29ce0_ordinal_8abf5 1 (some .int) 0 0 [.ref (w i)] [] (some (.int (wOrdf i))) := by
  refine CRe.mk (by decide) (Nat.le_of_ble_eq_true rfl) ?_
  intro p e s m args below meth c ls ⟨hx, hb, hr, hts, hown, hlocks, hml⟩ hP hG hE hl
  have hl : lv_has ls 1 [(0, .ref (w i))] := hl
  refine lv_aload_n (pc := 0) hx hb dJx29ce0_ordinal_8abf5_0 rfl (lv_at hl 0 rfl) ?_
  refine en_ord (pc := 1) (own := RJx29ce0) hx hb hE va_S.rf hi hown (hts _ kw_1772) dJx29ce0_ordinal_8abf5_1 ?_
  exact W.iret hx hb hr (fun t ht _ => ⟨rfl, ht⟩) (fun _ h => by cases h) dJx29ce0_ordinal_8abf5_4 hlocks
theorem en_ordcall {p : Program} {l : Launch} {e : Env} {R : Room} {s : State} {m : MethodId} {args : Array Value} {below : List Frame} {meth : Method} {c : Code} {H : Heap} {locs : List Loc} {cells slots : Nat} {Q : State → Prop} {w : Nat → Nat} {D : va_G} {tys : List (ClassId × FieldType)} {cc : ByteArray} {pc index nL : Nat} {own : String} {rest : List Value} {ls : Array Slot} {A : Nat → Prop}
    (S : CallFix p m c cc nL s args TB own) (hG : GK D tys s) (hE : EN w A s s.heap) (hS : va_S A s.heap H locs) {i : Nat} (hi : i < 27) (hl : Cond.methodLink own index ⟨"HalfMast$Word", "ordinal", "()I"⟩ ∈ TB) (hR : 0 + 1 ≤ R.frames ∧ 8 + (1 + 11) + 0 ≤ R.locals) (hsize : ls.size = nL) (hW : (rest.map fun v => v.category).sum ≤ 8) (hdg : decode cc pc = .ok (.invokevirtual index, 3)) (hf : cells ≤ R.cells ∧ slots ≤ R.slots)
    (kk : W p l e R s m args below meth c H locs cells slots Q (F0 m (pc + 3) ls (.int (wOrdf i) :: rest))) : W p l e R s m args below meth c H locs cells slots Q (F0 m pc ls (.ref (w i) :: rest)) := by
  refine cr_back (va_runU (As := []) (rest := rest) (C := "HalfMast$Word") (owner := "java/lang/Enum") (x := ⟨"HalfMast$Word", "ordinal", "()I"⟩) S (c_ordinal w l D tys hi) (va_cwU 0 S.2.2.2.2 ?_ rfl rfl rfl rfl (by decide +kernel) hR) ⟨pre_blind, va_recvE hE.1.1 hi hS, fun U h1 h2 => ⟨rfl, prRe hE hS (fun _ _ h => absurd h (by simp)) hG U h1 h2⟩⟩ rfl rfl hsize rfl (lv_room hW) hdg hf) kk
  intro w' h
  rcases List.mem_append.mp h with h | h
  · rcases List.mem_cons.mp h with rfl | h
    · exact tb_g _ hl
    rcases List.mem_cons.mp h with rfl | h
    · exact tb_g _ kw_533
    rcases List.mem_cons.mp h with rfl | h
    · exact tb_g _ kw_535
    rcases List.mem_cons.mp h with rfl | h
    · exact tb_g _ kw_536
    rcases List.mem_cons.mp h with rfl | h
    · exact tb_g _ kw_3
    cases h
  · exact tb_gc kw_537 w' h

