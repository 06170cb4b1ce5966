/-! MACHINE: makers (constructors), what they add -/
abbrev RmK (fr lo mc ms : Nat) : Room := { frames := fr, cells := mc, slots := ms, locals := lo }
def QK (D : va_G) (ws0 : va_W) (P : (Nat → Nat) → va_W) (sz : Nat) : Array Value → State → Outcome → State → Prop := fun _ st oc t => oc = .returned none ∧ ∃ q : Nat → Nat, va_P D vwCl (P q) t.heap ∧ va_D (va_A ws0 sz) (P q) ∧ va_F (va_A ws0 sz) st t
/-- a maker: its cells ws0 become P q, for some new places q; it adds mc cells with ms slots -/
def CK (l : Launch) (D : va_G) (tys : List (ClassId × FieldType)) (y : MethodName) (cc : ByteArray) (mL : Nat) (fr lo mc ms : Nat) (av : List Value) (ws0 : va_W) (P : (Nat → Nat) → va_W) : Prop :=
  ∀ sz : Nat, Met l y (.code y cc mL none :: TB) (RmK fr lo mc ms) (va_Pc av (PW D tys ws0 sz)) (QK D ws0 P sz) mc ms (va_A ws0 sz)
theorem CK.mk {l : Launch} {D : va_G} {tys : List (ClassId × FieldType)} {y : MethodName} {cc : ByteArray} {mL : Nat} {fr lo mc ms : Nat} {av : List Value} {ws0 : va_W} {P : (Nat → Nat) → va_W}
    (hy : plainName y.cls = true) (hn : (lg_sl av).length ≤ mL)
    (h : ∀ (p : Program) (e : Env) (s : State) (m : MethodId) (args : Array Value) (below : List Frame) (meth : Method) (c : Code) (ls : Array Slot) (A : Nat → Prop), BX p s m args meth c cc mL none y.cls → meth.name = y.name → va_P D vwCl ws0 s.heap → GK D tys s → va_D A ws0 → (∀ q : Nat, s.heap.size ≤ q → A q) → lv_has ls mL (lv_args 0 av) →
      va_S A s.heap s.heap [] → (∀ (q : Nat → Nat) (H : Heap) (t : State), t.heap = H → va_P D vwCl (P q) H → va_D A (P q) → ∀ locs : List Loc, va_S A s.heap H locs → QK D ws0 P s.heap.size args s (.returned none) t) →
      W p l e (RmK fr lo mc ms) s m args below meth c s.heap [] 0 0 (MQ below (QK D ws0 P s.heap.size) args s mc ms A) (F0 m 0 ls [])) : CK l D tys y cc mL fr lo mc ms av ws0 P := by
  intro sz
  refine Met.ofW (cc := cc) (maxL := mL) (ret := none) hy rfl ?_
  intro p e s m args below meth c s₁ B hml hv
  obtain ⟨rfl, rfl, hP, hG, hD⟩ := hv
  rw [lg_entry_eq]
  exact h p e s m _ below meth c _ (va_A ws0 s.heap.size) ⟨B.exec, B.bytes, B.returns, fun w hw => atoms_spec B.pre w (List.mem_cons_of_mem _ hw), findClass_of_methodNamed B.named, B.notSynchronized, hml⟩ (name_of_methodNamed B.named B.method).1 hP hG hD.self (fun q h => Or.inr h) (lv_entry av hn) va_S.rf
    (fun q H t ht h1 h2 locs hS => ⟨rfl, q, by rw [ht]; exact h1, h2, hS.F ht⟩)
section NK
variable {p : Program} {l : Launch} {e : Env} {R : Room} {s : State} {m : MethodId} {args : Array Value} {below : List Frame} {meth : Method} {c : Code} {H : Heap} {locs : List Loc} {cells slots : Nat} {Q : State → Prop}
variable {D : va_G} {cc : ByteArray} {pc : Nat} {rest : List Value} {ls : Array Slot} {ws : va_W} {A : Nat → Prop} {H0 : Heap}
/-- a new row of ints: its class is the world's own -/
theorem nk_int {k : Nat → ClassId} (hexec : p.tables.exec = Jvm.exec) (hb : c.code = cc) (harr : (Cond.arrayClass .int).before args s = true) (hG : GK D (TY k) s) (hP : va_P D vwCl ws H) (hD : va_D A ws) (hS : va_S A H0 H locs) (hA : ∀ q, H0.size ≤ q → A q)
    {n : Int32} {N' : Nat} (hn : ¬ n < 0) (hN : n.toNatClampNeg = N') (hbytes : N' * 4 ≤ 536870912) (hcells : cells + 1 ≤ R.cells) (hslots : slots + N' ≤ R.slots) (hdg : decode cc pc = .ok (.newarray .int, 2))
    (kk : ∀ (q : Nat) (H1 : Heap), va_P D vwCl (ws ++ [(q, .inl (k 0, N', .inl (fun _ => 0)))]) H1 → va_D A (ws ++ [(q, .inl (k 0, N', .inl (fun _ => 0)))]) → va_S A H0 H1 locs →
      W p l e R s m args below meth c H1 locs (cells + 1) (slots + N') Q (F0 m (pc + 2) ls (.ref q :: rest))) : W p l e R s m args below meth c H locs cells slots Q (F0 m pc ls (.int n :: rest)) := by
  refine va_newa (a0 := (N', .inl (fun _ => 0))) (ty := .int) hexec hb (atype := .int) harr rfl hG.1 hP hD hS hA (fun cA => rfl) hn hN hbytes hcells hslots hdg (fun q cA H1 hK1 hP1 hD1 hS1 => ?_)
  have h1 := (hK1.2 6 (cA, .int) rfl).2
  have h2 := (hG.1.2 0 (k 0, .int) rfl).2
  have e : cA = k 0 := Option.some.inj (h1.symm.trans h2)
  subst e
  exact kk q H1 hP1 hD1 hS1
end NK
