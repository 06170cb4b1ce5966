/-! PURE: the law read, part by part -/
/-- the steps told so far, as class and model hold them; h values wait -/
def SQ (z h : Nat) (st op ar : Nat → Int32) : Prop := ∃ hg : Nat → Nat, hg 0 = 0 ∧ hg z = h ∧ ∀ i, i < z → LStep (st i) (op (1100 + i)) (ar (1100 + i)) (hg i) (hg (i + 1))
theorem SQ.add {z h h' : Nat} {st op ar : Nat → Int32} {s o a : Int32} (hs : SQ z h st op ar) (hl : LStep s o a h h') : SQ (z + 1) h' (upd st z s) (upd op (1100 + z) o) (upd ar (1100 + z) a) := by
  obtain ⟨hg, g0, gz, g1⟩ := hs
  refine ⟨fun i => if i = z + 1 then h' else hg i, ?_, ?_, fun i hi => ?_⟩
  · show (if 0 = z + 1 then h' else hg 0) = 0
    rw [if_neg (by omega)]; exact g0
  · show (if z + 1 = z + 1 then h' else _) = h'
    rw [if_pos rfl]
  · show LStep _ _ _ (if i = z + 1 then h' else hg i) (if i + 1 = z + 1 then h' else hg (i + 1))
    unfold upd
    by_cases e : i = z
    · subst e
      rw [if_pos rfl, if_pos rfl, if_pos rfl, if_neg (by omega), if_pos rfl, gz]
      exact hl
    · rw [if_neg e, if_neg (by omega), if_neg (by omega), if_neg (by omega), if_neg (by omega)]
      exact g1 i (by omega)
theorem put_any {K : Nat} {f : Nat → Int32} {i v : Int32} (hK : K < 2 ^ 31) : OK (m_X11_put K f i v) (fun _ => True) := by
  unfold m_X11_put
  refine OK.ite (fun _ => OK.ret trivial) (fun h1 => OK.ite (fun _ => OK.ret trivial) (fun h2 => OK.pos ?_ (OK.ret trivial)))
  intro z
  rcases z with z | z
  · exact h1 z
  · refine h2 ?_
    have e0 : (0 : Int32).toInt = 0 := by decide
    have h1' : ¬ i.toInt < 0 := fun z => h1 (by rw [Int32.lt_iff_toInt_lt, e0]; exact z)
    rw [Int32.le_iff_toInt_le]
    have : (Int32.ofNat K).toInt = K := nI_toInt hK
    rw [this]
    have e2 : i.toNatClampNeg = i.toInt.toNat := rfl
    rw [e2] at z
    omega
section GROUP
variable {Z N n y h d : Nat} {T P : Nat → Nat} {sg tp so pl st stk op ar : Nat → Int32} {ln : Int32} {va wf : Nat → Int64} {pc be sc nu fa at_ fm size codes : Int32} {le : Int64} {wd : Nat} {th ta sz m1 m2 on un we ro : Int32} {gg : Int64}
/-- where both are in the law -/
def LWP (T P : Nat → Nat) (Z N n y h : Nat) (st : Nat → Int32) (size : Int32) (op ar : Nat → Int32) (codes : Int32) (pc be sc nu : Int32) (le : Int64) (wd : Nat) (fa at_ fm : Int32) : Prop := PA T P Z N n pc be sc nu le wd fa at_ fm ∧ codes = nI y ∧ y ≤ n ∧ (fa = 0 → size = nI y ∧ SQ y h st op ar)
abbrev CR9 := Int32 × (Nat → Int32) × Int32 × Int32 × Int32 × Int32 × Int64 × Nat × Int32
abbrev QR5 := Int32 × Int32 × Int32 × (Nat → Int32) × (Nat → Int32)
/-- what a part hands back -/
def LE (T P : Nat → Nat) (Z N n y h d : Nat) (fa : Int32) (op ar : Nat → Int32) (R : CR9) (R' : QR5) : Prop := ∃ n' y', n ≤ n' ∧ y' + n ≤ y + n' ∧ (R.2.2.2.2.2.2.2.2 = 0 → fa = 0 ∧ d < 5) ∧ LWP T P Z N n' y' h R.2.1 R.1 R'.2.2.2.1 R'.2.2.2.2 R'.2.2.1 R.2.2.1 R.2.2.2.1 R.2.2.2.2.1 R.2.2.2.2.2.1 R.2.2.2.2.2.2.1 R.2.2.2.2.2.2.2.1 R.2.2.2.2.2.2.2.2 R'.1 R'.2.1 ∧ ∀ k, k < 1100 → R'.2.2.2.1 k = op k ∧ R'.2.2.2.2 k = ar k
abbrev GCt := Nat → (Nat → Int32) → (Nat → Int32) → Int32 → (Nat → Int32) → Int32 → Int32 → Int32 → Int32 → Int32 → Int64 → Nat → Int32 → Int32 → Option CR9
abbrev GMt := Nat → Int32 → Int32 → Int32 → (Nat → Int32) → (Nat → Int32) → (Nat → Int64) → Int32 → Int32 → (Nat → Int64) → (Nat → Int32) → (Nat → Int32) → Int32 → Int32 → Int32 → Int32 → Int32 → Int32 → Int32 → Int64 → Int32 → Option QR5
/-- a reader of both does as it should, at a depth -/
def GS (T P : Nat → Nat) (Z N : Nat) (sg : Nat → Int32) (ln : Int32) (stk so pl : Nat → Int32) (va wf : Nat → Int64) (th ta sz m1 m2 on un we ro : Int32) (gg : Int64) (GC : GCt) (GM : GMt) (t d : Nat) : Prop :=
  ∀ (n y h : Nat) (st op ar : Nat → Int32) (size codes pc be sc nu : Int32) (le : Int64) (wd : Nat) (fa at_ fm : Int32), LWP T P Z N n y h st size op ar codes pc be sc nu le wd fa at_ fm → h ≤ 4 * d + t → OT (GC t st stk size sg ln pc be sc nu le wd fa (nI d)) (GM t th ta sz so pl va at_ fm wf op ar codes m1 m2 on un we ro gg (nI d)) (LE T P Z N n y (h + 1) d fa op ar)
theorem e_both {s o a : Int32} {h' : Nat} (hy : y < 1000) (hc : codes = nI y) (hs : fa = 0 → size = nI y ∧ SQ y h st op ar) (hl : fa = 0 → LStep s o a h h') : OT (m_X3_add st size s) (m_X12_emit op ar codes o a) (fun R R' => R'.1 = nI (y + 1) ∧ (fa = 0 → R.1 = nI (y + 1) ∧ SQ (y + 1) h' R.2 R'.2.1 R'.2.2) ∧ ∀ k, k < 1100 → R'.2.1 k = op k ∧ R'.2.2 k = ar k) := by
  have e : (1100 : Int32) + nI y = nI (1100 + y) := nI_add 1100 y
  have q : OK (m_X12_emit op ar codes o a) (fun R' => R' = (nI (y + 1), upd op (1100 + y) o, upd ar (1100 + y) a)) := by
    unfold m_X12_emit
    rw [hc, e, nI_clamp (show 1100 + y < 2 ^ 31 by omega), nI_1]
    exact OK.pos (pn_in2 (by omega) (by omega)) (OK.pos (pn_in2 (by omega) (by omega)) (OK.ret rfl))
  have c : OK (m_X3_add st size s) (fun R => fa = 0 → R = (nI (y + 1), upd st y s)) := by
    unfold m_X3_add
    by_cases h0 : fa = 0
    · obtain ⟨e1, -⟩ := hs h0
      rw [e1, p_put (show y < 1000 by omega) (by omega), nI_1]
      exact OK.neg (show ¬ (1000 : Int32) ≤ nI y from nI_ge (b := 1000) hy (by omega)) (OK.eq rfl (OK.ret (fun _ => rfl)))
    · exact OK.ite (fun _ => OK.ret (fun z => absurd z h0)) (fun _ => OK.bd (put_any (by omega)) (fun _ _ => OK.ret (fun z => absurd z h0)))
  refine OT.of c q (fun R R' hR hR' => ?_)
  subst hR'
  refine ⟨rfl, fun h0 => ?_, fun k hk => ⟨?_, ?_⟩⟩
  · rw [hR h0]
    exact ⟨rfl, (hs h0).2.add (hl h0)⟩
  · show upd op (1100 + y) o k = op k
    unfold upd; rw [if_neg (by omega)]
  · show upd ar (1100 + y) a k = ar k
    unfold upd; rw [if_neg (by omega)]
/-- a sign or word that joins, what it joins, and its step -/
theorem g_step {GC : GCt} {GM : GMt} {t : Nat} (hC : CX Z N T P sg tp ln so pl va wf) (ih : GS T P Z N sg ln stk so pl va wf th ta sz m1 m2 on un we ro gg GC GM t d) (hL : LWP T P Z N n y (h + 1) st size op ar codes pc be sc nu le wd fa at_ fm) (h0 : fa = 0) (hn : n < N) (hh : h + 1 ≤ 4 * d + t) (ht : t ≤ 4) (ht1 : 1 ≤ t) {s o : Int32} (hso : (s = -10 ∧ o = 4) ∨ (s = -11 ∧ o = 5) ∨ (s = -12 ∧ o = 6) ∨ (s = -8 ∧ o = 7) ∨ (s = -9 ∧ o = 8) ∨ (s = -6 ∧ o = 9) ∨ (s = -7 ∧ o = 10)) {α β : Type} {KC : CR9 → Option α} {KM : QR5 → Option β} {Q : α → β → Prop} (hK : ∀ R R', (∃ n' y', n < n' ∧ y' + n ≤ y + n' ∧ (R.2.2.2.2.2.2.2.2 = 0 → d < 5) ∧ LWP T P Z N n' y' (h + 1) R.2.1 R.1 R'.2.2.2.1 R'.2.2.2.2 R'.2.2.1 R.2.2.1 R.2.2.2.1 R.2.2.2.2.1 R.2.2.2.2.2.1 R.2.2.2.2.2.2.1 R.2.2.2.2.2.2.2.1 R.2.2.2.2.2.2.2.2 R'.1 R'.2.1 ∧ ∀ k, k < 1100 → R'.2.2.2.1 k = op k ∧ R'.2.2.2.2 k = ar k) → OT (KC R) (KM R') Q) :
    OT (Option.bind (m_X7_advance sg ln pc be sc nu le wd fa) (fun r8 => Option.bind (GC t st stk size sg ln r8.1 r8.2.1 r8.2.2.1 r8.2.2.2.1 r8.2.2.2.2.1 r8.2.2.2.2.2 fa (nI d)) (fun r9 => Option.bind (m_X3_add r9.2.1 r9.1 s) (fun r10 => KC (r10.1, r10.2, r9.2.2.1, r9.2.2.2.1, r9.2.2.2.2.1, r9.2.2.2.2.2.1, r9.2.2.2.2.2.2.1, r9.2.2.2.2.2.2.2.1, r9.2.2.2.2.2.2.2.2))))) (Option.bind (GM t th ta sz so pl va (at_ + 1) fm wf op ar codes m1 m2 on un we ro gg (nI d)) (fun r9 => Option.bind (m_X12_emit r9.2.2.2.1 r9.2.2.2.2 r9.2.2.1 o 0) (fun r7 => KM (r9.1, r9.2.1, r7.1, r7.2.1, r7.2.2)))) Q := by
  obtain ⟨hP, hc, hy, hS⟩ := hL
  have hN := hC.bnd
  refine OT.bdL (a_adv hC hP h0 hn) (fun R hR => OT.bd (ih (n + 1) y (h + 1) st op ar size codes _ _ _ _ _ _ _ _ _ ⟨hR, hc, by omega, hS⟩ hh) (fun S S' hS' => ?_))
  obtain ⟨n', y', k1, k2, k3, ⟨p1, p2, p3, p4⟩, k5⟩ := hS'
  have hn' := p1.2.1
  refine OT.bd (e_both (s := s) (o := o) (a := 0) (h' := h + 1) (show y' < 1000 by omega) p2 p4 (fun z => ?_)) (fun U U' hU => ?_)
  · obtain ⟨-, hd⟩ := k3 z
    exact Or.inr (Or.inr (Or.inr ⟨hso, by omega, by omega, rfl⟩))
  · obtain ⟨u1, u2, u3⟩ := hU
    exact hK _ _ ⟨n', y' + 1, by omega, by omega, fun z => (k3 z).2, ⟨p1, u1, by omega, u2⟩, fun k hk => ⟨(u3 k hk).1.trans (k5 k hk).1, (u3 k hk).2.trans (k5 k hk).2⟩⟩
end GROUP
