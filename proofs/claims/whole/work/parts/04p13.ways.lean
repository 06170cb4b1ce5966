/-! PURE: ways, told over the pairs gone through -/
noncomputable def pb (P : Nat → Nat → Prop) : Nat × Nat → Bool := fun q => @decide (P q.1 q.2) (Classical.propDecidable _)
theorem pb_t {P : Nat → Nat → Prop} {q : Nat × Nat} (h : P q.1 q.2) : pb P q = true := @decide_eq_true _ (Classical.propDecidable _) h
theorem pb_f {P : Nat → Nat → Prop} {q : Nat × Nat} (h : ¬ P q.1 q.2) : pb P q = false := @decide_eq_false _ (Classical.propDecidable _) h
def Sm (P : Nat → Nat → Prop) (V : List (Nat × Nat)) (x2 x3 x4 x5 : Int32) : Prop :=
  x2 = nI (V.countP (pb P)) ∧ (∃ S : Nat, S < 64 ∧ x3 = nI S ∧ ∀ q, q < 6 → (S.testBit q = true ↔ ∃ a, (q, a) ∈ V ∧ P q a)) ∧
  ((x4 = -1 ∧ x5 = -1 ∧ ∀ q ∈ V, ¬ P q.1 q.2) ∨ ∃ lo hi : Nat, lo ≤ 20 ∧ hi ≤ 20 ∧ x4 = nI lo ∧ x5 = nI hi ∧ (∃ q, (q, lo) ∈ V ∧ P q lo) ∧ (∃ q, (q, hi) ∈ V ∧ P q hi) ∧ ∀ q ∈ V, P q.1 q.2 → lo ≤ q.2 ∧ q.2 ≤ hi)
theorem Sm.nil {P : Nat → Nat → Prop} : Sm P [] 0 0 (-1) (-1) := ⟨rfl, ⟨0, by omega, rfl, fun q _ => by simp⟩, Or.inl ⟨rfl, rfl, fun q h => by cases h⟩⟩
theorem Sm.uniq {P : Nat → Nat → Prop} {V V' : List (Nat × Nat)} {x2 x3 x4 x5 y2 y3 y4 y5 : Int32} (h : Sm P V x2 x3 x4 x5) (h' : Sm P V' y2 y3 y4 y5) (hn : V.Nodup) (hn' : V'.Nodup) (he : ∀ q, q ∈ V ↔ q ∈ V') : x2 = y2 ∧ x3 = y3 ∧ x4 = y4 ∧ x5 = y5 := by
  obtain ⟨a1, ⟨S, s1, s2, s3⟩, a3⟩ := h
  obtain ⟨b1, ⟨S', t1, t2, t3⟩, b3⟩ := h'
  refine ⟨?_, ?_, ?_⟩
  · rw [a1, b1, ((List.perm_ext_iff_of_nodup hn hn').mpr he).countP_eq]
  · rw [s2, t2]
    congr 1
    refine Nat.eq_of_testBit_eq (fun q => ?_)
    by_cases hq : q < 6
    · have e : (S.testBit q = true) ↔ (S'.testBit q = true) := (s3 q hq).trans (Iff.trans ⟨fun ⟨a, h1, h2⟩ => ⟨a, (he _).mp h1, h2⟩, fun ⟨a, h1, h2⟩ => ⟨a, (he _).mpr h1, h2⟩⟩ (t3 q hq).symm)
      exact Bool.eq_iff_iff.mpr e
    · rw [Nat.testBit_lt_two_pow (Nat.lt_of_lt_of_le s1 (Nat.pow_le_pow_right (n := 2) (by omega) (show 6 ≤ q by omega))), Nat.testBit_lt_two_pow (Nat.lt_of_lt_of_le t1 (Nat.pow_le_pow_right (n := 2) (by omega) (show 6 ≤ q by omega)))]
  · rcases a3 with ⟨c1, c2, c3⟩ | ⟨lo, hi, -, -, c1, c2, ⟨q1, m1, n1⟩, ⟨q2, m2, n2⟩, c3⟩
    · rcases b3 with ⟨e1, e2, e3⟩ | ⟨lo, hi, -, -, e1, e2, ⟨q1, m1, n1⟩, -, -⟩
      · rw [c1, c2, e1, e2]; exact ⟨rfl, rfl⟩
      · exact absurd n1 (c3 _ ((he _).mpr m1))
    · rcases b3 with ⟨e1, e2, e3⟩ | ⟨lo', hi', -, -, e1, e2, ⟨q3, m3, n3⟩, ⟨q4, m4, n4⟩, e3⟩
      · exact absurd n1 (e3 _ ((he _).mp m1))
      · have g1 := c3 _ ((he _).mpr m3) n3
        have g2 := c3 _ ((he _).mpr m4) n4
        have g3 := e3 _ ((he _).mp m1) n1
        have g4 := e3 _ ((he _).mp m2) n2
        dsimp only at g1 g2 g3 g4
        rw [c1, c2, e1, e2, show lo = lo' by omega, show hi = hi' by omega]
        exact ⟨rfl, rfl⟩
theorem Sm.no {P : Nat → Nat → Prop} {V : List (Nat × Nat)} {x2 x3 x4 x5 : Int32} {p a : Nat} (h : Sm P V x2 x3 x4 x5) (hp : ¬ P p a) : Sm P ((p, a) :: V) x2 x3 x4 x5 := by
  obtain ⟨a1, ⟨S, s1, s2, s3⟩, a3⟩ := h
  have hm : ∀ q b, P q b → ((q, b) ∈ (p, a) :: V ↔ (q, b) ∈ V) := by
    intro q b hq
    rw [List.mem_cons]
    refine ⟨fun z => z.elim (fun z => ?_) id, Or.inr⟩
    obtain ⟨rfl, rfl⟩ := Prod.mk.inj z
    exact absurd hq hp
  refine ⟨?_, ⟨S, s1, s2, fun q hq => (s3 q hq).trans ⟨fun ⟨b, h1, h2⟩ => ⟨b, (hm q b h2).mpr h1, h2⟩, fun ⟨b, h1, h2⟩ => ⟨b, (hm q b h2).mp h1, h2⟩⟩⟩, ?_⟩
  · rw [List.countP_cons_of_neg (by rw [pb_f hp]; decide)]; exact a1
  · rcases a3 with ⟨c1, c2, c3⟩ | ⟨lo, hi, l1, l2, c1, c2, ⟨q1, m1, n1⟩, ⟨q2, m2, n2⟩, c3⟩
    · refine Or.inl ⟨c1, c2, fun q hq hP => ?_⟩
      exact c3 q ((hm q.1 q.2 hP).mp hq) hP
    · exact Or.inr ⟨lo, hi, l1, l2, c1, c2, ⟨q1, (hm _ _ n1).mpr m1, n1⟩, ⟨q2, (hm _ _ n2).mpr m2, n2⟩, fun q hq hP => c3 q ((hm q.1 q.2 hP).mp hq) hP⟩
theorem b_tb2 : ∀ S : Nat, S < 64 → ∀ p : Nat, p < 6 → ∀ q : Nat, q < 6 → (S ||| 2 ^ p).testBit q = (S.testBit q || decide (q = p)) := by decide +kernel
/-- one more that fits: the count, the set -/
theorem Sm.yes2 {P : Nat → Nat → Prop} {V : List (Nat × Nat)} {x2 x3 x4 x5 : Int32} {p a : Nat} (h : Sm P V x2 x3 x4 x5) (hP : P p a) (hp : p < 6) :
    x2 + 1 = nI (((p, a) :: V).countP (pb P)) ∧ (∃ S : Nat, S < 64 ∧ x3 ||| (1 <<< (nI p &&& 31)) = nI S ∧ ∀ q, q < 6 → (S.testBit q = true ↔ ∃ b, (q, b) ∈ (p, a) :: V ∧ P q b)) := by
  obtain ⟨a1, ⟨S, s1, s2, s3⟩, -⟩ := h
  have hpw : 2 ^ p < 64 := Nat.pow_lt_pow_right (by omega) hp
  refine ⟨by rw [List.countP_cons_of_pos (pb_t hP), a1, nI_1], S ||| 2 ^ p, (b_or S s1 _ hpw).2, by rw [s2, b_bit p hp, (b_or S s1 _ hpw).1], fun q hq => ?_⟩
  rw [b_tb2 S s1 p hp q hq, Bool.or_eq_true, s3 q hq, decide_eq_true_iff]
  constructor
  · rintro (⟨b, h1, h2⟩ | rfl)
    · exact ⟨b, List.mem_cons_of_mem _ h1, h2⟩
    · exact ⟨a, List.mem_cons_self, hP⟩
  · rintro ⟨b, h1, h2⟩
    rcases List.mem_cons.mp h1 with z | z
    · exact Or.inr (Prod.mk.inj z).1
    · exact Or.inl ⟨b, z, h2⟩
theorem Sm.yesC {P : Nat → Nat → Prop} {V : List (Nat × Nat)} {x2 x3 x4 x5 : Int32} {p a : Nat} (h : Sm P V x2 x3 x4 x5) (hP : P p a) (hp : p < 6) (ha : a ≤ 20) :
    Sm P ((p, a) :: V) (x2 + 1) (x3 ||| (1 <<< (nI p &&& 31))) (if x4 = -1 then nI a else (if nI a < x4 then nI a else x4)) (if x5 < nI a then nI a else x5) := by
  refine ⟨(h.yes2 hP hp).1, (h.yes2 hP hp).2, Or.inr ?_⟩
  have self : (p, a) ∈ (p, a) :: V := List.mem_cons_self
  rcases h.2.2 with ⟨c1, c2, c3⟩ | ⟨lo, hi, l1, l2, c1, c2, ⟨q1, m1, n1⟩, ⟨q2, m2, n2⟩, c3⟩
  · refine ⟨a, a, ha, ha, by rw [if_pos c1], by rw [c2, if_pos (by rw [Int32.lt_iff_toInt_lt, nI_toInt (by omega)]; show (-1 : Int) < a; omega)], ⟨p, self, hP⟩, ⟨p, self, hP⟩, fun q hq hq2 => ?_⟩
    rcases List.mem_cons.mp hq with rfl | hq
    · exact ⟨Nat.le_refl _, Nat.le_refl _⟩
    · exact absurd hq2 (c3 q hq)
  · refine ⟨if a < lo then a else lo, if hi < a then a else hi, by split <;> omega, by split <;> omega, ?_, ?_, ?_, ?_, fun q hq hq2 => ?_⟩
    · rw [c1, if_neg (nI_m1 (by omega))]
      by_cases e : a < lo
      · rw [if_pos e, if_pos (nI_lt e (by omega))]
      · rw [if_neg e, if_neg (nI_nlt (by omega) (by omega))]
    · rw [c2]
      by_cases e : hi < a
      · rw [if_pos e, if_pos (nI_lt e (by omega))]
      · rw [if_neg e, if_neg (nI_nlt (by omega) (by omega))]
    · by_cases e : a < lo
      · rw [if_pos e]; exact ⟨p, self, hP⟩
      · rw [if_neg e]; exact ⟨q1, List.mem_cons_of_mem _ m1, n1⟩
    · by_cases e : hi < a
      · rw [if_pos e]; exact ⟨p, self, hP⟩
      · rw [if_neg e]; exact ⟨q2, List.mem_cons_of_mem _ m2, n2⟩
    · rcases List.mem_cons.mp hq with rfl | hq
      · dsimp only
        refine ⟨?_, ?_⟩ <;> split <;> omega
      · have := c3 q hq hq2
        refine ⟨?_, ?_⟩ <;> split <;> omega
theorem Sm.yesM {P : Nat → Nat → Prop} {V : List (Nat × Nat)} {x2 x3 x4 x5 : Int32} {p a : Nat} (h : Sm P V x2 x3 x4 x5) (hP : P p a) (hp : p < 6) (ha : a ≤ 20) (hV : ∀ q ∈ V, q.2 ≤ a) :
    Sm P ((p, a) :: V) (x2 + 1) (x3 ||| (1 <<< (nI p &&& 31))) (if 0 ≤ x4 then x4 else nI a) (nI a) := by
  refine ⟨(h.yes2 hP hp).1, (h.yes2 hP hp).2, Or.inr ?_⟩
  have self : (p, a) ∈ (p, a) :: V := List.mem_cons_self
  rcases h.2.2 with ⟨c1, c2, c3⟩ | ⟨lo, hi, l1, l2, c1, c2, ⟨q1, m1, n1⟩, ⟨q2, m2, n2⟩, c3⟩
  · refine ⟨a, a, ha, ha, by rw [c1, if_neg (by decide)], rfl, ⟨p, self, hP⟩, ⟨p, self, hP⟩, fun q hq hq2 => ?_⟩
    rcases List.mem_cons.mp hq with rfl | hq
    · exact ⟨Nat.le_refl _, Nat.le_refl _⟩
    · exact absurd hq2 (c3 q hq)
  · have hlo := hV _ m1
    dsimp only at hlo
    refine ⟨lo, a, l1, ha, by rw [c1, if_pos (nI_pos' (by omega))], rfl, ⟨q1, List.mem_cons_of_mem _ m1, n1⟩, ⟨p, self, hP⟩, fun q hq hq2 => ?_⟩
    rcases List.mem_cons.mp hq with rfl | hq
    · exact ⟨hlo, Nat.le_refl _⟩
    · exact ⟨(c3 q hq hq2).1, hV q hq⟩
section WAYS
variable {G : Gm} {w r : Nat} {sf0 kf st tf op ar lf ff sf lf0 ff0 nx u fa pl lk df hf : Nat → Int32} {size ps mast wv rv fl dt mv : Int32} {L F D H : Nat → Nat} {d m : Nat}
/-- a way by which all that is seen is so -/
def wy (G : Gm) (w r : Nat) (F : Nat → Nat) (d : Nat) (L : Nat → Nat) (m : Nat) (D H : Nat → Nat) (p a : Nat) : Prop := AllP (rnH G w r F d (setL L p (shN (L p) (nI a)))) m D H
def sel4 (v x2 x3 x4 x5 : Int32) : Int32 := if v = 0 then x2 else if v = 1 then x3 else if v = 2 then x4 else if v = 3 then x5 else -1
def memC (p a : Nat) (V : List (Nat × Nat)) : Prop := V.Nodup ∧ ∀ q : Nat × Nat, q ∈ V ↔ (1 ≤ q.2 ∧ q.2 ≤ 20 ∧ (q.1 < p ∨ (q.1 = p ∧ q.2 < a)))
theorem memC.step {p a : Nat} {V : List (Nat × Nat)} (h : memC p a V) (ha : 1 ≤ a) (ha2 : a ≤ 20) : memC p (a + 1) ((p, a) :: V) := by
  refine ⟨List.nodup_cons.mpr ⟨fun z => ?_, h.1⟩, fun q => ?_⟩
  · have := (h.2 _).mp z
    dsimp only at this
    omega
  · rw [List.mem_cons, h.2 q]
    obtain ⟨q1, q2⟩ := q
    rw [Prod.mk.injEq]
    dsimp only
    omega
theorem memC.next {p : Nat} {V : List (Nat × Nat)} (h : memC p 21 V) : memC (p + 1) 1 V := by
  refine ⟨h.1, fun q => ?_⟩
  rw [h.2 q]
  omega
def WyC (P : Nat → Nat → Prop) (n : Nat) (v : Int32) (x : Int32) : Prop := ∃ (V : List (Nat × Nat)) (x2 x3 x4 x5 : Int32), V.Nodup ∧ (∀ q : Nat × Nat, q ∈ V ↔ (1 ≤ q.2 ∧ q.2 ≤ 20 ∧ q.1 < n)) ∧ Sm P V x2 x3 x4 x5 ∧ x = sel4 v x2 x3 x4 x5
theorem waysC_in {here : Nat} {v : Int32} (hT : CT G kf st size ps mast) (hw : wOK w r) (h : CS G L F d lf ff dt) (hN : CN m D H df hf mv) {p : Nat} (hp : p < G.1)
    {K13 : Int32 → Int32 → Int32 → Int32 → Int32 → Value → Int32 → Int32 → Int32 → Int32 → (Nat → Int32) → (Nat → Int32) → (Nat → Int32) → (Nat → Int32) → Option (Int32 × Value × Int32 × Int32 × Int32 × Int32 × (Nat → Int32) × (Nat → Int32) × (Nat → Int32) × (Nat → Int32))}
    (hK : ∀ (x2 x3 x4 x5 : Int32) (tv : Value) (aw ad af adt : Int32) (lf0 ff0 nx u : Nat → Int32) (V : List (Nat × Nat)), memC (p + 1) 1 V → Sm (wy G w r F d L m D H) V x2 x3 x4 x5 → OK (K13 x2 x3 x4 x5 (nI (p + 1)) tv aw ad af adt lf0 ff0 nx u) (fun R => WyC (wy G w r F d L m D H) G.1 v R.1)) :
    ∀ (c a fu : Nat) (x2 x3 x4 x5 : Int32) (tv : Value) (aw ad af adt : Int32) (lf0 ff0 nx u : Nat → Int32) (V : List (Nat × Nat)), a + c = 21 → 1 ≤ a → c < fu → memC p a V → Sm (wy G w r F d L m D H) V x2 x3 x4 x5 →
      OK (m_X11_ways_28 df hf mv lf ff dt here kf st size ps mast (nI w) (nI r) v K13 fu x2 x3 x4 x5 (nI p) (nI a) tv aw ad af adt lf0 ff0 nx u) (fun R => WyC (wy G w r F d L m D H) G.1 v R.1)
  | 0, a, fu + 1, x2, x3, x4, x5, tv, aw, ad, af, adt, lf0, ff0, nx, u, V, hc, _, _, hV, hS => by
    have : a = 21 := by omega
    subst this
    rw [m_X11_ways_28, nI_1]
    exact OK.pos (by decide) (hK _ _ _ _ _ _ _ _ _ _ _ _ _ V hV.next hS)
  | c + 1, a, fu + 1, x2, x3, x4, x5, tv, aw, ad, af, adt, lf0, ff0, nx, u, V, hc, ha, hf', hV, hS => by
    have hn := hT.1.1
    rw [m_X11_ways_28]
    refine OK.neg (nI_nlt (a := 20) (by omega) (by omega)) (OK.bd (c_way hT hw h hp) (fun R1 h1 => OK.bd (c_bears hT hw hN h1) (fun R2 h2 => ?_)))
    unfold m_X11_ways_83
    rw [nI_1]
    have go := fun (x2 x3 x4 x5 : Int32) hS => waysC_in (here := here) hT hw h hN hp hK c (a + 1) fu x2 x3 x4 x5 (.ref here) R1.1 R1.2.1 R2.2.1 R2.2.2.1 R2.2.2.2.1 R1.2.2.2.2.2 R2.2.2.2.2.1 R2.2.2.2.2.2 ((p, a) :: V) (by omega) (by omega) (by omega) (hV.step ha (by omega)) hS
    refine OK.ite (fun e => ?_) (fun e => OK.eq rfl ?_)
    · exact go _ _ _ _ (hS.no (fun z => by have := h2.one z; rw [e] at this; exact absurd this (by decide)))
    · have hP : wy G w r F d L m D H p a := h2.elim (fun z => z.1) (fun z => absurd z.2 e)
      have hS2 := hS.yesC hP (by omega) (show a ≤ 20 by omega)
      refine OK.ite (fun e2 => ?_) (fun e2 => ?_)
      · rw [if_pos e2] at hS2; exact go _ _ _ _ hS2
      · rw [if_neg e2] at hS2; exact go _ _ _ _ hS2
theorem waysC_out {here : Nat} {v : Int32} (hT : CT G kf st size ps mast) (hw : wOK w r) (h : CS G L F d lf ff dt) (hN : CN m D H df hf mv) :
    ∀ (c p fu : Nat) (x2 x3 x4 x5 : Int32) (tv : Value) (aw ad af adt : Int32) (lf0 ff0 nx u : Nat → Int32) (V : List (Nat × Nat)), p + c = G.1 → c < fu → memC p 1 V → Sm (wy G w r F d L m D H) V x2 x3 x4 x5 →
      OK (m_X11_ways_13 df hf mv lf ff dt here kf st size ps mast (nI w) (nI r) v fu x2 x3 x4 x5 (nI p) tv aw ad af adt lf0 ff0 nx u) (fun R => WyC (wy G w r F d L m D H) G.1 v R.1)
  | 0, p, fu + 1, x2, x3, x4, x5, tv, aw, ad, af, adt, lf0, ff0, nx, u, V, hc, _, hV, hS => by
    have hn := hT.1.1
    have : p = G.1 := by omega
    subst this
    rw [m_X11_ways_13]
    have fin : ∀ X : Int32, X = sel4 v x2 x3 x4 x5 → WyC (wy G w r F d L m D H) G.1 v X := fun X hX => ⟨V, x2, x3, x4, x5, hV.1, fun q => by rw [hV.2 q]; omega, hS, hX⟩
    refine OK.pos (by rw [hT.2.1]; exact nI_le (by omega) (by omega)) ?_
    refine OK.ite (fun e => OK.ret (fin _ (by unfold sel4; rw [if_pos e]))) (fun e => OK.ite (fun e2 => OK.ret (fin _ (by unfold sel4; rw [if_neg e, if_pos e2]))) (fun e2 => OK.ite (fun e3 => OK.ret (fin _ (by unfold sel4; rw [if_neg e, if_neg e2, if_pos e3]))) (fun e3 => OK.ite (fun e4 => OK.ret (fin _ (by unfold sel4; rw [if_neg e, if_neg e2, if_neg e3, if_pos e4]))) (fun e4 => OK.ret (fin _ (by unfold sel4; rw [if_neg e, if_neg e2, if_neg e3, if_neg e4]))))))
  | c + 1, p, fu + 1, x2, x3, x4, x5, tv, aw, ad, af, adt, lf0, ff0, nx, u, V, hc, hf', hV, hS => by
    have hFU := FU_ge
    have hn := hT.1.1
    rw [m_X11_ways_13]
    refine OK.neg (by rw [hT.2.1]; exact nI_ge (by omega) (by omega)) ?_
    exact waysC_in hT hw h hN (show p < G.1 by omega) (fun x2 x3 x4 x5 tv aw ad af adt lf0 ff0 nx u V hV hS => waysC_out hT hw h hN c (p + 1) fu x2 x3 x4 x5 tv aw ad af adt lf0 ff0 nx u V (by omega) (by omega) hV hS) 20 1 FU x2 x3 x4 x5 tv aw ad af adt lf0 ff0 nx u V (by omega) (by omega) (by omega) hV hS
/-! the model: amounts outside -/
def memM (n p a : Nat) (V : List (Nat × Nat)) : Prop := V.Nodup ∧ ∀ q : Nat × Nat, q ∈ V ↔ (1 ≤ q.2 ∧ q.1 < n ∧ (q.2 < a ∨ (q.2 = a ∧ q.1 < p)))
theorem memM.step {n p a : Nat} {V : List (Nat × Nat)} (h : memM n p a V) (ha : 1 ≤ a) (hp : p < n) : memM n (p + 1) a ((p, a) :: V) := by
  refine ⟨List.nodup_cons.mpr ⟨fun z => ?_, h.1⟩, fun q => ?_⟩
  · have := (h.2 _).mp z
    dsimp only at this
    omega
  · rw [List.mem_cons, h.2 q]
    obtain ⟨q1, q2⟩ := q
    rw [Prod.mk.injEq]
    dsimp only
    omega
theorem memM.next {n a : Nat} {V : List (Nat × Nat)} (h : memM n n a V) : memM n 0 (a + 1) V := by
  refine ⟨h.1, fun q => ?_⟩
  rw [h.2 q]
  omega
def WyM (P : Nat → Nat → Prop) (n : Nat) (v : Int32) (x : Int32) : Prop := ∃ (V : List (Nat × Nat)) (x2 x3 x4 x5 : Int32), V.Nodup ∧ (∀ q : Nat × Nat, q ∈ V ↔ (1 ≤ q.2 ∧ q.2 ≤ 20 ∧ q.1 < n)) ∧ Sm P V x2 x3 x4 x5 ∧ x = (if v = 0 then x2 else if v = 1 then x3 else if v = 2 then x4 else x5)
theorem waysM_in {v th : Int32} (hQ : QT G tf op ar) (hw : wOK w r) (hq : QS G 0 L F d sf0) (hN : QN 13 m D H sf0) {a : Nat} (ha : 1 ≤ a) (ha2 : a ≤ 20)
    {K29 : Int32 → Int32 → Int32 → Int32 → Int32 → Int32 → (Nat → Int32) → (Nat → Int32) → (Nat → Int32) → (Nat → Int32) → Option (Int32 × Int32 × (Nat → Int32) × (Nat → Int32) × (Nat → Int32) × (Nat → Int32))}
    (hK : ∀ (x2 x3 x4 x5 : Int32) (fa pl sf lk : Nat → Int32) (V : List (Nat × Nat)), memM G.1 0 (a + 1) V → Sm (wy G w r F d L m D H) V x2 x3 x4 x5 → (∀ k, k < 1008 → sf k = sf0 k) → OK (K29 x2 x3 x4 x5 (nI (a + 1)) th fa pl sf lk) (fun R => WyM (wy G w r F d L m D H) G.1 v R.1 ∧ ∀ k, k < 1008 → R.2.2.2.2.1 k = sf0 k)) :
    ∀ (c p fu : Nat) (x2 x3 x4 x5 : Int32) (fa pl sf lk : Nat → Int32) (V : List (Nat × Nat)), p + c = G.1 → c < fu → memM G.1 p a V → Sm (wy G w r F d L m D H) V x2 x3 x4 x5 → (∀ k, k < 1008 → sf k = sf0 k) →
      OK (m_X12_ways_39 tf op ar (nI w) (nI r) v K29 fu x2 x3 x4 x5 (nI a) (nI p) th fa pl sf lk) (fun R => WyM (wy G w r F d L m D H) G.1 v R.1 ∧ ∀ k, k < 1008 → R.2.2.2.2.1 k = sf0 k)
  | 0, p, fu + 1, x2, x3, x4, x5, fa, pl, sf, lk, V, hc, _, hV, hS, hs => by
    have hn := hQ.1.1
    have : p = G.1 := by omega
    subst this
    rw [m_X12_ways_39, q_persons, hQ.2.1, nI_1]
    exact OK.eq rfl (OK.pos (nI_le (by omega) (by omega)) (hK _ _ _ _ _ _ _ _ V hV.next hS hs))
  | c + 1, p, fu + 1, x2, x3, x4, x5, fa, pl, sf, lk, V, hc, hf', hV, hS, hs => by
    have hn := hQ.1.1
    have hq' : QS G 0 L F d sf := hq.same hQ.1 (fun k _ hk => hs k (by omega))
    have hN' : QN 13 m D H sf := hN.same (by omega) hs
    rw [m_X12_ways_39, q_persons, hQ.2.1]
    refine OK.eq rfl (OK.neg (nI_ge (by omega) (by omega)) (OK.bd (q_seen hQ hw hq' hN' (show p < G.1 by omega)) (fun R h2 => ?_)))
    rw [nI_1]
    have hs2 : ∀ k, k < 1008 → R.2.2.2.1 k = sf0 k := fun k hk => (h2.2 k hk).trans (hs k hk)
    have go := fun (x2 x3 x4 x5 : Int32) hS => waysM_in hQ hw hq hN ha ha2 hK c (p + 1) fu x2 x3 x4 x5 R.2.1 R.2.2.1 R.2.2.2.1 R.2.2.2.2 ((p, a) :: V) (by omega) (by omega) (hV.step ha (by omega)) hS hs2
    refine OK.ite (fun e => ?_) (fun e => ?_)
    · exact go _ _ _ _ (hS.no (fun z => by have := h2.1.one z; rw [e] at this; exact absurd this (by decide)))
    · have hP : wy G w r F d L m D H p a := h2.1.elim (fun z => z.1) (fun z => absurd z.2 e)
      have hS2 := hS.yesM hP (by omega) ha2 (fun q hq => by have := (hV.2 q).mp hq; omega)
      refine OK.ite (fun e2 => ?_) (fun e2 => ?_)
      · rw [if_pos e2] at hS2; exact go _ _ _ _ hS2
      · rw [if_neg e2] at hS2; exact go _ _ _ _ hS2
theorem waysM_out {v th : Int32} (hQ : QT G tf op ar) (hw : wOK w r) (hq : QS G 0 L F d sf0) (hN : QN 13 m D H sf0) :
    ∀ (c a fu : Nat) (x2 x3 x4 x5 : Int32) (fa pl sf lk : Nat → Int32) (V : List (Nat × Nat)), a + c = 21 → 1 ≤ a → c < fu → memM G.1 0 a V → Sm (wy G w r F d L m D H) V x2 x3 x4 x5 → (∀ k, k < 1008 → sf k = sf0 k) →
      OK (m_X12_ways_29 tf op ar (nI w) (nI r) v fu x2 x3 x4 x5 (nI a) th fa pl sf lk) (fun R => WyM (wy G w r F d L m D H) G.1 v R.1 ∧ ∀ k, k < 1008 → R.2.2.2.2.1 k = sf0 k)
  | 0, a, fu + 1, x2, x3, x4, x5, fa, pl, sf, lk, V, hc, _, _, hV, hS, hs => by
    have : a = 21 := by omega
    subst this
    rw [m_X12_ways_29]
    have fin : ∀ X : Int32, X = (if v = 0 then x2 else if v = 1 then x3 else if v = 2 then x4 else x5) → WyM (wy G w r F d L m D H) G.1 v X := fun X hX => ⟨V, x2, x3, x4, x5, hV.1, fun q => by rw [hV.2 q]; omega, hS, hX⟩
    refine OK.pos (by decide) ?_
    refine OK.ite (fun e => OK.ret ⟨fin _ (by rw [if_pos e]), hs⟩) (fun e => OK.ite (fun e2 => OK.ret ⟨fin _ (by rw [if_neg e, if_pos e2]), hs⟩) (fun e2 => OK.ite (fun e3 => OK.ret ⟨fin _ (by rw [if_neg e, if_neg e2, if_pos e3]), hs⟩) (fun e3 => OK.ret ⟨fin _ (by rw [if_neg e, if_neg e2, if_neg e3]), hs⟩)))
  | c + 1, a, fu + 1, x2, x3, x4, x5, fa, pl, sf, lk, V, hc, ha, hf', hV, hS, hs => by
    have hFU := FU_ge
    have hn := hQ.1.1
    rw [m_X12_ways_29]
    refine OK.neg (nI_nlt (a := 20) (by omega) (by omega)) ?_
    exact waysM_in hQ hw hq hN ha (by omega) (fun x2 x3 x4 x5 fa pl sf lk V hV hS hs => waysM_out hQ hw hq hN c (a + 1) fu x2 x3 x4 x5 fa pl sf lk V (by omega) (by omega) (by omega) hV hS hs) G.1 0 FU x2 x3 x4 x5 fa pl sf lk V (by omega) (by omega) hV hS hs
theorem l_ways {here : Nat} {tv : Value} {aw ad af adt : Int32} (hT : CT G kf st size ps mast) (hQ : QT G tf op ar) (hw : wOK w r) (h : NW G lf ff dt sf) (hN : CN m D H df hf mv) (hM : QN 13 m D H sf) (v : Int32) :
    OT (m_X11_ways df hf mv lf ff dt lf0 ff0 adt nx tv aw ad af here kf st u size ps mast (nI w) (nI r) v) (m_X12_ways tf op ar fa pl sf (nI w) (nI r) lk v) (fun R R' => R.1 = R'.1 ∧ ∀ k, k < 1008 → R'.2.2.2.2.1 k = sf k) := by
  have hFU := FU_ge
  have hn := hT.1.1
  obtain ⟨L, F, d, h1, h2⟩ := h
  have goC := waysC_out (here := here) (v := v) hT hw h1 hN G.1 0 FU 0 0 (-1) (-1) tv aw ad af adt lf0 ff0 nx u [] (by omega) (by omega) ⟨List.nodup_nil, fun q => ⟨fun z => (by cases z), fun z => (by omega)⟩⟩ Sm.nil
  have goM := waysM_out (v := v) (th := 0) hQ hw h2 hM 20 1 FU 0 0 (-1) (-1) fa pl sf lk [] (by omega) (by omega) (by omega) ⟨List.nodup_nil, fun q => ⟨fun z => (by cases z), fun z => (by omega)⟩⟩ Sm.nil (fun _ _ => rfl)
  unfold m_X11_ways m_X12_ways
  rcases w_rng v 0 3 (by omega) (by omega) with ⟨e1, e2⟩ | ⟨j, hj, hj', rfl, e1, e2⟩
  · refine OT.eqR e2 (OT.posR rfl ?_)
    refine OT.of goC (OK.ret (P := fun R => R.1 = -1 ∧ ∀ k, k < 1008 → R.2.2.2.2.1 k = sf k) ⟨rfl, fun _ _ => rfl⟩) (fun a b ha hb => ⟨?_, hb.2⟩)
    obtain ⟨V, x2, x3, x4, x5, -, -, -, e⟩ := ha
    have hz : ∀ j : Nat, j ≤ 3 → ¬ v = nI j := fun j hj => w_out (by omega) e1 (by omega) hj
    rw [e, hb.1]
    unfold sel4
    rw [if_neg (show ¬ v = 0 from hz 0 (by omega)), if_neg (show ¬ v = 1 from hz 1 (by omega)), if_neg (show ¬ v = 2 from hz 2 (by omega)), if_neg (show ¬ v = 3 from hz 3 (by omega))]
  · refine OT.eqR e2 (OT.negR (by decide) ?_)
    refine OT.of goC goM (fun a b ha hb => ⟨?_, hb.2⟩)
    obtain ⟨V, x2, x3, x4, x5, n1, m1, s1, e⟩ := ha
    obtain ⟨⟨V', y2, y3, y4, y5, n2, m2, s2, e'⟩, -⟩ := hb
    obtain ⟨rfl, rfl, rfl, rfl⟩ := s1.uniq s2 n1 n2 (fun q => (m1 q).trans (m2 q).symm)
    rw [e, e']
    unfold sel4
    rcases (show j = 0 ∨ j = 1 ∨ j = 2 ∨ j = 3 by omega) with rfl | rfl | rfl | rfl
    · rw [if_pos (show nI 0 = 0 from rfl), if_pos (show nI 0 = 0 from rfl)]
    · rw [if_neg (show ¬ nI 1 = 0 by decide), if_pos (show nI 1 = 1 from rfl), if_neg (show ¬ nI 1 = 0 by decide), if_pos (show nI 1 = 1 from rfl)]
    · rw [if_neg (show ¬ nI 2 = 0 by decide), if_neg (show ¬ nI 2 = 1 by decide), if_pos (show nI 2 = 2 from rfl), if_neg (show ¬ nI 2 = 0 by decide), if_neg (show ¬ nI 2 = 1 by decide), if_pos (show nI 2 = 2 from rfl)]
    · rw [if_neg (show ¬ nI 3 = 0 by decide), if_neg (show ¬ nI 3 = 1 by decide), if_neg (show ¬ nI 3 = 2 by decide), if_pos (show nI 3 = 3 from rfl), if_neg (show ¬ nI 3 = 0 by decide), if_neg (show ¬ nI 3 = 1 by decide), if_neg (show ¬ nI 3 = 2 by decide)]
end WAYS
