/-! PURE: chance -/
theorem l_toInt {n : Nat} (h : n < 2 ^ 62) : (lN n).toInt = (n : Int) := lg_ofNat_toInt (by omega)
theorem l_div {a b : Nat} (ha : a < 2 ^ 62) (hb : b < 2 ^ 62) : lN a / lN b = lN (a / b) := by
  have hq : a / b < 2 ^ 62 := Nat.lt_of_le_of_lt (Nat.div_le_self a b) ha
  refine Int64.toInt_inj.mp ?_
  rw [Int64.toInt_div, l_toInt ha, l_toInt hb, l_toInt hq]
  rw [show ((a : Int).tdiv (b : Int)) = ((a / b : Nat) : Int) from rfl]
  generalize a / b = x at hq ⊢
  rw [Int.bmod_eq_of_le] <;> omega
theorem l_ne0 {n : Nat} (h0 : 0 < n) (h : n < 2 ^ 62) : ¬ lN n = 0 := by
  intro z
  have : (lN n).toInt = (0 : Int64).toInt := by rw [z]
  rw [l_toInt h] at this
  have e : (0 : Int64).toInt = 0 := by decide
  omega
def qN (o S i : Nat) : Nat := if S.testBit i then o else 10 - o
def prN (o S : Nat) : Nat → Nat
  | 0 => 1
  | i + 1 => prN o S i * qN o S i
theorem qN_le {o S i : Nat} (h : o ≤ 10) : qN o S i ≤ 10 := by unfold qN; split <;> omega
theorem prN_le {o S : Nat} (h : o ≤ 10) : ∀ i, prN o S i ≤ 10 ^ i
  | 0 => Nat.le_refl _
  | i + 1 => by
    show prN o S i * qN o S i ≤ 10 ^ (i + 1)
    rw [Nat.pow_succ]
    exact Nat.mul_le_mul (prN_le h i) (qN_le h)
theorem pr6 {o S i : Nat} (h : o ≤ 10) (hi : i ≤ 6) : prN o S i * 10 ^ (6 - i) ≤ 1000000 := by
  have h1 : prN o S i * 10 ^ (6 - i) ≤ 10 ^ i * 10 ^ (6 - i) := Nat.mul_le_mul_right _ (prN_le h i)
  rw [← Nat.pow_add, show i + (6 - i) = 6 by omega] at h1
  exact h1
theorem b_holds6 : ∀ F : Nat, F < 64 → ∀ i : Nat, i < 6 → m_X11_holds (nI F) (nI i) = some (if F.testBit i then 1 else 0) := b_holds
theorem likely_loop {S N o : Nat} (hS : S < 64) (hN : N ≤ 6) (ho : o ≤ 10) : ∀ (c i fu : Nat), i + c = N → c < fu → m_X11_likelihood_7 (nI S) (nI N) (nI o) fu (nI (prN o S i * 10 ^ (6 - i))) (nI i) = some (nI (prN o S N * 10 ^ (6 - N)))
  | 0, i, fu + 1, hc, _ => by
    have : i = N := by omega
    subst this
    rw [m_X11_likelihood_7, if_pos (nI_le (by omega) (by omega))]
  | c + 1, i, fu + 1, hc, hf => by
    have ih := likely_loop hS hN ho c (i + 1) fu (by omega) (by omega)
    have hb := pr6 (S := S) (i := i) ho (by omega)
    have hq := qN_le (S := S) (i := i) ho
    have e : prN o S (i + 1) * 10 ^ (6 - (i + 1)) = prN o S i * 10 ^ (6 - i) * qN o S i / 10 := by
      show prN o S i * qN o S i * 10 ^ (6 - (i + 1)) = _
      rw [show 6 - i = (6 - (i + 1)) + 1 by omega, Nat.pow_succ, show prN o S i * (10 ^ (6 - (i + 1)) * 10) * qN o S i = (prN o S i * qN o S i * 10 ^ (6 - (i + 1))) * 10 by ac_rfl, Nat.mul_div_cancel _ (by omega)]
    have hx : prN o S i * 10 ^ (6 - i) * qN o S i ≤ 10000000 := by
      have := Nat.mul_le_mul hb hq
      omega
    have st : ∀ q : Nat, q = qN o S i → nI (prN o S i * 10 ^ (6 - i)) * nI q / 10 = nI (prN o S (i + 1) * 10 ^ (6 - (i + 1))) := by
      intro q hq'
      rw [pn_mul, hq', e]
      exact pn_div (b := 10) (by omega) (by omega)
    rw [m_X11_likelihood_7, if_neg (nI_ge (by omega) (by omega)), b_holds S hS i (by omega), Option.bind_some, nI_1, show (10 : Int32) - nI o = nI (10 - o) from pn_sub (a := 10) ho]
    by_cases hb' : S.testBit i = true
    · rw [if_pos hb', if_neg (by decide), st o (by unfold qN; rw [if_pos hb'])]; exact ih
    · rw [if_neg hb', if_pos rfl, st (10 - o) (by unfold qN; rw [if_neg hb'])]; exact ih
theorem likely {S N o : Nat} (hS : S < 64) (hN : N ≤ 6) (ho : o ≤ 10) : m_X11_likelihood (nI S) (nI N) (nI o) = some (nI (prN o S N * 10 ^ (6 - N))) := by
  have hFU := FU_ge
  unfold m_X11_likelihood
  rw [show (1000000 : Int32) = nI (prN o S 0 * 10 ^ (6 - 0)) from congrArg nI (show 1000000 = 1 * 10 ^ 6 by decide)]
  exact likely_loop hS hN ho N 0 FU (by omega) (by omega)
section CHANCE
variable {G : Gm} {w r : Nat} {sf0 kf st tf op ar lf ff sf lf0 ff0 nx u fa pl lk df hf : Nat → Int32} {size ps mast wv rv fl dt mv : Int32} {L F D H : Nat → Nat} {d m : Nat}
theorem teeth_loop {lf1 ff1 : Nat → Int32} {dt1 w1 r1 h th : Int32} {x5 x7 : Int64} (hT : CT G kf st size ps mast) (hQ : QT G tf op ar) (hw : wOK w r) {p S N o : Nat} (hp : p < G.1) (hS : S < 64) (hN : N ≤ 6) (ho : o ≤ 10) {K78 : Int64 → Int64 → Int32 → Int32 → (Nat → Int32) → (Nat → Int32) → (Nat → Int32) → (Nat → Int32) → Option (Int32 × Int32 × (Nat → Int32) × (Nat → Int32) × (Nat → Int32) × (Nat → Int32))} :
    ∀ (c i fu fv : Nat) (fl dt : Int32) (lf nx u fa pl sf lk : Nat → Int32), i + c = N → c < fu → c < fv → BT G w r sf0 wv rv fl dt lf ff sf →
      ∃ R fa' pl' sf' lk', m_X11_flagByTeeth_21 lf1 ff1 dt1 kf st size ps mast w1 r1 (nI p) (nI S) (nI N) fu (nI i) wv rv fl dt lf ff nx u = some R ∧ m_X12_chance_96 tf op ar (nI w) (nI r) (nI p) h (nI N) (nI o) K78 fv x5 x7 (nI S) (lN (prN o S i)) (nI i) th fa pl sf lk = (if h ≤ R.1 then K78 x5 x7 (nI (S + 1)) th fa' pl' sf' lk' else K78 x5 (x7 + lN (prN o S N)) (nI (S + 1)) th fa' pl' sf' lk') ∧ ∀ k, k < 1008 → sf' k = sf0 k
  | 0, i, fu + 1, fv + 1, fl, dt, lf, nx, u, fa, pl, sf, lk, hc, _, _, hB => by
    have : i = N := by omega
    subst this
    refine ⟨_, fa, pl, sf, lk, by rw [m_X11_flagByTeeth_21, if_pos (nI_le (Nat.le_refl _) (by omega))], ?_, hB.fr⟩
    rw [m_X12_chance_96, if_pos (nI_le (Nat.le_refl _) (by omega)), b_hi hQ hw hB, Option.bind_some, nI_1, Int64.add_zero]
  | c + 1, i, fu + 1, fv + 1, fl, dt, lf, nx, u, fa, pl, sf, lk, hc, hf, hf', hB => by
    have hi : ¬ nI N ≤ nI i := nI_ge (by omega) (by omega)
    rw [m_X11_flagByTeeth_21, m_X12_chance_96, if_neg hi, if_neg hi, b_holds S hS i (by omega), Option.bind_some]
    unfold m_X12_chance_118 m_X12_chance_139 m_X12_chance_156 m_X11_flagByTeeth_45
    have go := fun (fl dt : Int32) (lf nx u fa pl sf lk : Nat → Int32) hB => teeth_loop (lf1 := lf1) (ff1 := ff1) (dt1 := dt1) (w1 := w1) (r1 := r1) (h := h) (th := th) (x5 := x5) (x7 := x7) hT hQ hw hp hS hN ho (K78 := K78) c (i + 1) fu fv fl dt lf nx u fa pl sf lk (by omega) (by omega) (by omega) hB
    have es : prN o S (i + 1) = prN o S i * qN o S i := rfl
    by_cases e : S.testBit i = true
    · have eq : qN o S i = o := by unfold qN; rw [if_pos e]
      rw [eq] at es
      rw [if_pos e, if_neg (show ¬ (1 : Int32) = 0 by decide), if_pos ((b_shr1 S hS i (by omega)).mpr e), if_neg (show ¬ (1 : Int32) = 0 by decide), if_neg (show ¬ (1 : Int32) = 0 by decide), nI_l (show o < 2 ^ 31 by omega), lN_mul, ← es]
      obtain ⟨R1, R2, e1, e2, hB2⟩ := b_shift (m := 3) hT hw hB hp
      rw [e1, e2, Option.bind_some, Option.bind_some]
      obtain ⟨R3, R4, e3, e4, -, hB4⟩ := b_day (nx := nx) (u := u) (fa := fa) (pl := pl) (lk := lk) hT hQ hw hB2
      rw [e3, e4, Option.bind_some, Option.bind_some, nI_1]
      exact go _ _ _ _ _ _ _ _ _ hB4
    · have eq : qN o S i = 10 - o := by unfold qN; rw [if_neg e]
      rw [eq] at es
      rw [if_neg e, if_pos rfl, if_neg (fun z => e ((b_shr1 S hS i (by omega)).mp z)), if_pos rfl, if_pos rfl, show (10 : Int32) - nI o = nI (10 - o) from pn_sub (a := 10) ho, nI_l (show 10 - o < 2 ^ 31 by omega), lN_mul, ← es]
      obtain ⟨R3, R4, e3, e4, -, hB4⟩ := b_day (nx := nx) (u := u) (fa := fa) (pl := pl) (lk := lk) hT hQ hw hB
      rw [e3, e4, Option.bind_some, Option.bind_some, nI_1]
      exact go _ _ _ _ _ _ _ _ _ hB4
theorem chance_loop {here : Nat} {h th : Int32} (hT : CT G kf st size ps mast) (hQ : QT G tf op ar) (hw : wOK w r) (hW : NW G lf ff dt sf0) {p N o : Nat} (hp : p < G.1) (hN1 : 1 ≤ N) (hN : N ≤ 6) (ho : o ≤ 10) :
    ∀ (c S fu fv X : Nat) (tv : Value) (aw ad af adt : Int32) (lf0 ff0 nx u fa pl sf lk : Nat → Int32), S + c = 2 ^ N → c < fu → c < fv → X ≤ S * 1000000 → (∀ k, k < 1008 → sf k = sf0 k) →
      OT (m_X11_chance_50 lf ff dt here kf st size ps mast (nI w) (nI r) (nI p) h (nI N) (nI o) fu (nI (X * 10 ^ (6 - N))) (nI S) tv aw ad af adt lf0 ff0 nx u) (m_X12_chance_78 tf op ar (nI w) (nI r) (nI p) h (nI N) (nI o) fv (lN (10 ^ N)) (lN X) (nI S) th fa pl sf lk) (fun R R' => R.1 = R'.1 ∧ ∀ k, k < 1008 → R'.2.2.2.2.1 k = sf0 k)
  | 0, S, fu + 1, fv + 1, X, tv, aw, ad, af, adt, lf0, ff0, nx, u, fa, pl, sf, lk, hc, _, _, hX, hs => by
    have h64 : 2 ^ N ≤ 64 := Nat.pow_le_pow_right (n := 2) (by omega) (show N ≤ 6 from hN)
    have h10 : 10 ^ N ≤ 10 ^ 6 := Nat.pow_le_pow_right (n := 10) (by omega) hN
    have h10' : 0 < 10 ^ N := Nat.pow_pos (by omega)
    have hXX : X * 1000000 < 2 ^ 62 := by omega
    rw [m_X11_chance_50, m_X12_chance_78, b_bit6 N hN]
    refine OT.posL (nI_le (by omega) (by omega)) (OT.posR (nI_le (by omega) (by omega)) (OT.posR (l_ne0 h10' (by omega)) (OT.ret ⟨?_, hs⟩)))
    show nI (X * 10 ^ (6 - N)) = (lN X * lN 1000000 / lN (10 ^ N)).toInt32
    rw [lN_mul, l_div hXX (by omega), lN_i]
    congr 1
    rw [show (1000000 : Nat) = 10 ^ (6 - N) * 10 ^ N by rw [← Nat.pow_add, show 6 - N + N = 6 by omega], ← Nat.mul_assoc, Nat.mul_div_cancel _ h10']
  | c + 1, S, fu + 1, fv + 1, X, tv, aw, ad, af, adt, lf0, ff0, nx, u, fa, pl, sf, lk, hc, hf, hf', hX, hs => by
    have hFU := FU_ge
    have h64 : 2 ^ N ≤ 64 := Nat.pow_le_pow_right (n := 2) (by omega) (show N ≤ 6 from hN)
    have hS : S < 64 := by omega
    have hW' := hW.fr hT.1 hs
    have hb := pr6 (S := S) (i := N) ho hN
    have hpr : prN o S N ≤ 1000000 := by
      have h1 := prN_le (S := S) ho N
      have h10 : 10 ^ N ≤ 10 ^ 6 := Nat.pow_le_pow_right (n := 10) (by omega) hN
      omega
    rw [m_X11_chance_50, m_X12_chance_78, b_bit6 N hN]
    refine OT.negL (nI_ge (by omega) (by omega)) (OT.negR (nI_ge (by omega) (by omega)) (OT.eqL (likely hS hN ho) ?_))
    obtain ⟨R1, R2, e1, e2, hB⟩ := b_start (lf0 := lf0) (ff0 := ff0) hT hw hW'
    obtain ⟨R3, fa', pl', sf', lk', e3, e4, hs4⟩ := teeth_loop (lf1 := lf) (ff1 := ff) (dt1 := dt) (w1 := nI w) (r1 := nI r) (h := h) (th := th) (x5 := lN (10 ^ N)) (x7 := lN X) hT hQ hw hp hS hN ho (K78 := m_X12_chance_78 tf op ar (nI w) (nI r) (nI p) h (nI N) (nI o) fv) N 0 FU FU R1.2.2.1 R1.2.2.2.1 R1.2.2.2.2.1 nx u fa pl R2 lk (by omega) (by omega) (by omega) hB
    have hs' : ∀ k, k < 1008 → sf' k = sf0 k := fun k hk => (hs4 k hk).trans (hs k hk)
    rw [e2, Option.bind_some, show m_X12_chance_96 tf op ar (nI w) (nI r) (nI p) h (nI N) (nI o) (m_X12_chance_78 tf op ar (nI w) (nI r) (nI p) h (nI N) (nI o) fv) FU (lN (10 ^ N)) (lN X) (nI S) 1 0 th fa pl R2 lk = _ from e4, lN_add, nI_1]
    have go := fun (X : Nat) (tv : Value) (aw ad af adt : Int32) (lf0 ff0 nx u : Nat → Int32) hX => chance_loop (here := here) (h := h) (th := th) hT hQ hw hW hp hN1 hN ho c (S + 1) fu fv X tv aw ad af adt lf0 ff0 nx u fa' pl' sf' lk' (by omega) (by omega) (by omega) hX hs'
    by_cases hz : prN o S N * 10 ^ (6 - N) = 0
    · have hz2 : prN o S N = 0 := by
        rcases Nat.mul_eq_zero.mp hz with z | z
        · exact z
        · exact absurd z (by have : 0 < 10 ^ (6 - N) := Nat.pow_pos (by omega); omega)
      rw [hz, hz2, Nat.add_zero]
      refine OT.posL (by decide) ?_
      exact OT.itR (fun _ => go X _ _ _ _ _ _ _ _ _ (Nat.le_trans hX (Nat.mul_le_mul_right _ (Nat.le_succ S)))) (fun _ => go X _ _ _ _ _ _ _ _ _ (Nat.le_trans hX (Nat.mul_le_mul_right _ (Nat.le_succ S))))
    · unfold m_X11_flagByTeeth
      rw [e1, Option.bind_some]
      refine OT.negL (nI_nle (by omega) (by omega)) (OT.eqL e3 (OT.ite Iff.rfl (fun _ => go X _ _ _ _ _ _ _ _ _ (Nat.le_trans hX (Nat.mul_le_mul_right _ (Nat.le_succ S)))) (fun _ => ?_)))
      rw [nI_add, ← Nat.add_mul]
      exact go _ _ _ _ _ _ _ _ _ _ (by rw [Nat.succ_mul]; exact Nat.add_le_add hX hpr)
theorem pow_loop {q1 q2 q4 : Int32} {x7 : Int64} {N : Nat} (hN : N ≤ 6) : ∀ (c i fu : Nat) (th : Int32), i + c = N → c < fu → m_X12_chance_55 tf op ar wv rv q1 q2 (nI N) q4 fu (lN (10 ^ i)) x7 (nI i) th fa pl sf lk = m_X12_chance_78 tf op ar wv rv q1 q2 (nI N) q4 FU (lN (10 ^ N)) x7 0 th fa pl sf lk
  | 0, i, fu + 1, th, hc, _ => by
    have : i = N := by omega
    subst this
    rw [m_X12_chance_55, if_pos (nI_le (by omega) (by omega))]
  | c + 1, i, fu + 1, th, hc, hf => by
    rw [m_X12_chance_55, if_neg (nI_ge (by omega) (by omega)), nI_1, show lN (10 ^ i) * 10 = lN (10 ^ (i + 1)) by rw [Nat.pow_succ, ← lN_mul]; rfl]
    exact pow_loop hN c (i + 1) fu th (by omega) (by omega)
theorem l_chance {here : Nat} {tv : Value} {aw ad af adt : Int32} (hT : CT G kf st size ps mast) (hQ : QT G tf op ar) (hw : wOK w r) (hW : NW G lf ff dt sf) (v h n o : Int32) :
    OT (m_X11_chance lf ff dt lf0 ff0 adt nx tv aw ad af here kf st u size ps mast (nI w) (nI r) v h n o) (m_X12_chance tf op ar fa pl sf (nI w) (nI r) lk v h n o) (fun R R' => R.1 = R'.1 ∧ ∀ k, k < 1008 → R'.2.2.2.2.1 k = sf k) := by
  have hFU := FU_ge
  unfold m_X11_chance m_X12_chance
  rw [hT.2.1]
  rcases w_has hQ.1.1 hQ.2.1 v with ⟨e1, e2⟩ | ⟨p, hp, rfl, e1, e2⟩
  · exact OT.eqL e1 (OT.eqR e2 (OT.posL rfl (OT.posR rfl (OT.ret ⟨rfl, fun _ _ => rfl⟩))))
  refine OT.eqL e1 (OT.eqR e2 (OT.negL (by decide) (OT.negR (by decide) ?_)))
  rcases w_rng h 1 99 (by omega) (by omega) with ⟨e1, e2⟩ | ⟨j, hj, hj', rfl, e1, e2⟩
  · exact OT.eqL e1 (OT.eqR e2 (OT.posL rfl (OT.posR rfl (OT.ret ⟨rfl, fun _ _ => rfl⟩))))
  refine OT.eqL e1 (OT.eqR e2 (OT.negL (by decide) (OT.negR (by decide) ?_)))
  rcases w_rng n 1 6 (by omega) (by omega) with ⟨e1, e2⟩ | ⟨N, hN1, hN, rfl, e1, e2⟩
  · exact OT.eqL e1 (OT.eqR e2 (OT.posL rfl (OT.posR rfl (OT.ret ⟨rfl, fun _ _ => rfl⟩))))
  refine OT.eqL e1 (OT.eqR e2 (OT.negL (by decide) (OT.negR (by decide) ?_)))
  rcases w_rng o 0 10 (by omega) (by omega) with ⟨e1, e2⟩ | ⟨O, hO1, hO, rfl, e1, e2⟩
  · exact OT.eqL e1 (OT.eqR e2 (OT.posL rfl (OT.posR rfl (OT.ret ⟨rfl, fun _ _ => rfl⟩))))
  refine OT.eqL e1 (OT.eqR e2 (OT.negL (by decide) (OT.negR (by decide) ?_)))
  rw [show m_X12_chance_55 tf op ar (nI w) (nI r) (nI p) (nI j) (nI N) (nI O) FU 1 0 0 0 fa pl sf lk = _ from pow_loop hN N 0 FU 0 (by omega) (by omega), ← hT.2.1]
  have h64 : 2 ^ N ≤ 64 := Nat.pow_le_pow_right (n := 2) (by omega) (show N ≤ 6 from hN)
  have go := chance_loop (here := here) (h := nI j) (th := 0) hT hQ hw hW hp hN1 hN hO (2 ^ N) 0 FU FU 0 tv aw ad af adt lf0 ff0 nx u fa pl sf lk (by omega) (by omega) (by omega) (Nat.zero_le _) (fun _ _ => rfl)
  rw [Nat.zero_mul] at go
  exact go
end CHANCE
