/-! PURE: rules, ways -/
theorem ru_nums : ∀ k : Nat, k < 60 → 1 + nI k / 3 = nI (1 + k / 3) ∧ nI k - nI k / 3 * 3 = nI (k % 3) := by decide +kernel
theorem w_out {v : Int32} {a b : Nat} (hb : b < 2 ^ 31) (h : m_X11_within v (nI a) (nI b) = some 0) {j : Nat} (h1 : a ≤ j) (h2 : j ≤ b) : ¬ v = nI j := by
  rintro rfl
  unfold m_X11_within at h
  rw [if_neg (nI_nlt h1 (by omega)), if_neg (nI_nlt h2 hb)] at h
  exact absurd (Option.some.inj h) (by decide)
/-- the first rule that fits, on both sides -/
def RuR (k : Nat) (x2 x3 x4 y3 : Int32) : Prop := (y3 = -1 ∧ x2 = 0 ∧ x3 = -1 ∧ x4 = -1) ∨ ∃ j c : Nat, j < k ∧ 1 ≤ c ∧ c ≤ k ∧ y3 = nI j ∧ x2 = nI c ∧ x3 = nI (1 + j / 3) ∧ x4 = nI (j % 3)
section RULES
variable {G : Gm} {w r : Nat} {sf0 kf st tf op ar lf ff sf lf0 ff0 nx u fa pl lk df hf : Nat → Int32} {size ps mast wv rv fl dt mv : Int32} {L F D H : Nat → Nat} {d m : Nat}
theorem meas_loop (hQ : QT G tf op ar) (hw : wOK w r) (hq : QS G 0 L F d sf0) (hN : QN 30 m D H sf0) {q1 q2 : Int32} :
    ∀ (c i fu : Nat) (fa pl sf lk : Nat → Int32), i + c = m → c < fu → (∀ j, j < i → rnH G w r F d L (D j) = H j) → (∀ k, k < 1008 → sf k = sf0 k) →
      OK (m_X12_isMeasured_15 tf op ar q1 q2 fu 1 (nI i) (nI w) (nI r) fa pl sf lk) (fun R => Tells (AllP (rnH G w r F d L) m D H) R.1 ∧ R.2.1 = tf 2 ∧ R.2.2.1 = tf 3 ∧ ∀ k, k < 1008 → R.2.2.2.2.2.1 k = sf0 k)
  | 0, i, fu + 1, fa, pl, sf, lk, hc, _, hA, hs => by
    have hm := hN.1.1
    have : i = m := by omega
    subst this
    rw [m_X12_isMeasured_15, show sf (30 : Int32).toNatClampNeg = nI i from (hs 30 (by omega)).trans hN.2.1]
    unfold m_X12_isMeasured_79
    exact OK.pos (nI_le (by omega) (by omega)) (OK.eq rfl (OK.pos (by decide) (OK.ret ⟨Or.inl ⟨hA, rfl⟩, rfl, rfl, hs⟩)))
  | c + 1, i, fu + 1, fa, pl, sf, lk, hc, hf', hA, hs => by
    have hm := hN.1.1
    have hD := hN.1.2 i (by omega)
    have hq' : QS G 0 L F d sf := hq.same hQ.1 (fun k _ hk => hs k (by omega))
    rw [m_X12_isMeasured_15, show sf (30 : Int32).toNatClampNeg = nI m from (hs 30 (by omega)).trans hN.2.1]
    refine OK.neg (nI_ge (by omega) (by omega)) (OK.neg (by decide) (OK.bd (q_tries hQ.1 hq') (fun R1 h1 => ?_)))
    have hs2 : ∀ k, k < 1008 → R1 k = sf0 k := fun k hk => (h1.2 k hk).trans (hs k hk)
    have e1 : (31 : Int32) + 2 * nI i = nI (31 + 2 * i) := nI_ch (b := 31) i rfl
    rw [e1, nI_1 (31 + 2 * i), nI_clamp (show 31 + 2 * i < 2 ^ 31 by omega), nI_clamp (show 31 + 2 * i + 1 < 2 ^ 31 by omega), hs2 (31 + 2 * i) (by omega), show sf0 (31 + 2 * i) = nI (D i) from (hN.2.2 i (by omega)).1]
    refine OK.pos (pn_in2 (by omega) (by omega)) (OK.bd (q_behind hQ hw (by omega) h1.1 hs2) (fun R3 h3 => OK.pos (pn_in2 (by omega) (by omega)) ?_))
    rw [h3.1, h3.2.2 (31 + 2 * i + 1) (by omega), show sf0 (31 + 2 * i + 1) = nI (H i) by rw [show 31 + 2 * i + 1 = 30 + 2 + 2 * i by omega]; exact (hN.2.2 i (by omega)).2, nI_1]
    have hr := rnH_le (w := w) (r := r) (F := F) (d := d) (L := L) (k := D i) hQ.1
    refine OK.ite (fun e => ?_) (fun e => ?_)
    · have e' := (nI_eq (by omega) (by omega)).mp e
      exact meas_loop hQ hw hq hN c (i + 1) fu _ _ _ _ (by omega) (by omega) (fun j hj => by
        by_cases z : j = i
        · rw [z]; exact e'
        · exact hA j (by omega)) h3.2.2
    · obtain ⟨f, rfl⟩ : ∃ f, fu = f + 1 := ⟨fu - 1, by omega⟩
      have hn : ¬ AllP (rnH G w r F d L) m D H := fun z => e (by rw [z i (by omega)])
      rw [m_X12_isMeasured_15]
      unfold m_X12_isMeasured_79
      exact OK.ite (fun _ => OK.eq rfl (OK.pos (by decide) (OK.ret ⟨Or.inr ⟨hn, rfl⟩, rfl, rfl, h3.2.2⟩))) (fun _ => OK.pos rfl (OK.eq rfl (OK.pos (by decide) (OK.ret ⟨Or.inr ⟨hn, rfl⟩, rfl, rfl, h3.2.2⟩))))
theorem q_meas (hQ : QT G tf op ar) (hw : wOK w r) (hq : QS G 0 L F d sf) (hN : QN 30 m D H sf) : OK (m_X12_isMeasured tf op ar fa pl sf lk (nI w) (nI r)) (fun R => Tells (AllP (rnH G w r F d L) m D H) R.1 ∧ R.2.1 = tf 2 ∧ R.2.2.1 = tf 3 ∧ ∀ k, k < 1008 → R.2.2.2.2.2.1 k = sf k) := by
  have hFU := FU_ge
  have hm := hN.1.1
  exact meas_loop hQ hw hq hN m 0 FU fa pl sf lk (by omega) (by omega) (fun j hj => by omega) (fun _ _ => rfl)
/-- what the rules end with -/
def RuE (v q : Int32) (tf sf0 : Nat → Int32) (R : Int32 × Value × Int32 × Int32 × Int32 × Int32 × (Nat → Int32) × (Nat → Int32) × (Nat → Int32) × (Nat → Int32)) (R' : Int32 × Int32 × Int32 × Int32 × (Nat → Int32) × (Nat → Int32) × (Nat → Int32) × (Nat → Int32)) : Prop :=
  (∃ x2 x3 x4 y3 : Int32, RuR 60 x2 x3 x4 y3 ∧ R.1 = (if v = 0 then x2 else if v = 1 then x3 else if v = 2 then x4 else -1) ∧ R'.1 = (if q = 0 then x2 else if 0 ≤ y3 then (if q = 1 then 1 + y3 / 3 else y3 - y3 / 3 * 3) else -1)) ∧ R'.2.2.1 = tf 2 ∧ R'.2.2.2.1 = tf 3 ∧ ∀ k, k < 1008 → R'.2.2.2.2.2.2.1 k = sf0 k
theorem rules_in {here : Nat} {v q th : Int32} (hT : CT G kf st size ps mast) (hQ : QT G tf op ar) (h : CS G L F d lf ff dt) (hq : QS G 0 L F d sf0) (hN : CN m D H df hf mv) (hM : QN 30 m D H sf0) {a fv : Nat} (ha : 1 ≤ a) (ha2 : a ≤ 20)
    {K10 : Int32 → Int32 → Int32 → Int32 → Value → Int32 → Int32 → Int32 → Int32 → (Nat → Int32) → (Nat → Int32) → (Nat → Int32) → (Nat → Int32) → Option (Int32 × Value × Int32 × Int32 × Int32 × Int32 × (Nat → Int32) × (Nat → Int32) × (Nat → Int32) × (Nat → Int32))}
    (hK : ∀ (x2 x3 x4 y3 : Int32) (tv : Value) (aw ad af adt : Int32) (lf0 ff0 nx u fa pl sf lk : Nat → Int32), RuR (3 * a) x2 x3 x4 y3 → (∀ k, k < 1008 → sf k = sf0 k) → OT (K10 x2 x3 x4 (nI (a + 1)) tv aw ad af adt lf0 ff0 nx u) (m_X12_rules_23 tf op ar q fv x2 y3 (nI (3 * a)) th (tf 2) (tf 3) fa pl sf lk) (RuE v q tf sf0)) :
    ∀ (c b fu : Nat) (x2 x3 x4 y3 : Int32) (tv : Value) (aw ad af adt : Int32) (lf0 ff0 nx u fa pl sf lk : Nat → Int32), b + c = 3 → c < fu → RuR (3 * (a - 1) + b) x2 x3 x4 y3 → (∀ k, k < 1008 → sf k = sf0 k) →
      OT (m_X11_rules_20 df hf mv lf ff dt here kf st size ps mast v K10 fu x2 x3 x4 (nI a) (nI b) tv aw ad af adt lf0 ff0 nx u) (m_X12_rules_23 tf op ar q (fv + c) x2 y3 (nI (3 * (a - 1) + b)) th (tf 2) (tf 3) fa pl sf lk) (RuE v q tf sf0)
  | 0, b, fu + 1, x2, x3, x4, y3, tv, aw, ad, af, adt, lf0, ff0, nx, u, fa, pl, sf, lk, hc, _, hR, hs => by
    have : b = 3 := by omega
    subst this
    rw [m_X11_rules_20, nI_1]
    rw [show 3 * (a - 1) + 3 = 3 * a by omega] at hR ⊢
    exact OT.posL (by decide) (hK _ _ _ _ _ _ _ _ _ _ _ _ _ _ _ _ _ hR hs)
  | c + 1, b, fu + 1, x2, x3, x4, y3, tv, aw, ad, af, adt, lf0, ff0, nx, u, fa, pl, sf, lk, hc, hf', hR, hs => by
    have hw : wOK a b := ⟨ha, ha2, by omega⟩
    have hq' : QS G 0 L F d sf := hq.same hQ.1 (fun k _ hk => hs k (by omega))
    have hM' : QN 30 m D H sf := hM.same (by omega) hs
    obtain ⟨k, hk⟩ : ∃ k, k = 3 * (a - 1) + b := ⟨_, rfl⟩
    rw [← hk] at hR ⊢
    have n1 := ru_nums k (by omega)
    rw [m_X11_rules_20, show fv + (c + 1) = (fv + c) + 1 from rfl, m_X12_rules_23, n1.1, n1.2, show 1 + k / 3 = a by omega, show k % 3 = b by omega]
    refine OT.negL (nI_nlt (a := 2) (by omega) (by omega)) (OT.negR (nI_ge (b := 60) (by omega) (by omega)) (OT.bdL (c_startBy hT hw h) (fun R1 h1 => OT.bdL (c_bears hT hw hN h1) (fun R2 h2 => OT.bdR (q_meas hQ hw hq' hM') (fun R3 h3 => ?_)))))
    have hs3 : ∀ k, k < 1008 → R3.2.2.2.2.2.1 k = sf0 k := fun k hk => (h3.2.2.2 k hk).trans (hs k hk)
    have eq := h2.same h3.1
    rw [h3.2.1, h3.2.2.1]
    unfold m_X11_rules_69 m_X12_rules_57
    rw [nI_1, nI_1]
    have go := fun (x2 x3 x4 y3 : Int32) hR => rules_in (here := here) hT hQ h hq hN hM ha ha2 hK c (b + 1) fu x2 x3 x4 y3 (.ref here) R1.1 R1.2.1 R2.2.1 R2.2.2.1 R2.2.2.2.1 R1.2.2.2.2.2 R2.2.2.2.2.1 R2.2.2.2.2.2 R3.2.2.2.1 R3.2.2.2.2.1 R3.2.2.2.2.2.1 R3.2.2.2.2.2.2 (by omega) (by omega) hR hs3
    rw [show 3 * (a - 1) + (b + 1) = k + 1 by omega] at go
    by_cases e : R2.1 = 0
    · refine OT.posL e (OT.posR (eq ▸ e) (OT.posR (eq ▸ e) ?_))
      rw [Int32.add_zero]
      refine go _ _ _ _ ?_
      rcases hR with hR | ⟨j, c', h1, h2, h3, h4⟩
      · exact Or.inl hR
      · exact Or.inr ⟨j, c', by omega, h2, by omega, h4⟩
    · refine OT.negL e (OT.negR (eq ▸ e) ?_)
      have hR' := hR
      rcases hR with ⟨rfl, rfl, rfl, rfl⟩ | ⟨j, c', g1, g2, g3, rfl, rfl, rfl, rfl⟩
      · refine OT.posL rfl (OT.posL rfl (OT.negR (eq ▸ e) (OT.negR (by decide) ?_)))
        exact go _ _ _ _ (Or.inr ⟨k, 1, by omega, by omega, by omega, rfl, rfl, by rw [show 1 + k / 3 = a by omega], by rw [show k % 3 = b by omega]⟩)
      · refine OT.negL (nI_ne0 (by omega) (by omega)) (OT.negL (nI_ne0 (by omega) (by omega)) (OT.negR (eq ▸ e) (OT.posR (nI_pos' (by omega)) ?_)))
        rw [nI_1]
        exact go _ _ _ _ (Or.inr ⟨j, c' + 1, by omega, by omega, by omega, rfl, rfl, rfl, rfl⟩)
theorem rules_out {here : Nat} {v q th : Int32} (hT : CT G kf st size ps mast) (hQ : QT G tf op ar) (h : CS G L F d lf ff dt) (hq : QS G 0 L F d sf0) (hN : CN m D H df hf mv) (hM : QN 30 m D H sf0) :
    ∀ (c a fu fv : Nat) (x2 x3 x4 y3 : Int32) (tv : Value) (aw ad af adt : Int32) (lf0 ff0 nx u fa pl sf lk : Nat → Int32), a + c = 21 → 1 ≤ a → c < fu → 3 * c < fv → RuR (3 * (a - 1)) x2 x3 x4 y3 → (∀ k, k < 1008 → sf k = sf0 k) →
      OT (m_X11_rules_10 df hf mv lf ff dt here kf st size ps mast v fu x2 x3 x4 (nI a) tv aw ad af adt lf0 ff0 nx u) (m_X12_rules_23 tf op ar q fv x2 y3 (nI (3 * (a - 1))) th (tf 2) (tf 3) fa pl sf lk) (RuE v q tf sf0)
  | 0, a, fu + 1, fv + 1, x2, x3, x4, y3, tv, aw, ad, af, adt, lf0, ff0, nx, u, fa, pl, sf, lk, hc, _, _, _, hR, hs => by
    have : a = 21 := by omega
    subst this
    rw [m_X11_rules_10, m_X12_rules_23]
    refine OT.posL (by decide) (OT.posR (by decide) ?_)
    have fin : ∀ X Y : Int32, X = (if v = 0 then x2 else if v = 1 then x3 else if v = 2 then x4 else -1) → Y = (if q = 0 then x2 else if 0 ≤ y3 then (if q = 1 then 1 + y3 / 3 else y3 - y3 / 3 * 3) else -1) → RuE v q tf sf0 (X, tv, aw, ad, af, adt, lf0, ff0, nx, u) (Y, th, tf 2, tf 3, fa, pl, sf, lk) :=
      fun X Y h1 h2 => ⟨⟨x2, x3, x4, y3, hR, h1, h2⟩, rfl, rfl, hs⟩
    have kR : ∀ X : Int32, X = (if v = 0 then x2 else if v = 1 then x3 else if v = 2 then x4 else -1) → OT (some (X, tv, aw, ad, af, adt, lf0, ff0, nx, u)) (if q = 0 then (some (x2, th, tf 2, tf 3, fa, pl, sf, lk)) else (if 0 ≤ y3 then (if q = 1 then (some (1 + (y3 / 3), th, tf 2, tf 3, fa, pl, sf, lk)) else (some (y3 - y3 / 3 * 3, th, tf 2, tf 3, fa, pl, sf, lk))) else (some ((-1), th, tf 2, tf 3, fa, pl, sf, lk)))) (RuE v q tf sf0) := by
      intro X hX
      refine OT.itR (fun e => OT.ret (fin _ _ hX (by rw [if_pos e]))) (fun e => OT.itR (fun e2 => OT.itR (fun e3 => OT.ret (fin _ _ hX ?_)) (fun e3 => OT.ret (fin _ _ hX ?_))) (fun e2 => OT.ret (fin _ _ hX ?_)))
      · rw [if_neg e, if_pos e2, if_pos e3]
      · rw [if_neg e, if_pos e2, if_neg e3]
      · rw [if_neg e, if_neg e2]
    refine OT.itL (fun e => kR _ (by rw [if_pos e])) (fun e => OT.itL (fun e2 => kR _ (by rw [if_neg e, if_pos e2])) (fun e2 => OT.itL (fun e3 => kR _ (by rw [if_neg e, if_neg e2, if_pos e3])) (fun e3 => kR _ (by rw [if_neg e, if_neg e2, if_neg e3]))))
  | c + 1, a, fu + 1, fv + 1 + 1 + 1, x2, x3, x4, y3, tv, aw, ad, af, adt, lf0, ff0, nx, u, fa, pl, sf, lk, hc, ha, hf', hf2, hR, hs => by
    have hFU := FU_ge
    rw [m_X11_rules_10]
    refine OT.negL (nI_nlt (a := 20) (by omega) (by omega)) ?_
    exact rules_in hT hQ h hq hN hM ha (by omega) (fun x2 x3 x4 y3 tv aw ad af adt lf0 ff0 nx u fa pl sf lk hR hs => by
      have := rules_out (here := here) (v := v) (q := q) (th := th) hT hQ h hq hN hM c (a + 1) fu fv x2 x3 x4 y3 tv aw ad af adt lf0 ff0 nx u fa pl sf lk (by omega) (by omega) (by omega) (by omega) (by rw [show 3 * (a + 1 - 1) = 3 * a by omega]; exact hR) hs
      rw [show 3 * (a + 1 - 1) = 3 * a by omega] at this
      exact this) 3 0 FU x2 x3 x4 y3 tv aw ad af adt lf0 ff0 nx u fa pl sf lk (by omega) (by omega) hR hs
theorem l_rules {here : Nat} {tv : Value} {aw ad af adt : Int32} (hT : CT G kf st size ps mast) (hQ : QT G tf op ar) (t2 : tf 2 = nI w) (t3 : tf 3 = nI r) (h : NW G lf ff dt sf) (hN : CN m D H df hf mv) (hM : QN 30 m D H sf) (v : Int32) :
    OT (m_X11_rules df hf mv lf ff dt lf0 ff0 adt nx tv aw ad af here kf st u size ps mast v) (m_X12_rules tf op ar fa pl sf (nI w) (nI r) lk v) (fun R R' => R.1 = R'.1 ∧ R'.2.2.1 = nI w ∧ R'.2.2.2.1 = nI r ∧ ∀ k, k < 1008 → R'.2.2.2.2.2.2.1 k = sf k) := by
  have hFU := FU_ge
  obtain ⟨L, F, d, h1, h2⟩ := h
  have go := fun q : Int32 => rules_out (here := here) (v := v) (q := q) (th := 0) hT hQ h1 h2 hN hM 20 1 FU FU 0 (-1) (-1) (-1) tv aw ad af adt lf0 ff0 nx u fa pl sf lk (by omega) (by omega) (by omega) (by omega) (Or.inl ⟨rfl, rfl, rfl, rfl⟩) (fun _ _ => rfl)
  unfold m_X11_rules m_X12_rules
  rcases w_rng v 0 2 (by omega) (by omega) with ⟨e1, e2⟩ | ⟨j, hj, hj', rfl, e1, e2⟩
  · refine OT.eqR e2 (OT.posR rfl ?_)
    obtain ⟨a, b, ea, eb, ⟨⟨x2, x3, x4, y3, -, q1, -⟩, -⟩⟩ := go 0
    refine ⟨a, _, ea, rfl, ?_, rfl, rfl, fun _ _ => rfl⟩
    have hz : ∀ j : Nat, j ≤ 2 → ¬ v = nI j := fun j hj => w_out (by omega) e1 (by omega) hj
    rw [q1, if_neg (show ¬ v = 0 from hz 0 (by omega)), if_neg (show ¬ v = 1 from hz 1 (by omega)), if_neg (show ¬ v = 2 from hz 2 (by omega))]
  · refine OT.eqR e2 (OT.negR (by decide) ?_)
    have := go (nI j)
    rw [t2, t3] at this
    refine OT.imp this (fun a b hab => ?_)
    obtain ⟨⟨x2, x3, x4, y3, hR, q1, q2⟩, q3, q4, q5⟩ := hab
    refine ⟨?_, by rw [q3, t2], by rw [q4, t3], q5⟩
    rw [q1, q2]
    rcases hR with ⟨rfl, rfl, rfl, rfl⟩ | ⟨i, c, g1, g2, g3, rfl, rfl, rfl, rfl⟩
    · rcases (show j = 0 ∨ j = 1 ∨ j = 2 by omega) with rfl | rfl | rfl <;> rfl
    · have n1 := ru_nums i (by omega)
      rw [n1.1, n1.2]
      rcases (show j = 0 ∨ j = 1 ∨ j = 2 by omega) with rfl | rfl | rfl
      · rfl
      · rw [if_neg (show ¬ nI 1 = 0 by decide), if_pos (show nI 1 = 1 from rfl), if_neg (show ¬ nI 1 = 0 by decide), if_pos (nI_pos' (by omega)), if_pos (show nI 1 = 1 from rfl)]
      · rw [if_neg (show ¬ nI 2 = 0 by decide), if_neg (show ¬ nI 2 = 1 by decide), if_pos (show nI 2 = 2 from rfl), if_neg (show ¬ nI 2 = 0 by decide), if_pos (nI_pos' (by omega)), if_neg (show ¬ nI 2 = 1 by decide)]
end RULES
