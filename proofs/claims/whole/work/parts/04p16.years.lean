/-! PURE: years by draws, told years -/
theorem l_mod {a b : Nat} (ha : a < 2 ^ 62) (hb : b < 2 ^ 62) : lN a - lN a / lN b * lN b = lN (a % b) := by
  have h := Nat.div_add_mod a b
  rw [Nat.mul_comm] at h
  rw [l_div ha hb, lN_mul, lN_sub (by omega)]
  congr 1
  omega
theorem l_65536 : ¬ (65536 : Int64) = 0 := by decide
theorem draw_ok {g k : Nat} (hg : g < 2147483648) (hk : 1 ≤ k) (hk2 : k ≤ 20) : ∃ j g' : Nat, j < k ∧ g' < 2147483648 ∧ m_X11_draw (lN g) (nI k) = some (nI j, lN g') ∧ m_X12_draw (lN g) (nI k) = some (nI j, lN g') := by
  have hm : g * 1103515245 + 12345 < 2 ^ 62 := by omega
  have e1 : (lN g * 1103515245 + 12345) - (lN g * 1103515245 + 12345) / 2147483648 * 2147483648 = lN ((g * 1103515245 + 12345) % 2147483648) := by
    show (lN g * lN 1103515245 + lN 12345) - (lN g * lN 1103515245 + lN 12345) / lN 2147483648 * lN 2147483648 = _
    rw [lN_mul, lN_add]
    exact l_mod hm (by omega)
  have hl : (g * 1103515245 + 12345) % 2147483648 < 2147483648 := Nat.mod_lt _ (by omega)
  generalize hG : (g * 1103515245 + 12345) % 2147483648 = g' at e1 hl
  have e2 : lN g' / 65536 = lN (g' / 65536) := l_div (b := 65536) (by omega) (by omega)
  have hd : g' / 65536 < 2 ^ 62 := by omega
  have hz : ¬ (nI k).toInt64 = 0 := by rw [nI_l (by omega)]; exact l_ne0 hk (by omega)
  have e3 : lN (g' / 65536) - lN (g' / 65536) / (nI k).toInt64 * (nI k).toInt64 = lN (g' / 65536 % k) := by
    rw [nI_l (by omega)]
    exact l_mod hd (by omega)
  refine ⟨g' / 65536 % k, g', Nat.mod_lt _ (by omega), hl, ?_, ?_⟩
  · unfold m_X11_draw
    rw [if_neg (nI_nle (by omega) (by omega)), if_pos hz, e1, e2, e3, lN_i]
  · unfold m_X12_draw
    rw [if_pos hz, e1, e2, e3, lN_i]
theorem b_xor : ∀ a : Nat, a < 64 → ∀ b : Nat, b < 64 → nI a ^^^ nI b = nI (a ^^^ b) := by decide +kernel
section YEARS
variable {G : Gm} {w r : Nat} {sf0 kf st tf op ar lf ff sf lf0 ff0 nx u fa pl lk df hf : Nat → Int32} {size ps mast wv rv fl dt mv : Int32} {L F D H : Nat → Nat} {d m : Nat}
theorem QS.putL {b p v : Nat} (h : QS G b L F d sf) (hG : gOK G) (hp : p < G.1) (hv : v ≤ 60) : QS G b (setL L p v) F d (upd sf (b + 1 + p) (nI v)) := by
  have hn := hG.1
  refine ⟨⟨setL_le h.1.1 hv, h.1.2⟩, ?_, fun j hj => ?_, fun j hj => ?_⟩
  · unfold upd; rw [if_neg (by omega)]; exact h.2.1
  · unfold upd
    show _ = nI (if j = p then v else L j)
    by_cases e : j = p
    · rw [if_pos (by omega), if_pos e]
    · rw [if_neg (by omega), if_neg e]; exact h.2.2.1 j hj
  · unfold upd; rw [if_neg (by omega)]; exact h.2.2.2 j hj
theorem setF_lt {n p f : Nat} (h : ∀ j, j < 6 → F j < 2 ^ n) (hf : f < 2 ^ n) : ∀ j, j < 6 → setL F p f j < 2 ^ n := by
  intro j hj
  show (if j = p then f else F j) < _
  split
  · exact hf
  · exact h j hj
theorem QS.putF {b p f : Nat} (h : QS G b L F d sf) (hG : gOK G) (hp : p < G.1) (hf : f < 2 ^ G.1) : QS G b L (setL F p f) d (upd sf (b + 7 + p) (nI f)) := by
  have hn := hG.1
  refine ⟨⟨h.1.1, setF_lt h.1.2 hf⟩, ?_, fun j hj => ?_, fun j hj => ?_⟩
  · unfold upd; rw [if_neg (by omega)]; exact h.2.1
  · unfold upd; rw [if_neg (by omega)]; exact h.2.2.1 j hj
  · unfold upd
    show _ = nI (if j = p then f else F j)
    by_cases e : j = p
    · rw [if_pos (by omega), if_pos e]
    · rw [if_neg (by omega), if_neg e]; exact h.2.2.2 j hj
/-- the feeling of one for another turned -/
def xf (F : Nat → Nat) (p o : Nat) : Nat := F p ^^^ 2 ^ o
theorem xf_lt {n p o : Nat} (h : F p < 2 ^ n) (ho : o < n) : xf F p o < 2 ^ n := Nat.xor_lt_two_pow h (Nat.pow_lt_pow_right (by omega) ho)
theorem xf_I (hG : gOK G) {p o : Nat} (h : F p < 2 ^ G.1) (ho : o < G.1) : nI (F p) ^^^ (1 <<< (nI o &&& 31)) = nI (xf F p o) := by
  have hn := hG.1
  rw [b_bit o (by omega), b_xor _ (f64 hG h) _ (Nat.pow_lt_pow_right (by omega) (show o < 6 by omega))]
  rfl
theorem c_feel (hG : gOK G) (h : CS G L F d lf ff dt) {p o : Nat} (hp : p < G.1) (ho : o < G.1) : ∃ ff', m_X6_turnFeeling ff (nI p) (nI o) = some ff' ∧ CS G L (setL F p (xf F p o)) d lf ff' dt := by
  have hn := hG.1
  refine ⟨upd ff p (nI (xf F p o)), ?_, ⟨h.1.1, setF_lt h.1.2 (xf_lt (h.1.2 p (by omega)) ho)⟩, h.2.1, h.2.2.1, fun j hj => ?_⟩
  · unfold m_X6_turnFeeling m_X11_bit
    rw [p_at (show p < 6 by omega) (by omega), h.2.2.2 p (by omega), Option.bind_some, Option.bind_some, xf_I hG (h.1.2 p (by omega)) ho, p_put (show p < 6 by omega) (by omega)]
    rfl
  · unfold upd
    show _ = nI (if j = p then _ else F j)
    by_cases e : j = p
    · rw [if_pos e, if_pos e]
    · rw [if_neg e, if_neg e]; exact h.2.2.2 j hj
/-! years by draws: the model's other trial -/
def BO (G : Gm) (w r : Nat) (sf0 : Nat → Int32) (wv rv fl dt : Int32) (lf ff sf : Nat → Int32) : Prop := ∃ (L F : Nat → Nat) (d : Nat), CC G w r L F d wv rv fl dt lf ff ∧ QS G 1056 L F d sf ∧ ∀ k, k < 1008 → sf k = sf0 k
theorem BO.fr (h : BO G w r sf0 wv rv fl dt lf ff sf) : ∀ k, k < 1008 → sf k = sf0 k := by
  obtain ⟨L, F, d, -, -, h⟩ := h
  exact h
theorem o_hi (hQ : QT G tf op ar) (hw : wOK w r) (h : BO G w r sf0 wv rv fl dt lf ff sf) : m_X12_highOf tf sf (nI w) (nI r) 1056 = some fl := by
  obtain ⟨L, F, d, h1, h2, -⟩ := h
  rw [h1.2.2.1]
  exact q_hi (b := 1056) hQ hw (by omega) h2
theorem o_day (hT : CT G kf st size ps mast) (hQ : QT G tf op ar) (hw : wOK w r) (h : BO G w r sf0 wv rv fl dt lf ff sf) :
    OT (m_X1_passDay lf ff dt nx kf st u size ps mast wv rv fl) (m_X12_passes tf op ar fa pl sf (nI w) (nI r) lk 1056) (fun R R' => BO G w r sf0 wv rv R.2.1 R.2.2.1 R.2.2.2.1 ff R'.2.2.2.1) := by
  obtain ⟨L, F, d, h1, h2, h3⟩ := h
  exact OT.of (c_day hT hw h1) (q_dayO (b := 1056) hQ hw (by omega) h2) (fun a b ha hb => ⟨_, F, d + 1, ha.2, hb.2.1, fun k hk => (hb.2.2 k (Or.inl (by omega))).trans (h3 k hk)⟩)
/-- what a day's draws do, on both sides -/
theorem o_draws (hT : CT G kf st size ps mast) (hQ : QT G tf op ar) (hw : wOK w r) (hn0 : 0 < G.1) {g : Nat} (hg : g < 2147483648) (h : BO G w r sf0 wv rv fl dt lf ff sf) :
    OT (m_X11_doByDraws lf kf ps mast wv rv fl (lN g)) (m_X12_drawsDeed tf sf (lN g)) (fun R R' => ∃ g' : Nat, g' < 2147483648 ∧ R.1 = lN g' ∧ R'.1 = lN g' ∧ BO G w r sf0 wv rv R.2.1 dt R.2.2 ff R'.2) := by
  have hn := hT.1.1
  obtain ⟨L, F, d, h1, h2, h3⟩ := h
  obtain ⟨j, g1, hj, hg1, a1, a2⟩ := draw_ok hg hn0 (by omega)
  obtain ⟨c, g2, hc, hg2, b1, b2⟩ := draw_ok (k := 4) hg1 (by omega) (by omega)
  obtain ⟨x, g3, hx, hg3, c1, c2⟩ := draw_ok (k := 20) hg2 (by omega) (by omega)
  unfold m_X11_doByDraws m_X12_drawsDeed m_X11_doByDraws_71 m_X12_drawsDeed_45
  rw [q_persons, hQ.2.1, Option.bind_some, a2]
  have p1 : 1 ≤ ps := by rw [hT.2.1]; exact nI_le (a := 1) (by omega) (by omega)
  have a1' : m_X11_draw (lN g) ps = some (nI j, lN g1) := by rw [hT.2.1]; exact a1
  rw [a1', Option.bind_some, Option.bind_some]
  refine OT.posL p1 ?_
  dsimp only
  rw [show m_X11_draw (lN g1) 4 = _ from b1, show m_X12_draw (lN g1) 4 = _ from b2, Option.bind_some, Option.bind_some]
  dsimp only
  have e : (1057 : Int32) + nI j = nI (1057 + j) := nI_add 1057 j
  have sh : ∀ M : Int32, OT (Option.bind (m_X1_shift lf kf ps mast wv rv (nI j) M) (fun r6 => some (lN g3, r6.1, r6.2))) (Option.bind (m_X12_loses sf 1056 (nI j) M) (fun r6 => some (lN g3, r6))) (fun R R' => ∃ g' : Nat, g' < 2147483648 ∧ R.1 = lN g' ∧ R'.1 = lN g' ∧ BO G w r sf0 wv rv R.2.1 dt R.2.2 ff R'.2) :=
    fun M => OT.bdL (c_shift hT hw h1 hj) (fun a ha => OT.bdR (q_loses (b := 1056) hT.1 (by omega) h2 hj) (fun b hb => OT.ret ⟨g3, hg3, rfl, rfl, _, F, d, ha, hb.1, fun k hk => (hb.2 k (Or.inl (by omega))).trans (h3 k hk)⟩))
  by_cases c3 : c = 3
  · subst c3
    rw [e, nI_clamp (show 1057 + j < 2 ^ 31 by omega)]
    refine OT.posL rfl (OT.posR (by decide) (OT.bdL (c_letOff hT hw h1 hj) (fun a ha => OT.posR (pn_in2 (by omega) (by omega)) (OT.ret ⟨g2, hg2, rfl, rfl, _, F, d, ha, QS.putL (b := 1056) (v := 0) h2 hT.1 hj (by omega), fun k hk => ?_⟩))))
    show upd sf (1057 + j) 0 k = _
    unfold upd
    rw [if_neg (by omega)]
    exact h3 k hk
  · refine OT.negL (fun z => c3 ((nI_eq (b := 3) (by omega) (by omega)).mp z)) (OT.negR (nI_ge (b := 3) (by omega) (by omega)) (OT.eqL c1 (OT.eqR c2 ?_)))
    by_cases c2' : c = 2
    · subst c2'
      exact OT.posL rfl (OT.posR (by decide) (sh _))
    · exact OT.negL (fun z => c2' ((nI_eq (b := 2) (by omega) (by omega)).mp z)) (OT.negR (nI_ge (b := 2) (by omega) (by omega)) (sh _))
theorem years_loop {here : Nat} {lf1 ff1 : Nat → Int32} {dt1 w1 r1 s1 q1 v th : Int32} (hT : CT G kf st size ps mast) (hQ : QT G tf op ar) (hw : wOK w r) {N : Nat} (hN : N ≤ 99) :
    ∀ (c i fu fv g : Nat) (x fl dt : Int32) (lf nx u fa pl sf lk : Nat → Int32), i + c = N → c < fu → c < fv → g < 2147483648 → BO G w r sf0 wv rv fl dt lf ff sf →
      OT (m_X11_years_62 lf1 ff1 dt1 here kf st size ps mast w1 r1 s1 (nI N) v fu x (nI i) (lN g) wv rv fl dt lf ff nx u) (m_X12_years_59 tf op ar (nI w) (nI r) q1 (nI N) v fv x (nI i) th (lN g) fa pl sf lk) (fun R R' => R.1 = R'.1 ∧ ∀ k, k < 1008 → R'.2.2.2.2.2.1 k = sf0 k)
  | 0, i, fu + 1, fv + 1, g, x, fl, dt, lf, nx, u, fa, pl, sf, lk, hc, _, _, hg, hB => by
    have : i = N := by omega
    subst this
    rw [m_X11_years_62, m_X12_years_59, o_hi hQ hw hB]
    have hB' := hB
    obtain ⟨L, F, d, h1, h2, h3⟩ := hB
    rw [c_lackAll hT h1.2.2.2, show m_X12_lacksAll tf sf 1056 = _ from q_lackAll (b := 1056) hQ (by omega) h2]
    refine OT.posL (nI_le (by omega) (by omega)) (OT.posR (nI_le (by omega) (by omega)) ?_)
    exact OT.ite Iff.rfl (fun _ => OT.ret ⟨rfl, h3⟩) (fun _ => OT.ite Iff.rfl (fun _ => OT.eqR rfl (OT.ret ⟨rfl, h3⟩)) (fun _ => OT.eqL rfl (OT.eqR rfl (OT.ret ⟨rfl, h3⟩))))
  | c + 1, i, fu + 1, fv + 1, g, x, fl, dt, lf, nx, u, fa, pl, sf, lk, hc, hf, hf', hg, hB => by
    have hn := hT.1.1
    -- the day that follows
    have rest : ∀ (g : Nat) (fl1 : Int32) (lf' : Nat → Int32) (sf' : Nat → Int32) (t : Int32), g < 2147483648 → BO G w r sf0 wv rv fl1 dt lf' ff sf' →
        OT (m_X11_years_100 lf1 ff1 dt1 here kf st size ps mast w1 r1 s1 (nI N) v (m_X11_years_62 lf1 ff1 dt1 here kf st size ps mast w1 r1 s1 (nI N) v fu) (nI i) t x (lN g) wv rv fl1 dt lf' ff nx u) (Option.bind (m_X12_passes tf op ar fa pl sf' (nI w) (nI r) lk 1056) (fun r15 => m_X12_years_116 tf op ar (nI w) (nI r) q1 (nI N) v (m_X12_years_59 tf op ar (nI w) (nI r) q1 (nI N) v fv) (nI i) fl1 t x th (lN g) r15.2.1 r15.2.2.1 r15.2.2.2.1 r15.2.2.2.2)) (fun R R' => R.1 = R'.1 ∧ ∀ k, k < 1008 → R'.2.2.2.2.2.1 k = sf0 k) := by
      intro g fl1 lf' sf' t hg hB1
      obtain ⟨R1, R2, e1, e2, hB2⟩ := o_day (nx := nx) (u := u) (fa := fa) (pl := pl) (lk := lk) hT hQ hw hB1
      unfold m_X11_years_100 m_X12_years_116 m_X1_wayOfNextDay
      rw [e1, e2, Option.bind_some, Option.bind_some, o_hi hQ hw hB2, Option.bind_some, nI_1, show m_J6_compare_7cf53 R1.2.1 fl1 = some (if fl1 ≤ R1.2.1 then (if R1.2.1 = fl1 then 0 else 1) else -1) by unfold m_J6_compare_7cf53; (repeat' split) <;> rfl]
      refine OT.eqL rfl ?_
      by_cases e : R1.2.1 = fl1
      · refine OT.posL (way0.mpr e) (OT.posR e.symm ?_)
        rw [Int32.add_assoc]
        exact years_loop hT hQ hw hN c (i + 1) fu fv g _ _ _ _ _ _ _ _ _ _ (by omega) (by omega) (by omega) hg hB2
      · refine OT.negL (fun z => e (way0.mp z)) (OT.negR (fun z => e z.symm) ?_)
        rw [Int32.add_assoc]
        exact years_loop hT hQ hw hN c (i + 1) fu fv g _ _ _ _ _ _ _ _ _ _ (by omega) (by omega) (by omega) hg hB2
    rw [m_X11_years_62, m_X12_years_59, o_hi hQ hw hB, q_persons, hQ.2.1]
    unfold m_X12_years_85
    refine OT.negL (nI_ge (by omega) (by omega)) (OT.negR (nI_ge (by omega) (by omega)) (OT.eqR rfl (OT.eqR rfl ?_)))
    by_cases hz : G.1 = 0
    · refine OT.posR (by rw [hz]; decide) ?_
      have e0 : m_X11_doByDraws lf kf ps mast wv rv fl (lN g) = some (lN g, fl, lf) := by
        unfold m_X11_doByDraws
        rw [hT.2.1, hz, if_neg (by decide)]
      rw [e0, o_hi hQ hw hB]
      exact OT.eqL rfl (OT.eqR rfl (OT.posL rfl (by
        obtain ⟨R1, R2, e1, e2, hB2⟩ := o_day (nx := nx) (u := u) (fa := fa) (pl := pl) (lk := lk) hT hQ hw hB
        have := rest g fl lf sf 0 hg hB
        rw [e2, Option.bind_some] at this ⊢
        exact OT.posR rfl this)))
    · refine OT.negR (nI_nle (by omega) (by omega)) (OT.bd (o_draws hT hQ hw (by omega) hg hB) (fun R R' hR => ?_))
      obtain ⟨g', hg', q1, q2, hB1⟩ := hR
      rw [q1, q2, o_hi hQ hw hB1]
      refine OT.eqR rfl ?_
      obtain ⟨R1, R2, e1, e2, hB2⟩ := o_day (nx := nx) (u := u) (fa := fa) (pl := pl) (lk := lk) hT hQ hw hB1
      have r0 := rest g' R.2.1 R.2.2 R'.2 0 hg' hB1
      have r1 := rest g' R.2.1 R.2.2 R'.2 1 hg' hB1
      rw [e2, Option.bind_some] at r0 r1 ⊢
      by_cases e : R.2.1 = fl
      · exact OT.posL e (OT.posR e.symm r0)
      · exact OT.negL e (OT.negR (fun z => e z.symm) r1)
theorem l_years {here : Nat} {tv : Value} {aw ad af adt : Int32} {dr g0 : Int64} (hT : CT G kf st size ps mast) (hQ : QT G tf op ar) (hw : wOK w r) (hW : NW G lf ff dt sf) (s n v : Int32) :
    OT (m_X11_years lf ff dt lf0 ff0 adt nx tv aw ad af here kf st u size ps mast (nI w) (nI r) dr s n v) (m_X12_years tf op ar fa pl sf (nI w) (nI r) lk g0 s n v) (fun R R' => R.1 = R'.1 ∧ ∀ k, k < 1008 → R'.2.2.2.2.2.1 k = sf k) := by
  have hFU := FU_ge
  unfold m_X11_years m_X12_years
  rcases w_rng s 0 9999 (by omega) (by omega) with ⟨e1, e2⟩ | ⟨S, hS1, hS, rfl, e1, e2⟩
  · exact OT.eqL e1 (OT.eqR e2 (OT.posL rfl (OT.posR rfl (OT.ret ⟨rfl, fun _ _ => rfl⟩))))
  refine OT.eqL e1 (OT.eqR e2 (OT.negL (by decide) (OT.negR (by decide) ?_)))
  rcases w_rng n 1 99 (by omega) (by omega) with ⟨e1, e2⟩ | ⟨N, hN1, hN, rfl, e1, e2⟩
  · exact OT.eqL e1 (OT.eqR e2 (OT.posL rfl (OT.posR rfl (OT.ret ⟨rfl, fun _ _ => rfl⟩))))
  refine OT.eqL e1 (OT.eqR e2 (OT.negL (by decide) (OT.negR (by decide) ?_)))
  rcases w_rng v 0 2 (by omega) (by omega) with ⟨e1, e2⟩ | ⟨V, hV1, hV, rfl, e1, e2⟩
  · exact OT.eqL e1 (OT.eqR e2 (OT.posL rfl (OT.posR rfl (OT.ret ⟨rfl, fun _ _ => rfl⟩))))
  refine OT.eqL e1 (OT.eqR e2 (OT.negL (by decide) (OT.negR (by decide) ?_)))
  obtain ⟨L, F, d, h1, h2⟩ := hW
  refine OT.bdL (c_start hT hw h1) (fun R1 hR1 => OT.bdR (q_copies (a := 0) (b := 1056) (c := 13) (by omega) (by omega) (by omega) sf) (fun R2 hR2 => ?_))
  rw [nI_l (show S < 2 ^ 31 by omega)]
  exact years_loop hT hQ hw hN N 0 FU FU S _ _ _ _ _ _ _ _ _ _ (by omega) (by omega) (by omega) (by omega) ⟨L, F, d, hR1, h2.moved hT.1 (fun k h1 h2 => by rw [hR2, if_pos ⟨h1, h2⟩]), fun k hk => by rw [hR2, if_neg (by omega)]⟩
/-! a told year -/
/-- lines of a year, on both sides -/
def YR (n m : Nat) (A P B : Nat → Nat) (df pf bf : Nat → Int32) (lv : Int32) (yl : Nat → Int32) : Prop :=
  m ≤ 40 ∧ lv = nI m ∧ yl 0 = nI m ∧ ∀ j, j < m → A j ≤ 4 ∧ df j = nI (A j) ∧ yl (1 + 3 * j) = nI (A j) ∧ (A j < 4 → P j < n ∧ pf j = nI (P j) ∧ yl (2 + 3 * j) = nI (P j)) ∧ ((A j < 2 ∨ A j = 3) → bf j = nI (B j) ∧ yl (3 + 3 * j) = nI (B j)) ∧ (A j = 3 → B j < n)
/-- the begin of a town, on both sides -/
def BG (G : Gm) (L F : Nat → Nat) (bl bf : Nat → Int32) (bd : Int32) (tf : Nat → Int32) : Prop := CS G L F 0 bl bf bd ∧ ∀ p, p < G.1 → tf (6 + 3 * p) = nI (L p) ∧ tf (7 + 3 * p) = nI (F p)
theorem starts2 {b : Nat} (hQ : QT G tf op ar) (hb : b ≤ 1056) {bl bf : Nat → Int32} {bd : Int32} (hB : BG G L F bl bf bd tf) : ∀ (c i fu : Nat) (s : Nat → Int32), i + c = G.1 → c < fu → s b = 0 → (∀ p, p < i → s (b + 1 + p) = nI (L p) ∧ s (b + 7 + p) = nI (F p)) → (∀ k, (k < b ∨ b + 13 ≤ k) → s k = sf0 k) → OK (m_X12_starts_25 tf (nI b) fu (nI i) s) (fun R => QS G b L F 0 R ∧ ∀ k, (k < b ∨ b + 13 ≤ k) → R k = sf0 k)
  | 0, i, fu + 1, s, hc, _, h0, h1, h2 => by
    have hn := hQ.1.1
    have : i = G.1 := by omega
    subst this
    rw [m_X12_starts_25, q_persons, hQ.2.1]
    exact OK.eq rfl (OK.pos (nI_le (by omega) (by omega)) (OK.ret ⟨⟨hB.1.1, h0, fun p hp => (h1 p hp).1, fun p hp => (h1 p hp).2⟩, h2⟩))
  | c + 1, i, fu + 1, s, hc, hf, h0, h1, h2 => by
    have hn := hQ.1.1
    have e1 : nI b + 1 + nI i = nI (b + 1 + i) := by rw [nI_1, nI_add]
    have e7 : nI b + 7 + nI i = nI (b + 7 + i) := by
      show nI b + nI 7 + nI i = _
      rw [nI_add, nI_add]
    have t1 : tf (5 + 3 * i + 1) = nI (L i) := by rw [show 5 + 3 * i + 1 = 6 + 3 * i by omega]; exact (hB.2 i (by omega)).1
    have t2 : tf (5 + 3 * i + 2) = nI (F i) := by rw [show 5 + 3 * i + 2 = 7 + 3 * i by omega]; exact (hB.2 i (by omega)).2
    rw [m_X12_starts_25, q_persons, hQ.2.1, show m_X12_personOf tf (nI i) 1 = _ from q_personOf (c := 1) (show i < 6 by omega) (by omega), show m_X12_personOf tf (nI i) 2 = _ from q_personOf (c := 2) (show i < 6 by omega) (by omega), t1, t2, e1, e7, nI_clamp (show b + 1 + i < 2 ^ 31 by omega), nI_clamp (show b + 7 + i < 2 ^ 31 by omega), nI_1]
    refine OK.eq rfl (OK.neg (nI_ge (by omega) (by omega)) (OK.eq rfl (OK.pos (pn_in2 (by omega) (by omega)) (OK.eq rfl (OK.pos (pn_in2 (by omega) (by omega)) ?_)))))
    refine starts2 hQ hb hB c (i + 1) fu _ (by omega) (by omega) ?_ (fun p hp => ⟨?_, ?_⟩) (fun k hk => ?_)
    · unfold upd; rw [if_neg (by omega), if_neg (by omega)]; exact h0
    · unfold upd
      rw [if_neg (by omega)]
      by_cases e : p = i
      · rw [if_pos (by omega), e]
      · rw [if_neg (by omega)]; exact (h1 p (by omega)).1
    · unfold upd
      by_cases e : p = i
      · rw [if_pos (by omega), e]
      · rw [if_neg (by omega), if_neg (by omega)]; exact (h1 p (by omega)).2
    · unfold upd; rw [if_neg (by omega), if_neg (by omega)]; exact h2 k hk
theorem starts1 {b : Nat} (hQ : QT G tf op ar) (hb : b ≤ 1056) {bl bf : Nat → Int32} {bd : Int32} (hB : BG G L F bl bf bd tf) : ∀ (c i fu : Nat) (s : Nat → Int32), i + c = 13 → c < fu → (∀ j, j < i → s (b + j) = 0) → (∀ k, (k < b ∨ b + 13 ≤ k) → s k = sf0 k) → OK (m_X12_starts_2 tf (nI b) fu (nI i) s) (fun R => QS G b L F 0 R ∧ ∀ k, (k < b ∨ b + 13 ≤ k) → R k = sf0 k)
  | 0, i, fu + 1, s, hc, _, h1, h2 => by
    have hn := hQ.1.1
    have hFU := FU_ge
    rw [m_X12_starts_2]
    refine OK.pos (nI_le (a := 13) (by omega) (by omega)) ?_
    exact starts2 hQ hb hB G.1 0 FU s (by omega) (by omega) (by have := h1 0 (by omega); rw [Nat.add_zero] at this; exact this) (fun p hp => by omega) h2
  | c + 1, i, fu + 1, s, hc, hf, h1, h2 => by
    rw [m_X12_starts_2, nI_add, nI_clamp (show b + i < 2 ^ 31 by omega), nI_1]
    refine OK.neg (nI_ge (b := 13) (by omega) (by omega)) (OK.pos (pn_in2 (by omega) (by omega)) (starts1 hQ hb hB c (i + 1) fu _ (by omega) (by omega) (fun j hj => ?_) (fun k hk => ?_)))
    · unfold upd
      by_cases e : j = i
      · rw [if_pos (by omega)]
      · rw [if_neg (by omega)]; exact h1 j (by omega)
    · unfold upd; rw [if_neg (by omega)]; exact h2 k hk
theorem q_starts {b : Nat} (hQ : QT G tf op ar) (hb : b ≤ 1056) {bl bf : Nat → Int32} {bd : Int32} (hB : BG G L F bl bf bd tf) : OK (m_X12_starts tf sf (nI b)) (fun R => QS G b L F 0 R ∧ ∀ k, (k < b ∨ b + 13 ≤ k) → R k = sf k) := by
  have hFU := FU_ge
  exact starts1 hQ hb hB 13 0 FU sf (by omega) (by omega) (fun j hj => by omega) (fun _ _ => rfl)
/-- what the model does with a line: how high it stands then decides -/
theorem j182 {q x2 x3 x4 x8 th fl1 : Int32} {yl : Nat → Int32} {K31 : Int32 → Int32 → Int32 → Int32 → (Nat → Int32) → (Nat → Int32) → (Nat → Int32) → (Nat → Int32) → Option (Int32 × Int32 × (Nat → Int32) × (Nat → Int32) × (Nat → Int32) × (Nat → Int32))} (h : m_X12_highOf tf sf wv rv 1008 = some fl1) :
    m_X12_judged_182 tf op ar yl wv rv q K31 x2 x3 x4 x8 th fa pl sf lk = (if fl1 = x8 then K31 x2 x3 (x4 + 1) th fa pl sf lk else K31 (if 0 ≤ x2 then x2 else x4) (x3 + 1) (x4 + 1) th fa pl sf lk) := by
  unfold m_X12_judged_182 m_X12_judged_199 m_X12_judged_215 m_X12_judged_216
  rw [h, Option.bind_some]
  by_cases e : fl1 = x8
  · rw [if_pos e, if_pos e, if_pos rfl, if_pos rfl, Int32.add_zero]
  · rw [if_neg e, if_neg e, if_neg (show ¬ (1 : Int32) = 0 by decide)]
    by_cases e2 : 0 ≤ x2
    · rw [if_pos e2, if_pos e2, if_neg (show ¬ (1 : Int32) = 0 by decide)]
    · rw [if_neg e2, if_neg e2, if_neg (show ¬ (1 : Int32) = 0 by decide)]
def JuE (v q : Int32) (sf0 : Nat → Int32) (R : Int32 × Int32 × Int32 × Int32 × Int32 × (Nat → Int32) × (Nat → Int32) × (Nat → Int32) × (Nat → Int32)) (R' : Int32 × Int32 × (Nat → Int32) × (Nat → Int32) × (Nat → Int32) × (Nat → Int32)) : Prop :=
  (∃ x2 x3 x : Int32, R.1 = (if v = 0 then x2 else if v = 1 then x3 else if v = 2 then x else -2) ∧ R'.1 = (if q = 0 then x2 else if q = 1 then x3 else x)) ∧ ∀ k, k < 1008 → R'.2.2.2.2.1 k = sf0 k
theorem i3 (a k : Nat) : nI a + 3 * nI k = nI (a + 3 * k) := by
  show nI a + nI 3 * nI k = _
  rw [pn_mul, nI_add]
theorem judged_loop {bl bf : Nat → Int32} {bd w1 r1 v q th : Int32} {yd yp yb yl : Nat → Int32} {A P B : Nat → Nat} {lv : Int32} (hT : CT G kf st size ps mast) (hQ : QT G tf op ar) (hw : wOK w r) (hY : YR G.1 m A P B yd yp yb lv yl) :
    ∀ (c i fu fv : Nat) (x2 x3 fl dt : Int32) (lf ff nx u fa pl sf lk : Nat → Int32), i + c = m → c < fu → c < fv → ((x2 = -1 ∧ x3 = 0) ∨ ∃ a b : Nat, a < 40 ∧ 1 ≤ b ∧ b ≤ i ∧ x2 = nI a ∧ x3 = nI b) → BT G w r sf0 wv rv fl dt lf ff sf →
      OT (m_X11_judged_25 kf bl bf bd st size ps mast w1 r1 yd yp yb lv v fu x2 x3 (nI i) wv rv fl dt lf ff nx u) (m_X12_judged_31 tf op ar yl (nI w) (nI r) q fv x2 x3 (nI i) th fa pl sf lk) (JuE v q sf0)
  | 0, i, fu + 1, fv + 1, x2, x3, fl, dt, lf, ff, nx, u, fa, pl, sf, lk, hc, _, _, hx, hB => by
    obtain ⟨hm, hl, hy0, hy⟩ := hY
    have : i = m := by omega
    subst this
    rw [m_X11_judged_25, m_X12_judged_31, show yl (0 : Int32).toNatClampNeg = nI i from hy0, b_hi hQ hw hB]
    refine OT.posL (by rw [hl]; exact nI_le (by omega) (by omega)) (OT.posR (nI_le (by omega) (by omega)) ?_)
    have fin : ∀ X Y : Int32, X = (if v = 0 then x2 else if v = 1 then x3 else if v = 2 then fl else -2) → Y = (if q = 0 then x2 else if q = 1 then x3 else fl) → JuE v q sf0 (X, wv, rv, fl, dt, lf, ff, nx, u) (Y, th, fa, pl, sf, lk) := fun X Y h1 h2 => ⟨⟨x2, x3, fl, h1, h2⟩, hB.fr⟩
    have kR : ∀ X : Int32, X = (if v = 0 then x2 else if v = 1 then x3 else if v = 2 then fl else -2) → OT (some (X, wv, rv, fl, dt, lf, ff, nx, u)) (if q = 0 then (some (x2, th, fa, pl, sf, lk)) else (if q = 1 then (some (x3, th, fa, pl, sf, lk)) else (Option.bind (some fl) (fun r13 => some (r13, th, fa, pl, sf, lk))))) (JuE v q sf0) := by
      intro X hX
      refine OT.itR (fun e => OT.ret (fin _ _ hX (by rw [if_pos e]))) (fun e => OT.itR (fun e2 => OT.ret (fin _ _ hX (by rw [if_neg e, if_pos e2]))) (fun e2 => OT.eqR rfl (OT.ret (fin _ _ hX (by rw [if_neg e, if_neg e2])))))
    exact OT.itL (fun e => kR _ (by rw [if_pos e])) (fun e => OT.itL (fun e2 => kR _ (by rw [if_neg e, if_pos e2])) (fun e2 => OT.itL (fun e3 => kR _ (by rw [if_neg e, if_neg e2, if_pos e3])) (fun e3 => kR _ (by rw [if_neg e, if_neg e2, if_neg e3]))))
  | c + 1, i, fu + 1, fv + 1, x2, x3, fl, dt, lf, ff, nx, u, fa, pl, sf, lk, hc, hf, hf', hx, hB => by
    have hY' := hY
    obtain ⟨hm, hl, hy0, hy⟩ := hY
    have hn := hT.1.1
    obtain ⟨hA, a1, a2, hP, hBb, hB3⟩ := hy i (by omega)
    rw [m_X11_judged_25, m_X12_judged_31, show yl (0 : Int32).toNatClampNeg = nI m from hy0, b_hi hQ hw hB]
    rw [show (1 : Int32) + 3 * nI i = nI (1 + 3 * i) from i3 1 i, show (2 : Int32) + 3 * nI i = nI (2 + 3 * i) from i3 2 i, show (3 : Int32) + 3 * nI i = nI (3 + 3 * i) from i3 3 i, nI_clamp (show 1 + 3 * i < 2 ^ 31 by omega), nI_clamp (show 2 + 3 * i < 2 ^ 31 by omega), nI_clamp (show 3 + 3 * i < 2 ^ 31 by omega), a2]
    refine OT.negL (by rw [hl]; exact nI_ge (by omega) (by omega)) (OT.negR (nI_ge (by omega) (by omega)) (OT.posR (pn_in2 (by omega) (by omega)) (OT.eqR rfl (OT.posR (pn_in2 (by omega) (by omega)) (OT.eqR rfl (OT.posR (pn_in2 (by omega) (by omega)) (OT.eqR rfl (OT.eqR rfl ?_))))))))
    -- what follows a line
    have step : ∀ (fl1 dt1 : Int32) (lf1 ff1 nx1 u1 fa1 pl1 sf1 lk1 : Nat → Int32), BT G w r sf0 wv rv fl1 dt1 lf1 ff1 sf1 →
        OT (if fl1 = fl then ((m_X11_judged_25 kf bl bf bd st size ps mast w1 r1 yd yp yb lv v fu) x2 x3 (nI i + 1) wv rv fl1 dt1 lf1 ff1 nx1 u1) else (if x3 = 0 then ((m_X11_judged_25 kf bl bf bd st size ps mast w1 r1 yd yp yb lv v fu) (nI i) (x3 + 1) (nI i + 1) wv rv fl1 dt1 lf1 ff1 nx1 u1) else ((m_X11_judged_25 kf bl bf bd st size ps mast w1 r1 yd yp yb lv v fu) x2 (x3 + 1) (nI i + 1) wv rv fl1 dt1 lf1 ff1 nx1 u1))) (m_X12_judged_182 tf op ar yl (nI w) (nI r) q (m_X12_judged_31 tf op ar yl (nI w) (nI r) q fv) x2 x3 (nI i) fl th fa1 pl1 sf1 lk1) (JuE v q sf0) := by
      intro fl1 dt1 lf1 ff1 nx1 u1 fa1 pl1 sf1 lk1 hB1
      have go := fun (x2 x3 : Int32) hx => judged_loop (bl := bl) (bf := bf) (bd := bd) (w1 := w1) (r1 := r1) (v := v) (q := q) (th := th) hT hQ hw hY' c (i + 1) fu fv x2 x3 fl1 dt1 lf1 ff1 nx1 u1 fa1 pl1 sf1 lk1 (by omega) (by omega) (by omega) hx hB1
      rw [j182 (b_hi hQ hw hB1), nI_1]
      refine OT.ite Iff.rfl (fun _ => go _ _ ?_) (fun _ => ?_)
      · rcases hx with hx | ⟨a, b, g1, g2, g3, g4⟩
        · exact Or.inl hx
        · exact Or.inr ⟨a, b, g1, g2, by omega, g4⟩
      · rcases hx with ⟨rfl, rfl⟩ | ⟨a, b, g1, g2, g3, rfl, rfl⟩
        · refine OT.posL rfl ?_
          rw [if_neg (show ¬ (0 : Int32) ≤ -1 by decide)]
          exact go _ _ (Or.inr ⟨i, 1, by omega, by omega, by omega, rfl, rfl⟩)
        · refine OT.negL (nI_ne0 (by omega) (by omega)) ?_
          rw [if_pos (nI_pos' (show a < 2 ^ 31 by omega)), nI_1 b]
          exact go _ _ (Or.inr ⟨a, b + 1, by omega, by omega, by omega, rfl, rfl⟩)
    unfold m_X10_carryOut m_X12_judged_101 m_X12_judged_120
    rw [p_at (show i < 40 by omega) (by omega), p_at (show i < 40 by omega) (by omega), p_at (show i < 40 by omega) (by omega), a1, Option.bind_some, Option.bind_some, Option.bind_some]
    have eqA : ∀ k : Nat, k ≤ 4 → ((nI (A i) = nI k) ↔ A i = k) := fun k hk => nI_eq (by omega) (by omega)
    rcases (show A i = 0 ∨ A i = 1 ∨ A i = 2 ∨ A i = 3 ∨ A i = 4 by omega) with e | e | e | e | e
    · obtain ⟨p1, p2, p3⟩ := hP (by omega)
      obtain ⟨b1, b2⟩ := hBb (by omega)
      rw [e, p2, p3, b1, b2, if_pos (show nI 0 = 0 from rfl), if_pos (show nI 0 = 0 from rfl), if_pos (show nI 0 = 0 from rfl)]
      obtain ⟨R1, R2, e1, e2, hB2⟩ := b_shift (m := nI (B i)) hT hw hB p1
      rw [e1, e2, Option.bind_some, Option.bind_some, Option.bind_some]
      exact step _ _ _ _ _ _ _ _ _ _ hB2
    · obtain ⟨p1, p2, p3⟩ := hP (by omega)
      obtain ⟨b1, b2⟩ := hBb (by omega)
      rw [e, p2, p3, b1, b2, if_neg (show ¬ nI 1 = 0 by decide), if_pos (show nI 1 = 1 from rfl), if_neg (show ¬ nI 1 = 0 by decide), if_pos (show nI 1 = 1 from rfl), if_neg (show ¬ nI 1 = 0 by decide)]
      obtain ⟨R1, R2, e1, e2, hB2⟩ := b_shift (m := -(nI (B i))) hT hw hB p1
      rw [e1, e2, Option.bind_some, Option.bind_some, Option.bind_some]
      exact step _ _ _ _ _ _ _ _ _ _ hB2
    · obtain ⟨p1, p2, p3⟩ := hP (by omega)
      have en : (1009 : Int32) + nI (P i) = nI (1009 + P i) := nI_add 1009 _
      rw [e, p2, p3, if_neg (show ¬ nI 2 = 0 by decide), if_neg (show ¬ nI 2 = 1 by decide), if_pos (show nI 2 = 2 from rfl), if_neg (show ¬ nI 2 = 0 by decide), if_neg (show ¬ nI 2 = 1 by decide), if_pos (show nI 2 = 2 from rfl), en, nI_clamp (show 1009 + P i < 2 ^ 31 by omega), if_pos (pn_in2 (show 1009 + P i < 1104 by omega) (by omega))]
      obtain ⟨L1, F1, d1, g1, g2, g3⟩ := hB
      obtain ⟨R1, e1, hR1⟩ := c_letOff hT hw g1 p1
      rw [e1, Option.bind_some, Option.bind_some]
      refine step _ _ _ _ _ _ _ _ _ _ ⟨_, F1, d1, hR1, QS.putL (b := 1008) (v := 0) g2 hT.1 p1 (by omega), fun k hk => ?_⟩
      show upd sf (1009 + P i) 0 k = _
      unfold upd; rw [if_neg (by omega)]; exact g3 k hk
    · obtain ⟨p1, p2, p3⟩ := hP (by omega)
      obtain ⟨b1, b2⟩ := hBb (by omega)
      have hb3 := hB3 e
      have en : (1015 : Int32) + nI (P i) = nI (1015 + P i) := nI_add 1015 _
      rw [e, p2, p3, b1, b2, if_neg (show ¬ nI 3 = 0 by decide), if_neg (show ¬ nI 3 = 1 by decide), if_neg (show ¬ nI 3 = 2 by decide), if_pos (show nI 3 = 3 from rfl), if_neg (show ¬ nI 3 = 0 by decide), if_neg (show ¬ nI 3 = 1 by decide), if_neg (show ¬ nI 3 = 2 by decide), if_pos (show nI 3 = 3 from rfl), en, nI_clamp (show 1015 + P i < 2 ^ 31 by omega), if_pos (pn_in2 (show 1015 + P i < 1104 by omega) (by omega)), if_pos (pn_in2 (show 1015 + P i < 1104 by omega) (by omega))]
      obtain ⟨L1, F1, d1, g1, g2, g3⟩ := hB
      obtain ⟨ff', e1, hC⟩ := c_feel hT.1 g1.2.2.2 p1 hb3
      have es : sf (1015 + P i) = nI (F1 (P i)) := g2.2.2.2 (P i) p1
      rw [e1, Option.bind_some, Option.bind_some, es, xf_I hT.1 (g2.1.2 (P i) (by omega)) hb3]
      refine step _ _ _ _ _ _ _ _ _ _ ⟨L1, setL F1 (P i) (xf F1 (P i) (B i)), d1, ⟨g1.1, g1.2.1, g1.2.2.1, hC⟩, QS.putF (b := 1008) g2 hT.1 p1 (xf_lt (g2.1.2 (P i) (by omega)) hb3), fun k hk => ?_⟩
      unfold upd; rw [if_neg (by omega)]; exact g3 k hk
    · rw [e, if_neg (show ¬ nI 4 = 0 by decide), if_neg (show ¬ nI 4 = 1 by decide), if_neg (show ¬ nI 4 = 2 by decide), if_neg (show ¬ nI 4 = 3 by decide), if_neg (show ¬ nI 4 = 0 by decide), if_neg (show ¬ nI 4 = 1 by decide), if_neg (show ¬ nI 4 = 2 by decide), if_neg (show ¬ nI 4 = 3 by decide)]
      obtain ⟨R1, R2, e1, e2, -, hB2⟩ := b_day (nx := nx) (u := u) (fa := fa) (pl := pl) (lk := lk) hT hQ hw hB
      rw [e1, e2, Option.bind_some, Option.bind_some, Option.bind_some]
      exact step _ _ _ _ _ _ _ _ _ _ hB2
theorem l_judged {bl bf : Nat → Int32} {bd : Int32} {yd yp yb yl : Nat → Int32} {A P B : Nat → Nat} {lv : Int32} (hT : CT G kf st size ps mast) (hQ : QT G tf op ar) (hw : wOK w r) (hB : BG G L F bl bf bd tf) (hY : YR G.1 m A P B yd yp yb lv yl) (v : Int32) :
    OT (m_X11_judged lf0 ff0 nx kf bl bf bd st u size ps mast (nI w) (nI r) yd yp yb lv v) (m_X12_judged tf op ar yl fa pl sf (nI w) (nI r) lk v) (fun R R' => R.1 = R'.1 ∧ ∀ k, k < 1008 → R'.2.2.2.2.1 k = sf k) := by
  have hFU := FU_ge
  have hm := hY.1
  unfold m_X11_judged m_X12_judged
  obtain ⟨R1, e1, h1⟩ := c_start (lf0 := lf0) (ff0 := ff0) hT hw hB.1
  obtain ⟨R2, e2, h2, h3⟩ := q_starts (sf := sf) (b := 1008) hQ (by omega) hB
  rw [e1, show m_X12_starts tf sf 1008 = _ from e2, Option.bind_some, Option.bind_some]
  have go := fun q : Int32 => judged_loop (sf0 := sf) (bl := bl) (bf := bf) (bd := bd) (w1 := nI w) (r1 := nI r) (v := v) (q := q) (th := 0) hT hQ hw hY m 0 FU FU (-1) 0 R1.2.2.1 R1.2.2.2.1 R1.2.2.2.2.1 R1.2.2.2.2.2 nx u fa pl R2 lk (by omega) (by omega) (by omega) (Or.inl ⟨rfl, rfl⟩) ⟨L, F, 0, h1, h2, fun k hk => h3 k (Or.inl hk)⟩
  rcases w_rng v 0 2 (by omega) (by omega) with ⟨e1, e2⟩ | ⟨j, hj, hj', rfl, e1, e2⟩
  · refine OT.eqR e2 (OT.posR rfl ?_)
    obtain ⟨a, b, ea, eb, ⟨⟨x2, x3, x, q1, -⟩, -⟩⟩ := go 0
    refine ⟨a, _, ea, rfl, ?_, fun _ _ => rfl⟩
    have hz : ∀ j : Nat, j ≤ 2 → ¬ v = nI j := fun j hj => w_out (by omega) e1 (by omega) hj
    rw [q1, if_neg (show ¬ v = 0 from hz 0 (by omega)), if_neg (show ¬ v = 1 from hz 1 (by omega)), if_neg (show ¬ v = 2 from hz 2 (by omega))]
  · refine OT.eqR e2 (OT.negR (by decide) (OT.imp (go (nI j)) (fun a b hab => ?_)))
    obtain ⟨⟨x2, x3, x, q1, q2⟩, q5⟩ := hab
    refine ⟨?_, q5⟩
    rw [q1, q2]
    rcases (show j = 0 ∨ j = 1 ∨ j = 2 by omega) with rfl | rfl | rfl <;> rfl
end YEARS
