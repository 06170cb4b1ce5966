/-! PURE: questions about days, both sides in step -/
theorem w_rng (v : Int32) (a b : Nat) (hab : a ≤ b) (hb : b < 2 ^ 31) : (m_X11_within v (nI a) (nI b) = some 0 ∧ m_X12_within v (nI a) (nI b) = some 0) ∨ ∃ j : Nat, a ≤ j ∧ j ≤ b ∧ v = nI j ∧ m_X11_within v (nI a) (nI b) = some 1 ∧ m_X12_within v (nI a) (nI b) = some 1 := by
  unfold m_X11_within m_X12_within
  by_cases h1 : v < nI a
  · rw [if_pos h1]; exact Or.inl ⟨rfl, rfl⟩
  · rw [if_neg h1]
    by_cases h2 : nI b < v
    · rw [if_pos h2]; exact Or.inl ⟨rfl, rfl⟩
    · rw [if_neg h2]
      rw [Int32.lt_iff_toInt_lt, nI_toInt (by omega)] at h1 h2
      obtain ⟨j, hj, rfl⟩ := nI_of (x := v) (by rw [Int32.lt_iff_toInt_lt]; show ¬ v.toInt < 0; omega)
      rw [nI_toInt hj] at h1 h2
      exact Or.inr ⟨j, by omega, by omega, rfl, rfl, rfl⟩
theorem w_has {tf : Nat → Int32} {n : Nat} (hn : n ≤ 6) (h0 : tf 0 = nI n) (v : Int32) : (m_X8_has (nI n) v = some 0 ∧ m_X12_isPerson tf v = some 0) ∨ ∃ j : Nat, j < n ∧ v = nI j ∧ m_X8_has (nI n) v = some 1 ∧ m_X12_isPerson tf v = some 1 := by
  unfold m_X8_has m_X12_isPerson
  rw [q_persons, h0]
  by_cases h1 : v < 0
  · rw [if_pos h1, if_pos h1]; exact Or.inl ⟨rfl, rfl⟩
  · rw [if_neg h1, if_neg h1, Option.bind_some]
    obtain ⟨j, hj, rfl⟩ := nI_of h1
    by_cases h2 : n ≤ j
    · rw [if_pos (nI_le h2 hj)]; exact Or.inl ⟨rfl, rfl⟩
    · rw [if_neg (nI_ge (by omega) (by omega))]
      exact Or.inr ⟨j, by omega, rfl, rfl, rfl⟩
/-- the class's course and the model's trial hold the same -/
def BT (G : Gm) (w r : Nat) (sf0 : Nat → Int32) (wv rv fl dt : Int32) (lf ff sf : Nat → Int32) : Prop := ∃ (L F : Nat → Nat) (d : Nat), CC G w r L F d wv rv fl dt lf ff ∧ QS G 1008 L F d sf ∧ ∀ k, k < 1008 → sf k = sf0 k
/-- now, on both sides -/
def NW (G : Gm) (lf ff : Nat → Int32) (dt : Int32) (sf : Nat → Int32) : Prop := ∃ (L F : Nat → Nat) (d : Nat), CS G L F d lf ff dt ∧ QS G 0 L F d sf
section DAYS
variable {G : Gm} {w r : Nat} {sf0 kf st tf op ar lf ff sf lf0 ff0 nx u fa pl lk : Nat → Int32} {size ps mast wv rv fl dt : Int32}
theorem BT.fr (h : BT G w r sf0 wv rv fl dt lf ff sf) : ∀ k, k < 1008 → sf k = sf0 k := by
  obtain ⟨L, F, d, -, -, h⟩ := h
  exact h
theorem b_start (hT : CT G kf st size ps mast) (hw : wOK w r) (h : NW G lf ff dt sf) : OT (m_X1_start lf0 ff0 kf ps mast (nI w) (nI r) lf ff dt) (m_X12_triesNow sf) (fun R R' => BT G w r sf R.1 R.2.1 R.2.2.1 R.2.2.2.1 R.2.2.2.2.1 R.2.2.2.2.2 R') := by
  obtain ⟨L, F, d, h1, h2⟩ := h
  exact OT.of (c_start hT hw h1) (q_tries hT.1 h2) (fun a b ha hb => ⟨L, F, d, ha, hb.1, hb.2⟩)
theorem b_hi (hQ : QT G tf op ar) (hw : wOK w r) (h : BT G w r sf0 wv rv fl dt lf ff sf) : m_X12_highOf tf sf (nI w) (nI r) 1008 = some fl := by
  obtain ⟨L, F, d, h1, h2, -⟩ := h
  rw [h1.2.2.1]
  exact q_hi (b := 1008) hQ hw (by omega) h2
theorem b_fl (hQ : gOK G) (h : BT G w r sf0 wv rv fl dt lf ff sf) : ∃ j : Nat, j ≤ 99 ∧ fl = nI j := by
  obtain ⟨L, F, d, h1, h2, -⟩ := h
  exact ⟨_, Nat.le_trans hiN_le hQ.2.1, h1.2.2.1⟩
theorem b_day (hT : CT G kf st size ps mast) (hQ : QT G tf op ar) (hw : wOK w r) (h : BT G w r sf0 wv rv fl dt lf ff sf) :
    OT (m_X1_passDay lf ff dt nx kf st u size ps mast wv rv fl) (m_X12_passes tf op ar fa pl sf (nI w) (nI r) lk 1008) (fun R R' => R.1 = R'.1 ∧ BT G w r sf0 wv rv R.2.1 R.2.2.1 R.2.2.2.1 ff R'.2.2.2.1) := by
  obtain ⟨L, F, d, h1, h2, h3⟩ := h
  exact OT.of (c_day hT hw h1) (q_dayO (b := 1008) hQ hw (by omega) h2) (fun a b ha hb => ⟨ha.1.trans hb.1.symm, _, F, d + 1, ha.2, hb.2.1, fun k hk => (hb.2.2 k (Or.inl hk)).trans (h3 k hk)⟩)
theorem b_days_loop (hT : CT G kf st size ps mast) (hQ : QT G tf op ar) (hw : wOK w r) {N : Nat} (hN : N ≤ 1000) :
    ∀ (c i fu fv : Nat) (fl dt : Int32) (lf nx u fa pl sf lk : Nat → Int32), i + c = N → c < fu → c < fv → BT G w r sf0 wv rv fl dt lf ff sf →
      OT (m_X1_passDays_2 ff kf st size ps mast wv rv (nI N) fu (nI i) fl dt lf nx u) (m_X12_highBehind_2 tf op ar (nI w) (nI r) (nI N) fv (nI i) fa pl sf lk) (fun R R' => R'.1 = R.1 ∧ BT G w r sf0 wv rv R.1 R.2.1 R.2.2.1 ff R'.2.2.2.1)
  | 0, i, fu + 1, fv + 1, fl, dt, lf, nx, u, fa, pl, sf, lk, h, _, _, hB => by
    have : i = N := by omega
    subst this
    unfold m_X1_passDays_2 m_X12_highBehind_2
    refine OT.posL (nI_le (Nat.le_refl _) (by omega)) (OT.posR (nI_le (Nat.le_refl _) (by omega)) (OT.eqR (b_hi hQ hw hB) (OT.ret ⟨rfl, hB⟩)))
  | c + 1, i, fu + 1, fv + 1, fl, dt, lf, nx, u, fa, pl, sf, lk, h, hf, hf', hB => by
    unfold m_X1_passDays_2 m_X12_highBehind_2
    refine OT.negL (nI_ge (by omega) (by omega)) (OT.negR (nI_ge (by omega) (by omega)) (OT.bd (b_day hT hQ hw hB) (fun R R' hR => ?_)))
    rw [nI_1]
    exact b_days_loop hT hQ hw hN c (i + 1) fu fv _ _ _ _ _ _ _ _ _ (by omega) (by omega) (by omega) hR.2
theorem b_days (hT : CT G kf st size ps mast) (hQ : QT G tf op ar) (hw : wOK w r) {N : Nat} (hN : N ≤ 1000) (h : BT G w r sf0 wv rv fl dt lf ff sf) :
    OT (m_X1_passDays lf ff dt nx kf st u size ps mast wv rv fl (nI N)) (m_X12_highBehind tf op ar fa pl sf (nI w) (nI r) lk (nI N)) (fun R R' => R'.1 = R.1 ∧ BT G w r sf0 wv rv R.1 R.2.1 R.2.2.1 ff R'.2.2.2.1) := by
  have hFU := FU_ge
  unfold m_X1_passDays m_X12_highBehind
  revert hFU
  generalize FU = fu
  intro hFU
  exact b_days_loop hT hQ hw hN N 0 fu fu _ _ _ _ _ _ _ _ _ (by omega) (by omega) (by omega) h
/-- a day on the model's side, told with how high it stands then -/
theorem b_day1 (hT : CT G kf st size ps mast) (hQ : QT G tf op ar) (hw : wOK w r) (h : BT G w r sf0 wv rv fl dt lf ff sf) :
    OT (m_X1_passDay lf ff dt nx kf st u size ps mast wv rv fl) (m_X12_highBehind tf op ar fa pl sf (nI w) (nI r) lk 1) (fun R R' => R'.1 = R.2.1 ∧ BT G w r sf0 wv rv R.2.1 R.2.2.1 R.2.2.2.1 ff R'.2.2.2.1) := by
  have hFU := FU_ge
  unfold m_X12_highBehind
  revert hFU
  generalize FU = fu
  intro hFU
  obtain ⟨f, rfl⟩ : ∃ f, fu = f + 1 + 1 := ⟨fu - 2, by omega⟩
  unfold m_X12_highBehind_2
  refine OT.negR (by decide) ?_
  obtain ⟨a, b, e, e', k1, k2⟩ := b_day (nx := nx) (u := u) (fa := fa) (pl := pl) (lk := lk) hT hQ hw h
  rw [e, e', Option.bind_some]
  unfold m_X12_highBehind_2
  exact OT.posR (by decide) (OT.eqR (b_hi hQ hw k2) (OT.ret ⟨rfl, k2⟩))
theorem b_way (hT : CT G kf st size ps mast) (hQ : QT G tf op ar) (hw : wOK w r) (h : BT G w r sf0 wv rv fl dt lf ff sf) :
    OT (m_X1_wayOfNextDay lf ff dt nx kf st u size ps mast wv rv fl) (m_X12_highBehind tf op ar fa pl sf (nI w) (nI r) lk 1) (fun R R' => R'.1 = R.2.1 ∧ R.1 = (if fl ≤ R.2.1 then (if R.2.1 = fl then 0 else 1) else -1) ∧ BT G w r sf0 wv rv R.2.1 R.2.2.1 R.2.2.2.1 ff R'.2.2.2.1) := by
  obtain ⟨a, b, e, e', k1, k2⟩ := b_day1 (nx := nx) (u := u) (fa := fa) (pl := pl) (lk := lk) hT hQ hw h
  unfold m_X1_wayOfNextDay
  rw [e, e', Option.bind_some]
  refine OT.eqL (a := if fl ≤ a.2.1 then (if a.2.1 = fl then 0 else 1) else -1) ?_ (OT.ret ⟨k1, rfl, k2⟩)
  unfold m_J6_compare_7cf53
  repeat' split
  all_goals rfl
/-! the questions -/
theorem l_later {at_ : Value} {aw ad af adt : Int32} {here : Nat} (hT : CT G kf st size ps mast) (hQ : QT G tf op ar) (hw : wOK w r) (h : NW G lf ff dt sf) (v : Int32) :
    OT (m_X11_later lf ff dt lf0 ff0 adt nx at_ aw ad af here kf st u size ps mast (nI w) (nI r) v) (m_X12_later tf op ar fa pl sf (nI w) (nI r) lk v) (fun R R' => R.1 = R'.1 ∧ ∀ k, k < 1008 → R'.2.2.2.2.1 k = sf k) := by
  obtain ⟨a, b, e, e', k⟩ := b_start (lf0 := lf0) (ff0 := ff0) hT hw h
  unfold m_X11_later m_X12_later
  rw [e', Option.bind_some]
  rcases w_rng v 0 60 (by omega) (by omega) with ⟨h1, h2⟩ | ⟨j, hj, hj', rfl, h1, h2⟩
  · exact OT.eqL h1 (OT.eqR h2 (OT.posL rfl (OT.posR rfl (OT.ret ⟨rfl, k.fr⟩))))
  · refine OT.eqL h1 (OT.eqR h2 (OT.negL (by decide) (OT.negR (by decide) ?_)))
    rw [e, Option.bind_some]
    exact OT.bd (b_days hT hQ hw (by omega) k) (fun R R' hR => OT.ret ⟨hR.1.symm, hR.2.fr⟩)
theorem sill_loop {here : Nat} {lf1 ff1 : Nat → Int32} {dt1 w1 r1 : Int32} (hT : CT G kf st size ps mast) (hQ : QT G tf op ar) (hw : wOK w r) {v : Int32} (hv : m_X12_within v 0 99 = some 1) :
    ∀ (c i fu fv : Nat) (fl dt th : Int32) (lf nx u fa pl sf lk : Nat → Int32), i + c = 61 → c < fu → c < fv → BT G w r sf0 wv rv fl dt lf ff sf →
      OT (m_X11_sill_32 lf1 ff1 dt1 here kf st size ps mast w1 r1 v fu (nI i) wv rv fl dt lf ff nx u) (m_X12_sill_11 tf op ar (nI w) (nI r) v fv (nI i) th fa pl sf lk) (fun R R' => R.1 = R'.1 ∧ ∀ k, k < 1008 → R'.2.2.2.2.1 k = sf0 k)
  | 0, i, fu + 1, fv + 1, fl, dt, th, lf, nx, u, fa, pl, sf, lk, h, _, _, hB => by
    have : i = 61 := by omega
    subst this
    unfold m_X11_sill_32 m_X12_sill_11
    exact OT.posL (by decide) (OT.posR (by decide) (OT.ret ⟨rfl, hB.fr⟩))
  | c + 1, i, fu + 1, fv + 1, fl, dt, th, lf, nx, u, fa, pl, sf, lk, h, hf, hf', hB => by
    unfold m_X11_sill_32 m_X12_sill_11
    refine OT.negL (nI_nlt (a := 60) (by omega) (by omega)) (OT.negR (nI_nlt (a := 60) (by omega) (by omega)) (OT.eqR hv (OT.negR (by decide) (OT.eqR (b_hi hQ hw hB) ?_))))
    refine OT.ite Iff.rfl (fun _ => ?_) (fun _ => OT.ret ⟨rfl, hB.fr⟩)
    refine OT.bd (b_day hT hQ hw hB) (fun R R' hR => ?_)
    rw [nI_1]
    exact sill_loop hT hQ hw hv c (i + 1) fu fv _ _ _ _ _ _ _ _ _ _ (by omega) (by omega) (by omega) hR.2
theorem l_sill {at_ : Value} {aw ad af adt : Int32} {here : Nat} (hT : CT G kf st size ps mast) (hQ : QT G tf op ar) (hw : wOK w r) (h : NW G lf ff dt sf) (v : Int32) :
    OT (m_X11_sill lf ff dt lf0 ff0 adt nx at_ aw ad af here kf st u size ps mast (nI w) (nI r) v) (m_X12_sill tf op ar fa pl sf (nI w) (nI r) lk v) (fun R R' => R.1 = R'.1 ∧ ∀ k, k < 1008 → R'.2.2.2.2.1 k = sf k) := by
  obtain ⟨a, b, e, e', k⟩ := b_start (lf0 := lf0) (ff0 := ff0) hT hw h
  have hFU := FU_ge
  unfold m_X11_sill m_X12_sill
  rw [e', Option.bind_some]
  revert hFU
  generalize FU = fu
  intro hFU
  rcases w_rng v 0 99 (by omega) (by omega) with ⟨h1, h2⟩ | ⟨j, hj, hj', rfl, h1, h2⟩
  · refine OT.eqL h1 (OT.posL rfl ?_)
    obtain ⟨f, rfl⟩ : ∃ f, fu = f + 1 := ⟨fu - 1, by omega⟩
    unfold m_X12_sill_11
    exact OT.negR (by decide) (OT.eqR h2 (OT.posR rfl (OT.ret ⟨rfl, k.fr⟩)))
  · refine OT.eqL h1 (OT.negL (by decide) ?_)
    rw [e, Option.bind_some]
    exact sill_loop hT hQ hw h2 61 0 fu fu _ _ _ _ _ _ _ _ _ _ (by omega) (by omega) (by omega) k
/-- what a day's way says of how high it stands ahead and behind -/
theorem way0 {x y : Int32} : (if x ≤ y then (if y = x then (0 : Int32) else 1) else -1) = 0 ↔ y = x := by
  constructor
  · intro h
    by_cases h1 : x ≤ y
    · rw [if_pos h1] at h
      by_cases h2 : y = x
      · exact h2
      · rw [if_neg h2] at h; exact absurd h (by decide)
    · rw [if_neg h1] at h; exact absurd h (by decide)
  · intro h
    subst h
    rw [if_pos (Int32.le_refl _), if_pos rfl]
theorem wayp {x y : Int32} : (if x ≤ y then (if y = x then (0 : Int32) else 1) else -1) ≤ 0 ↔ ¬ x < y := by
  by_cases h1 : x ≤ y
  · rw [if_pos h1]
    by_cases h2 : y = x
    · rw [if_pos h2, h2]
      exact ⟨fun _ => Int32.lt_irrefl, fun _ => by decide⟩
    · rw [if_neg h2]
      refine ⟨fun h => absurd h (by decide), fun h => absurd ?_ h⟩
      rw [Int32.lt_iff_toInt_lt]; rw [Int32.le_iff_toInt_le] at h1
      have : ¬ y.toInt = x.toInt := fun e => h2 (Int32.toInt_inj.mp e)
      omega
  · rw [if_neg h1]
    refine ⟨fun _ h => h1 ?_, fun _ => by decide⟩
    rw [Int32.lt_iff_toInt_lt] at h; rw [Int32.le_iff_toInt_le]; omega
theorem moves_loop {here : Nat} {lf1 ff1 : Nat → Int32} {dt1 w1 r1 : Int32} (hT : CT G kf st size ps mast) (hQ : QT G tf op ar) (hw : wOK w r) {N : Nat} (hN : N ≤ 60) :
    ∀ (c i fu fv : Nat) (x fl dt : Int32) (lf nx u fa pl sf lk : Nat → Int32), i + c = N → c < fu → c < fv → BT G w r sf0 wv rv fl dt lf ff sf →
      OT (m_X11_moves_34 lf1 ff1 dt1 here kf st size ps mast w1 r1 (nI N) fu x (nI i) wv rv fl dt lf ff nx u) (m_X12_movesIn_9 tf op ar (nI w) (nI r) (nI N) 1 fv x (nI i) fa pl sf lk) (fun R R' => R.1 = R'.1 ∧ ∀ k, k < 1008 → R'.2.2.2.1 k = sf0 k)
  | 0, i, fu + 1, fv + 1, x, fl, dt, lf, nx, u, fa, pl, sf, lk, h, _, _, hB => by
    have : i = N := by omega
    subst this
    unfold m_X11_moves_34 m_X12_movesIn_9
    exact OT.posL (nI_le (Nat.le_refl _) (by omega)) (OT.posR (nI_le (Nat.le_refl _) (by omega)) (OT.ret ⟨rfl, hB.fr⟩))
  | c + 1, i, fu + 1, fv + 1, x, fl, dt, lf, nx, u, fa, pl, sf, lk, h, hf, hf', hB => by
    unfold m_X11_moves_34 m_X12_movesIn_9
    refine OT.negL (nI_ge (by omega) (by omega)) (OT.negR (nI_ge (by omega) (by omega)) (OT.eqR (b_hi hQ hw hB) (OT.bd (b_way hT hQ hw hB) (fun R R' hR => ?_))))
    obtain ⟨q1, q2, q3⟩ := hR
    rw [nI_1, q1, q2]
    have go := fun y : Int32 => moves_loop (here := here) (lf1 := lf1) (ff1 := ff1) (dt1 := dt1) (w1 := w1) (r1 := r1) hT hQ hw hN c (i + 1) fu fv y R.2.1 R.2.2.1 R.2.2.2.1 R.2.2.2.2.1 R.2.2.2.2.2 R'.2.1 R'.2.2.1 R'.2.2.2.1 R'.2.2.2.2 (by omega) (by omega) (by omega) q3
    by_cases he : R.2.1 = fl
    · exact OT.posL (way0.mpr he) (OT.negR (by rw [he]; exact Int32.lt_irrefl) (OT.negR (by decide) (OT.posR he (go _))))
    · refine OT.negL (fun z => he (way0.mp z)) (OT.itR (fun _ => go _) (fun _ => OT.negR (by decide) (OT.negR he (go _))))
theorem l_moves {at_ : Value} {aw ad af adt : Int32} {here : Nat} (hT : CT G kf st size ps mast) (hQ : QT G tf op ar) (hw : wOK w r) (h : NW G lf ff dt sf) (v : Int32) :
    OT (m_X11_moves lf ff dt lf0 ff0 adt nx at_ aw ad af here kf st u size ps mast (nI w) (nI r) v) (m_X12_moves tf op ar fa pl sf (nI w) (nI r) lk v) (fun R R' => R.1 = R'.1 ∧ ∀ k, k < 1008 → R'.2.2.2.2.1 k = sf k) := by
  obtain ⟨a, b, e, e', k⟩ := b_start (lf0 := lf0) (ff0 := ff0) hT hw h
  have hFU := FU_ge
  unfold m_X11_moves m_X12_moves m_X12_movesIn
  revert hFU
  generalize FU = fu
  intro hFU
  rcases w_rng v 1 60 (by omega) (by omega) with ⟨h1, h2⟩ | ⟨j, hj, hj', rfl, h1, h2⟩
  · exact OT.eqL h1 (OT.eqR h2 (OT.posL rfl (OT.posR rfl (OT.ret ⟨rfl, fun _ _ => rfl⟩))))
  · refine OT.eqL h1 (OT.eqR h2 (OT.negL (by decide) (OT.negR (by decide) ?_)))
    rw [e, e', Option.bind_some, Option.bind_some]
    exact OT.thR (moves_loop hT hQ hw hj' j 0 fu fu 0 _ _ _ nx u fa pl _ lk (by omega) (by omega) (by omega) k) (fun R R' hR => OK.ret hR)
theorem rises_loop {here : Nat} {lf1 ff1 : Nat → Int32} {dt1 w1 r1 : Int32} (hT : CT G kf st size ps mast) (hQ : QT G tf op ar) (hw : wOK w r) {N : Nat} (hN : N ≤ 60) :
    ∀ (c i fu fv : Nat) (x fl dt : Int32) (lf nx u fa pl sf lk : Nat → Int32), i + c = N → c < fu → c < fv → BT G w r sf0 wv rv fl dt lf ff sf →
      OT (m_X11_rises_34 lf1 ff1 dt1 here kf st size ps mast w1 r1 (nI N) fu x (nI i) wv rv fl dt lf ff nx u) (m_X12_movesIn_9 tf op ar (nI w) (nI r) (nI N) 0 fv x (nI i) fa pl sf lk) (fun R R' => R.1 = R'.1 ∧ ∀ k, k < 1008 → R'.2.2.2.1 k = sf0 k)
  | 0, i, fu + 1, fv + 1, x, fl, dt, lf, nx, u, fa, pl, sf, lk, h, _, _, hB => by
    have : i = N := by omega
    subst this
    unfold m_X11_rises_34 m_X12_movesIn_9
    exact OT.posL (nI_le (Nat.le_refl _) (by omega)) (OT.posR (nI_le (Nat.le_refl _) (by omega)) (OT.ret ⟨rfl, hB.fr⟩))
  | c + 1, i, fu + 1, fv + 1, x, fl, dt, lf, nx, u, fa, pl, sf, lk, h, hf, hf', hB => by
    unfold m_X11_rises_34 m_X12_movesIn_9
    refine OT.negL (nI_ge (by omega) (by omega)) (OT.negR (nI_ge (by omega) (by omega)) (OT.eqR (b_hi hQ hw hB) (OT.bd (b_way hT hQ hw hB) (fun R R' hR => ?_))))
    obtain ⟨q1, q2, q3⟩ := hR
    rw [nI_1, q1, q2]
    have go := fun y : Int32 => rises_loop (here := here) (lf1 := lf1) (ff1 := ff1) (dt1 := dt1) (w1 := w1) (r1 := r1) hT hQ hw hN c (i + 1) fu fv y R.2.1 R.2.2.1 R.2.2.2.1 R.2.2.2.2.1 R.2.2.2.2.2 R'.2.1 R'.2.2.1 R'.2.2.2.1 R'.2.2.2.2 (by omega) (by omega) (by omega) q3
    by_cases he : fl < R.2.1
    · exact OT.negL (fun z => wayp.mp z he) (OT.posR he (go _))
    · exact OT.posL (wayp.mpr he) (OT.negR he (OT.posR rfl (go _)))
theorem l_rises {at_ : Value} {aw ad af adt : Int32} {here : Nat} (hT : CT G kf st size ps mast) (hQ : QT G tf op ar) (hw : wOK w r) (h : NW G lf ff dt sf) (v : Int32) :
    OT (m_X11_rises lf ff dt lf0 ff0 adt nx at_ aw ad af here kf st u size ps mast (nI w) (nI r) v) (m_X12_rises tf op ar fa pl sf (nI w) (nI r) lk v) (fun R R' => R.1 = R'.1 ∧ ∀ k, k < 1008 → R'.2.2.2.2.1 k = sf k) := by
  obtain ⟨a, b, e, e', k⟩ := b_start (lf0 := lf0) (ff0 := ff0) hT hw h
  have hFU := FU_ge
  unfold m_X11_rises m_X12_rises m_X12_movesIn
  revert hFU
  generalize FU = fu
  intro hFU
  rcases w_rng v 1 60 (by omega) (by omega) with ⟨h1, h2⟩ | ⟨j, hj, hj', rfl, h1, h2⟩
  · exact OT.eqL h1 (OT.eqR h2 (OT.posL rfl (OT.posR rfl (OT.ret ⟨rfl, fun _ _ => rfl⟩))))
  · refine OT.eqL h1 (OT.eqR h2 (OT.negL (by decide) (OT.negR (by decide) ?_)))
    rw [e, e', Option.bind_some, Option.bind_some]
    exact OT.thR (rises_loop hT hQ hw hj' j 0 fu fu 0 _ _ _ nx u fa pl _ lk (by omega) (by omega) (by omega) k) (fun R R' hR => OK.ret hR)
theorem settled_loop {lf1 ff1 : Nat → Int32} {dt1 w1 r1 : Int32} (hT : CT G kf st size ps mast) (hQ : QT G tf op ar) (hw : wOK w r) :
    ∀ (c i fu fv : Nat) (fl dt th : Int32) (lf nx u fa pl sf lk : Nat → Int32), i + c = 61 → c < fu → c < fv → BT G w r sf0 wv rv fl dt lf ff sf →
      OT (m_X11_settled_20 lf1 ff1 dt1 kf st size ps mast w1 r1 fu (nI i) wv rv fl dt lf ff nx u) (m_X12_settled_11 tf op ar (nI w) (nI r) fv (nI i) th fa pl sf lk) (fun R R' => R.1 = R'.1 ∧ ∀ k, k < 1008 → R'.2.2.2.2.1 k = sf0 k)
  | 0, i, fu + 1, fv + 1, fl, dt, th, lf, nx, u, fa, pl, sf, lk, h, _, _, hB => by
    have : i = 61 := by omega
    subst this
    unfold m_X11_settled_20 m_X12_settled_11
    exact OT.posL (by decide) (OT.posR (by decide) (OT.ret ⟨rfl, hB.fr⟩))
  | c + 1, i, fu + 1, fv + 1, fl, dt, th, lf, nx, u, fa, pl, sf, lk, h, hf, hf', hB => by
    unfold m_X11_settled_20 m_X12_settled_11
    refine OT.negL (nI_nlt (a := 60) (by omega) (by omega)) (OT.negR (nI_nlt (a := 60) (by omega) (by omega)) (OT.bd (b_day hT hQ hw hB) (fun R R' hR => ?_)))
    rw [nI_1]
    refine OT.ite (by rw [hR.1]) (fun _ => OT.ret ⟨rfl, hR.2.fr⟩) (fun _ => ?_)
    exact settled_loop hT hQ hw c (i + 1) fu fv _ _ _ _ _ _ _ _ _ _ (by omega) (by omega) (by omega) hR.2
theorem l_settled (hT : CT G kf st size ps mast) (hQ : QT G tf op ar) (hw : wOK w r) (h : NW G lf ff dt sf) :
    OT (m_X11_settled lf ff dt lf0 ff0 nx kf st u size ps mast (nI w) (nI r)) (m_X12_settled tf op ar fa pl sf (nI w) (nI r) lk) (fun R R' => R.1 = R'.1 ∧ ∀ k, k < 1008 → R'.2.2.2.2.1 k = sf k) := by
  have hFU := FU_ge
  unfold m_X11_settled m_X12_settled
  revert hFU
  generalize FU = fu
  intro hFU
  exact OT.bd (b_start hT hw h) (fun R R' k => settled_loop hT hQ hw 61 0 fu fu _ _ _ _ _ _ _ _ _ _ (by omega) (by omega) (by omega) k)
theorem lowest_loop {lf1 ff1 : Nat → Int32} {dt1 w1 r1 : Int32} (hT : CT G kf st size ps mast) (hQ : QT G tf op ar) (hw : wOK w r) :
    ∀ (c i fu fv : Nat) (x y fl dt th : Int32) (lf nx u fa pl sf lk : Nat → Int32), i + c = 61 → c < fu → c < fv → BT G w r sf0 wv rv fl dt lf ff sf →
      OT (m_X11_lowest_30 lf1 ff1 dt1 kf st size ps mast w1 r1 fu x y (nI i) wv rv fl dt lf ff nx u) (m_X12_lowest_21 tf op ar (nI w) (nI r) fv y x (nI i) th fa pl sf lk) (fun R R' => R.1 = R'.1 ∧ ∀ k, k < 1008 → R'.2.2.2.2.1 k = sf0 k)
  | 0, i, fu + 1, fv + 1, x, y, fl, dt, th, lf, nx, u, fa, pl, sf, lk, h, _, _, hB => by
    have : i = 61 := by omega
    subst this
    unfold m_X11_lowest_30 m_X12_lowest_21
    exact OT.posL (by decide) (OT.posR (by decide) (OT.ret ⟨rfl, hB.fr⟩))
  | c + 1, i, fu + 1, fv + 1, x, y, fl, dt, th, lf, nx, u, fa, pl, sf, lk, h, hf, hf', hB => by
    unfold m_X11_lowest_30 m_X12_lowest_21
    refine OT.negL (nI_nlt (a := 60) (by omega) (by omega)) (OT.negR (nI_nlt (a := 60) (by omega) (by omega)) (OT.bd (b_day1 hT hQ hw hB) (fun R R' hR => ?_)))
    unfold m_X12_lowest_45
    rw [nI_1, hR.1]
    refine OT.ite Iff.rfl (fun z => OT.posR z ?_) (fun z => OT.negR z ?_)
    · exact lowest_loop hT hQ hw c (i + 1) fu fv _ _ _ _ _ _ _ _ _ _ _ _ (by omega) (by omega) (by omega) hR.2
    · exact lowest_loop hT hQ hw c (i + 1) fu fv _ _ _ _ _ _ _ _ _ _ _ _ (by omega) (by omega) (by omega) hR.2
theorem l_lowest (hT : CT G kf st size ps mast) (hQ : QT G tf op ar) (hw : wOK w r) (h : NW G lf ff dt sf) :
    OT (m_X11_lowest lf ff dt lf0 ff0 nx kf st u size ps mast (nI w) (nI r)) (m_X12_lowest tf op ar fa pl sf (nI w) (nI r) lk) (fun R R' => R.1 = R'.1 ∧ ∀ k, k < 1008 → R'.2.2.2.2.1 k = sf k) := by
  have hFU := FU_ge
  unfold m_X11_lowest m_X12_lowest
  revert hFU
  generalize FU = fu
  intro hFU
  exact OT.bd (b_start hT hw h) (fun R R' k => OT.eqR (b_hi hQ hw k) (lowest_loop hT hQ hw 60 1 fu fu _ _ _ _ _ _ _ _ _ _ _ _ (by omega) (by omega) (by omega) k))
end DAYS
