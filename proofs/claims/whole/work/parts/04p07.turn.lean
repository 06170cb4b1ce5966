/-! PURE: turn, range, faith; letting off, losing; blame -/
theorem i_lt {x y : Int32} : x < y ↔ ¬ y ≤ x := by rw [Int32.lt_iff_toInt_lt, Int32.le_iff_toInt_le]; omega
def setL (L : Nat → Nat) (p v : Nat) : Nat → Nat := fun j => if j = p then v else L j
theorem setL_le {L : Nat → Nat} {p v : Nat} (h : ∀ j, j < 6 → L j ≤ 60) (hv : v ≤ 60) : ∀ j, j < 6 → setL L p v j ≤ 60 := by
  intro j hj
  unfold setL
  split
  · exact hv
  · exact h j hj
def shN (l : Nat) (m : Int32) : Nat := (clI (nI l + m) 0 60).toNatClampNeg
theorem sh_ok {l : Nat} {m : Int32} : clI (nI l + m) 0 60 = nI (shN l m) ∧ shN l m ≤ 60 := by
  obtain ⟨j, hj, e⟩ := cl_nat (nI l + m)
  unfold shN
  rw [e, nI_clamp (by omega)]
  exact ⟨rfl, hj⟩
theorem sh_off : ∀ l : Nat, l ≤ 60 → shN l (-60) = 0 := by decide +kernel
def woL (S : Nat) (L : Nat → Nat) : Nat → Nat := fun p => if S.testBit p = true then 0 else L p
theorem wo_one {p : Nat} {L : Nat → Nat} : woL (2 ^ p) L = setL L p 0 := by
  funext j
  unfold woL setL
  by_cases h : j = p
  · rw [if_pos h, h, if_pos (by simp [Nat.testBit_two_pow_self])]
  · rw [if_neg h, if_neg (by simp [Nat.testBit_two_pow]; omega)]
theorem wo_le {S : Nat} {L : Nat → Nat} (h : ∀ j, j < 6 → L j ≤ 60) : ∀ j, j < 6 → woL S L j ≤ 60 := by
  intro j hj
  unfold woL
  split
  · omega
  · exact h j hj
theorem b_bit : ∀ p : Nat, p < 6 → (1 : Int32) <<< (nI p &&& 31) = nI (2 ^ p) := by decide +kernel
section TURN
variable {G : Gm} {w r : Nat} {sf0 kf st tf op ar lf ff sf lf0 ff0 nx u fa pl lk : Nat → Int32} {size ps mast wv rv fl dt : Int32}
theorem NW.fr (hG : gOK G) (h : NW G lf ff dt sf0) (e : ∀ k, k < 1008 → sf k = sf0 k) : NW G lf ff dt sf := by
  obtain ⟨L, F, d, h1, h2⟩ := h
  exact ⟨L, F, d, h1, h2.same hG (fun k _ hk => e k (by omega))⟩
theorem b_lack (hQ : gOK G) (h : BT G w r sf0 wv rv fl dt lf ff sf) {p : Nat} (hp : p < G.1) : ∃ j : Nat, j ≤ 60 ∧ m_X1_lacking lf (nI p) = some (nI j) ∧ sf (1009 + p) = nI j := by
  obtain ⟨L, F, d, h1, h2, -⟩ := h
  have hn := hQ.1
  refine ⟨L p, h2.1.1 p (by omega), ?_, h2.2.2.1 p hp⟩
  unfold m_X1_lacking
  rw [p_at (show p < 6 by omega) (by omega), h1.2.2.2.2.2.1 p (by omega)]
  rfl
theorem c_shift {L F : Nat → Nat} {d p : Nat} {m : Int32} (hT : CT G kf st size ps mast) (hw : wOK w r) (h : CC G w r L F d wv rv fl dt lf ff) (hp : p < G.1) : OK (m_X1_shift lf kf ps mast wv rv (nI p) m) (fun R => CC G w r (setL L p (shN (L p) m)) F d wv rv R.1 dt R.2 ff) := by
  obtain ⟨rfl, rfl, rfl, hl, rfl, h1, h2⟩ := h
  have hn := hT.1.1
  unfold m_X1_shift m_X1_lacking
  rw [p_at (show p < 6 by omega) (by omega), Option.bind_some, Option.bind_some, h1 p (by omega), p_between (by decide), Option.bind_some, sh_ok.1, p_put (show p < 6 by omega) (by omega), Option.bind_some]
  have e1 : ∀ j, j < 6 → upd lf p (nI (shN (L p) m)) j = nI (setL L p (shN (L p) m) j) := by
    intro j hj
    unfold upd setL
    by_cases e : j = p
    · rw [if_pos e, if_pos e]
    · rw [if_neg e, if_neg e]; exact h1 j hj
  refine OK.eq (c_flag hT hw (setL_le hl.1 sh_ok.2) e1) (OK.ret ⟨rfl, rfl, rfl, ⟨setL_le hl.1 sh_ok.2, hl.2⟩, rfl, e1, h2⟩)
theorem c_letOff {L F : Nat → Nat} {d p : Nat} (hT : CT G kf st size ps mast) (hw : wOK w r) (h : CC G w r L F d wv rv fl dt lf ff) (hp : p < G.1) : OK (m_X1_letOff lf kf ps mast wv rv (nI p)) (fun R => CC G w r (setL L p 0) F d wv rv R.1 dt R.2 ff) := by
  have hn := hT.1.1
  have := c_shift (m := -60) hT hw h hp
  rw [sh_off _ (h.2.2.2.1.1 p (by omega))] at this
  exact OK.bd this (fun _ h => OK.ret h)
theorem q_loses {L F : Nat → Nat} {b d p : Nat} {m : Int32} (hG : gOK G) (hb : b ≤ 1056) (h : QS G b L F d sf) (hp : p < G.1) : OK (m_X12_loses sf (nI b) (nI p) m) (fun R => QS G b (setL L p (shN (L p) m)) F d R ∧ ∀ k, (k < b ∨ b + 13 ≤ k) → R k = sf k) := by
  obtain ⟨hl, h0, h1, h2⟩ := h
  have hn := hG.1
  have e : nI b + 1 + nI p = nI (b + 1 + p) := by rw [nI_1, nI_add]
  unfold m_X12_loses
  rw [e, nI_clamp (show b + 1 + p < 2 ^ 31 by omega), h1 p hp, q_kept', Option.bind_some, sh_ok.1]
  refine OK.pos (pn_in2 (by omega) (by omega)) (OK.pos (pn_in2 (by omega) (by omega)) (OK.ret ⟨⟨⟨setL_le hl.1 sh_ok.2, hl.2⟩, ?_, fun j hj => ?_, fun j hj => ?_⟩, fun k hk => ?_⟩))
  · unfold upd; rw [if_neg (by omega)]; exact h0
  · unfold upd setL
    by_cases e : j = p
    · rw [if_pos (by omega), if_pos e]
    · rw [if_neg (by omega), if_neg e]; exact h1 j hj
  · unfold upd; rw [if_neg (by omega)]; exact h2 j hj
  · unfold upd; rw [if_neg (by omega)]
theorem b_shift {p : Nat} {m : Int32} (hT : CT G kf st size ps mast) (hw : wOK w r) (h : BT G w r sf0 wv rv fl dt lf ff sf) (hp : p < G.1) : OT (m_X1_shift lf kf ps mast wv rv (nI p) m) (m_X12_loses sf 1008 (nI p) m) (fun R R' => BT G w r sf0 wv rv R.1 dt R.2 ff R') := by
  obtain ⟨L, F, d, h1, h2, h3⟩ := h
  exact OT.of (c_shift hT hw h1 hp) (q_loses (b := 1008) hT.1 (by omega) h2 hp) (fun a b ha hb => ⟨_, F, d, ha, hb.1, fun k hk => (hb.2 k (Or.inl hk)).trans (h3 k hk)⟩)
theorem turn_loop {lf1 ff1 : Nat → Int32} {dt1 w1 r1 : Int32} (hT : CT G kf st size ps mast) (hQ : QT G tf op ar) (hw : wOK w r) :
    ∀ (c i fu fv : Nat) (x fl dt th : Int32) (lf nx u fa pl sf lk : Nat → Int32), i + c = 61 → c < fu → c < fv → (x = 0 ∨ x = 1 ∨ x = -1) → BT G w r sf0 wv rv fl dt lf ff sf →
      OT (m_X11_turn_22 lf1 ff1 dt1 kf st size ps mast w1 r1 fu x (nI i) wv rv fl dt lf ff nx u) (m_X12_turn_13 tf op ar (nI w) (nI r) fv x (nI i) th fa pl sf lk) (fun R R' => R.1 = R'.1 ∧ ∀ k, k < 1008 → R'.2.2.2.2.1 k = sf0 k)
  | 0, i, fu + 1, fv + 1, x, fl, dt, th, lf, nx, u, fa, pl, sf, lk, h, _, _, _, hB => by
    have : i = 61 := by omega
    subst this
    unfold m_X11_turn_22 m_X12_turn_13
    exact OT.posL (by decide) (OT.posR (by decide) (OT.ret ⟨rfl, hB.fr⟩))
  | c + 1, i, fu + 1, fv + 1, x, fl, dt, th, lf, nx, u, fa, pl, sf, lk, h, hf, hf', hx, hB => by
    unfold m_X11_turn_22 m_X12_turn_13
    refine OT.negL (nI_nlt (a := 60) (by omega) (by omega)) (OT.negR (nI_nlt (a := 60) (by omega) (by omega)) (OT.eqR (b_hi hQ hw hB) (OT.bd (b_way hT hQ hw hB) (fun R R' hR => ?_))))
    obtain ⟨q1, q2, q3⟩ := hR
    have go := fun (y : Int32) (hy : y = 0 ∨ y = 1 ∨ y = -1) => turn_loop (lf1 := lf1) (ff1 := ff1) (dt1 := dt1) (w1 := w1) (r1 := r1) hT hQ hw c (i + 1) fu fv y R.2.1 R.2.2.1 th R.2.2.2.1 R.2.2.2.2.1 R.2.2.2.2.2 R'.2.1 R'.2.2.1 R'.2.2.2.1 R'.2.2.2.2 (by omega) (by omega) (by omega) hy q3
    unfold m_X11_turn_48 m_X12_turn_55
    rw [q1, nI_1]
    by_cases h1 : fl ≤ R.2.1
    · by_cases h2 : R.2.1 = fl
      · rw [if_pos h1, if_pos h2] at q2
        refine OT.posL q2 (OT.posL q2 (OT.posR (by rw [h2]; exact Int32.le_refl _) (OT.posR h1 (OT.posR ?_ (OT.posR rfl (go x hx))))))
        rcases hx with rfl | rfl | rfl <;> decide
      · rw [if_pos h1, if_neg h2] at q2
        have h3 : ¬ R.2.1 ≤ fl := fun z => h2 (by rw [Int32.le_iff_toInt_le] at z h1; exact Int32.toInt_inj.mp (by omega))
        rw [q2]
        refine OT.negL (by decide) (OT.negR h3 ?_)
        rcases hx with rfl | rfl | rfl
        · exact OT.negL (by decide) (OT.negL (by decide) (OT.posR (by decide) (OT.negR (by decide) (go 1 (by decide)))))
        · exact OT.negL (by decide) (OT.negL (by decide) (OT.posR (by decide) (OT.negR (by decide) (go 1 (by decide)))))
        · exact OT.posL (by decide) (OT.negR (by decide) (OT.ret ⟨rfl, q3.fr⟩))
    · rw [if_neg h1] at q2
      have h3 : R.2.1 ≤ fl := by rw [Int32.le_iff_toInt_le] at h1 ⊢; omega
      rw [q2]
      refine OT.negL (by decide) (OT.posR h3 (OT.negR h1 ?_))
      rcases hx with rfl | rfl | rfl
      · exact OT.negL (by decide) (OT.negL (by decide) (OT.posR (by decide) (OT.negR (by decide) (go (-1) (by decide)))))
      · exact OT.posL (by decide) (OT.negR (by decide) (OT.ret ⟨rfl, q3.fr⟩))
      · exact OT.negL (by decide) (OT.negL (by decide) (OT.posR (by decide) (OT.negR (by decide) (go (-1) (by decide)))))
theorem l_turn (hT : CT G kf st size ps mast) (hQ : QT G tf op ar) (hw : wOK w r) (h : NW G lf ff dt sf) :
    OT (m_X11_turn lf ff dt lf0 ff0 nx kf st u size ps mast (nI w) (nI r)) (m_X12_turn tf op ar fa pl sf (nI w) (nI r) lk) (fun R R' => R.1 = R'.1 ∧ ∀ k, k < 1008 → R'.2.2.2.2.1 k = sf k) := by
  have hFU := FU_ge
  unfold m_X11_turn m_X12_turn
  revert hFU
  generalize FU = fu
  intro hFU
  exact OT.bd (b_start hT hw h) (fun R R' k => turn_loop hT hQ hw 60 1 fu fu 0 _ _ _ _ _ _ _ _ _ _ (by omega) (by omega) (by omega) (by decide) k)
theorem range_loop {here : Nat} {lf1 ff1 : Nat → Int32} {dt1 w1 r1 : Int32} (hT : CT G kf st size ps mast) (hQ : QT G tf op ar) (hw : wOK w r) {N : Nat} (hN : N ≤ 60) :
    ∀ (c i fu fv : Nat) (x y fl dt th : Int32) (lf nx u fa pl sf lk : Nat → Int32), i + c = N → c < fu → c < fv → BT G w r sf0 wv rv fl dt lf ff sf →
      OT (m_X11_range_49 lf1 ff1 dt1 here kf st size ps mast w1 r1 (nI N) fu x y (nI i) wv rv fl dt lf ff nx u) (m_X12_range_34 tf op ar (nI w) (nI r) (nI N) fv y x (nI (i + 1)) th fa pl sf lk) (fun R R' => R.1 = R'.1 ∧ ∀ k, k < 1008 → R'.2.2.2.2.1 k = sf0 k)
  | 0, i, fu + 1, fv + 1, x, y, fl, dt, th, lf, nx, u, fa, pl, sf, lk, h, _, _, hB => by
    have : i = N := by omega
    subst this
    unfold m_X11_range_49 m_X12_range_34
    exact OT.posL (nI_le (Nat.le_refl _) (by omega)) (OT.posR (nI_lt (by omega) (by omega)) (OT.ret ⟨rfl, hB.fr⟩))
  | c + 1, i, fu + 1, fv + 1, x, y, fl, dt, th, lf, nx, u, fa, pl, sf, lk, h, hf, hf', hB => by
    unfold m_X11_range_49 m_X12_range_34
    refine OT.negL (nI_ge (by omega) (by omega)) (OT.negR (nI_nlt (by omega) (by omega)) (OT.bd (b_day1 hT hQ hw hB) (fun R R' hR => ?_)))
    unfold m_X12_range_59
    rw [nI_1, nI_1, hR.1]
    have go := fun (x y : Int32) => range_loop (here := here) (lf1 := lf1) (ff1 := ff1) (dt1 := dt1) (w1 := w1) (r1 := r1) hT hQ hw hN c (i + 1) fu fv x y R.2.1 R.2.2.1 th R.2.2.2.1 R.2.2.2.2.1 R.2.2.2.2.2 R'.2.1 R'.2.2.1 R'.2.2.2.1 R'.2.2.2.2 (by omega) (by omega) (by omega) hR.2
    by_cases a : y ≤ R.2.1
    · rw [if_neg (fun z => (i_lt.mp z) a)]
      refine OT.posR a ?_
      by_cases b : R.2.1 ≤ x
      · rw [if_neg (fun z => (i_lt.mp z) b)]
        exact OT.posR b (go _ _)
      · rw [if_pos (i_lt.mpr b)]
        exact OT.negR b (go _ _)
    · rw [if_pos (i_lt.mpr a)]
      refine OT.negR a ?_
      by_cases b : R.2.1 ≤ x
      · rw [if_neg (fun z => (i_lt.mp z) b)]
        exact OT.posR b (go _ _)
      · rw [if_pos (i_lt.mpr b)]
        exact OT.negR b (go _ _)
theorem l_range {at_ : Value} {aw ad af adt : Int32} {here : Nat} (hT : CT G kf st size ps mast) (hQ : QT G tf op ar) (hw : wOK w r) (h : NW G lf ff dt sf) (v : Int32) :
    OT (m_X11_range lf ff dt lf0 ff0 adt nx at_ aw ad af here kf st u size ps mast (nI w) (nI r) v) (m_X12_range tf op ar fa pl sf (nI w) (nI r) lk v) (fun R R' => R.1 = R'.1 ∧ ∀ k, k < 1008 → R'.2.2.2.2.1 k = sf k) := by
  have hFU := FU_ge
  unfold m_X11_range m_X12_range
  revert hFU
  generalize FU = fu
  intro hFU
  rcases w_rng v 1 60 (by omega) (by omega) with ⟨h1, h2⟩ | ⟨j, hj, hj', rfl, h1, h2⟩
  · exact OT.eqL h1 (OT.eqR h2 (OT.posL rfl (OT.posR rfl (OT.ret ⟨rfl, fun _ _ => rfl⟩))))
  · refine OT.eqL h1 (OT.eqR h2 (OT.negL (by decide) (OT.negR (by decide) ?_)))
    exact OT.bd (b_start hT hw h) (fun R R' k => OT.eqR (b_hi hQ hw k) (range_loop hT hQ hw hj' j 0 fu fu _ _ _ _ _ _ _ _ _ _ _ _ (by omega) (by omega) (by omega) k))
theorem faith_loop {here : Nat} {lf1 ff1 : Nat → Int32} {dt1 w1 r1 : Int32} (hT : CT G kf st size ps mast) (hQ : QT G tf op ar) (hw : wOK w r) {p : Nat} (hp : p < G.1) :
    ∀ (c i fu fv : Nat) (x fl dt th : Int32) (lf nx u fa pl sf lk : Nat → Int32), i + c = 20 → c < fu → c < fv → BT G w r sf0 wv rv fl dt lf ff sf →
      OT (m_X11_faith_35 lf1 ff1 dt1 here kf st size ps mast w1 r1 (nI p) fu x (nI i) wv rv fl dt lf ff nx u) (m_X12_faith_23 tf op ar (nI w) (nI r) (nI p) fv x (nI i) th fa pl sf lk) (fun R R' => R.1 = R'.1 ∧ ∀ k, k < 1008 → R'.2.2.2.2.1 k = sf0 k)
  | 0, i, fu + 1, fv + 1, x, fl, dt, th, lf, nx, u, fa, pl, sf, lk, h, _, _, hB => by
    have : i = 20 := by omega
    subst this
    unfold m_X11_faith_35 m_X12_faith_23
    exact OT.posL (by decide) (OT.posR (by decide) (OT.ret ⟨rfl, hB.fr⟩))
  | c + 1, i, fu + 1, fv + 1, x, fl, dt, th, lf, nx, u, fa, pl, sf, lk, h, hf, hf', hB => by
    have hn := hT.1.1
    have e : (1009 : Int32) + nI p = nI (1009 + p) := nI_add 1009 p
    obtain ⟨j, hj, e1, e2⟩ := b_lack hT.1 hB hp
    unfold m_X11_faith_35 m_X12_faith_23
    rw [e, nI_clamp (show 1009 + p < 2 ^ 31 by omega), e2]
    refine OT.negL (nI_ge (b := 20) (by omega) (by omega)) (OT.negR (nI_ge (b := 20) (by omega) (by omega)) (OT.eqL e1 (OT.posR (pn_in2 (by omega) (by omega)) (OT.bd (b_day hT hQ hw hB) (fun R R' hR => ?_)))))
    obtain ⟨j', hj', e1', e2'⟩ := b_lack hT.1 hR.2 hp
    rw [e2', nI_1]
    refine OT.eqL e1' (OT.posR (pn_in2 (by omega) (by omega)) (OT.ite Iff.rfl (fun _ => ?_) (fun _ => ?_)))
    · exact faith_loop hT hQ hw hp c (i + 1) fu fv _ _ _ _ _ _ _ _ _ _ _ (by omega) (by omega) (by omega) hR.2
    · exact faith_loop hT hQ hw hp c (i + 1) fu fv _ _ _ _ _ _ _ _ _ _ _ (by omega) (by omega) (by omega) hR.2
theorem l_faith {at_ : Value} {aw ad af adt : Int32} {here : Nat} (hT : CT G kf st size ps mast) (hQ : QT G tf op ar) (hw : wOK w r) (h : NW G lf ff dt sf) (v : Int32) :
    OT (m_X11_faith lf ff dt lf0 ff0 adt nx at_ aw ad af here kf st u size ps mast (nI w) (nI r) v) (m_X12_faith tf op ar fa pl sf (nI w) (nI r) lk v) (fun R R' => R.1 = R'.1 ∧ ∀ k, k < 1008 → R'.2.2.2.2.1 k = sf k) := by
  have hFU := FU_ge
  unfold m_X11_faith m_X12_faith
  revert hFU
  generalize FU = fu
  intro hFU
  rw [hT.2.1]
  rcases w_has hQ.1.1 hQ.2.1 v with ⟨h1, h2⟩ | ⟨j, hj, rfl, h1, h2⟩
  · exact OT.eqL h1 (OT.eqR h2 (OT.posL rfl (OT.posR rfl (OT.ret ⟨rfl, fun _ _ => rfl⟩))))
  · refine OT.eqL h1 (OT.eqR h2 (OT.negL (by decide) (OT.negR (by decide) ?_)))
    rw [← hT.2.1]
    exact OT.bd (b_start hT hw h) (fun R R' k => faith_loop hT hQ hw hj 20 0 fu fu _ _ _ _ _ _ _ _ _ _ _ (by omega) (by omega) (by omega) k)
/-! some let off now, on the model's side -/
theorem q_without_loop {L F : Nat → Nat} {d S : Nat} (hQ : QT G tf op ar) (hw : wOK w r) (hS : S < 64) (h : QS G 1008 L F d sf0) :
    ∀ (c i fu : Nat) (s : Nat → Int32), i + c = G.1 → c < fu → (∀ k, s k = if 1009 ≤ k ∧ k < 1009 + i ∧ S.testBit (k - 1009) = true then 0 else sf0 k) →
      OK (m_X12_highWithout_6 tf (nI w) (nI r) (nI S) fu (nI i) s) (fun R => R.1 = nI (hiN G w r (woL S L)) ∧ QS G 1008 (woL S L) F d R.2 ∧ ∀ k, k < 1008 → R.2 k = sf0 k)
  | 0, i, fu + 1, s, hc, _, hs => by
    have hn := hQ.1.1
    have : i = G.1 := by omega
    subst this
    have hq : QS G 1008 (woL S L) F d s := by
      refine ⟨⟨wo_le h.1.1, h.1.2⟩, ?_, fun p hp => ?_, fun p hp => ?_⟩
      · rw [hs, if_neg (by omega)]; exact h.2.1
      · rw [hs]
        unfold woL
        rw [show 1008 + 1 + p - 1009 = p by omega]
        by_cases e : S.testBit p = true
        · rw [if_pos ⟨by omega, by omega, e⟩, if_pos e]; rfl
        · rw [if_neg (fun z => e z.2.2), if_neg e]; exact h.2.2.1 p hp
      · rw [hs, if_neg (by omega)]; exact h.2.2.2 p hp
    unfold m_X12_highWithout_6
    rw [q_persons, hQ.2.1, Option.bind_some]
    exact OK.pos (nI_le (Nat.le_refl _) (by omega)) (OK.eq (q_hi (b := 1008) hQ hw (by omega) hq) (OK.ret ⟨rfl, hq, fun k hk => (hs k).trans (if_neg (by omega))⟩))
  | c + 1, i, fu + 1, s, hc, hf, hs => by
    have hn := hQ.1.1
    have e : (1009 : Int32) + nI i = nI (1009 + i) := nI_add 1009 i
    unfold m_X12_highWithout_6 m_X12_highWithout_46
    rw [q_persons, hQ.2.1, Option.bind_some, e, nI_clamp (show 1009 + i < 2 ^ 31 by omega), nI_1]
    refine OK.neg (nI_ge (by omega) (by omega)) (OK.ite (fun z => ?_) (fun z => ?_))
    · have hb := (b_shr1 S hS i (by omega)).mp z
      refine OK.pos (pn_in2 (by omega) (by omega)) (q_without_loop hQ hw hS h c (i + 1) fu _ (by omega) (by omega) (fun k => ?_))
      unfold upd
      by_cases e : k = 1009 + i
      · rw [if_pos e, if_pos ⟨by omega, by omega, by rw [show k - 1009 = i by omega]; exact hb⟩]
      · rw [if_neg e, hs]
        by_cases e2 : 1009 ≤ k ∧ k < 1009 + i ∧ S.testBit (k - 1009) = true
        · rw [if_pos e2, if_pos ⟨e2.1, by omega, e2.2.2⟩]
        · rw [if_neg e2, if_neg (fun z => e2 ⟨z.1, by omega, z.2.2⟩)]
    · have hb : ¬ S.testBit i = true := fun y => z ((b_shr1 S hS i (by omega)).mpr y)
      refine OK.pos (pn_in2 (by omega) (by omega)) (OK.pos (pn_in2 (by omega) (by omega)) (q_without_loop hQ hw hS h c (i + 1) fu _ (by omega) (by omega) (fun k => ?_)))
      unfold upd
      by_cases e : k = 1009 + i
      · rw [if_pos e, if_neg (fun y => hb (by rw [show k - 1009 = i by omega] at y; exact y.2.2)), hs, if_neg (by omega), e]
      · rw [if_neg e, hs]
        by_cases e2 : 1009 ≤ k ∧ k < 1009 + i ∧ S.testBit (k - 1009) = true
        · rw [if_pos e2, if_pos ⟨e2.1, by omega, e2.2.2⟩]
        · rw [if_neg e2, if_neg (fun z => e2 ⟨z.1, by omega, z.2.2⟩)]
theorem q_without {L F : Nat → Nat} {d S : Nat} (hQ : QT G tf op ar) (hw : wOK w r) (hS : S < 64) (h : QS G 0 L F d sf) : OK (m_X12_highWithout tf sf (nI w) (nI r) (nI S)) (fun R => R.1 = nI (hiN G w r (woL S L)) ∧ QS G 1008 (woL S L) F d R.2 ∧ ∀ k, k < 1008 → R.2 k = sf k) := by
  have hFU := FU_ge
  have hn := hQ.1.1
  unfold m_X12_highWithout
  revert hFU
  generalize FU = fu
  intro hFU
  refine OK.bd (q_tries hQ.1 h) (fun R hR => ?_)
  refine OK.imp (q_without_loop hQ hw hS hR.1 G.1 0 fu R (by omega) (by omega) (fun k => by rw [if_neg (by omega)])) (fun a ha => ⟨ha.1, ha.2.1, fun k hk => (ha.2.2 k hk).trans (hR.2 k hk)⟩)
theorem blame_loop {here : Nat} (hT : CT G kf st size ps mast) (hQ : QT G tf op ar) (hw : wOK w r) {N : Nat} (hN : N ≤ 20) (hv : m_X12_within (nI N) 0 20 = some 1) (h : NW G lf ff dt sf0) :
    ∀ (c i fu fv : Nat) (x y aw ad af adt th : Int32) (tv : Value) (lf0 ff0 nx u fa pl sf lk : Nat → Int32), i + c = G.1 → c < fu → c < fv → (∀ k, k < 1008 → sf k = sf0 k) →
      OT (m_X11_blame_19 lf ff dt here kf st size ps mast (nI w) (nI r) (nI N) fu x y (nI i) tv aw ad af adt lf0 ff0 nx u) (m_X12_blame_12 tf op ar (nI w) (nI r) (nI N) fv y x (nI i) th fa pl sf lk) (fun R R' => R.1 = R'.1 ∧ ∀ k, k < 1008 → R'.2.2.2.2.1 k = sf0 k)
  | 0, i, fu + 1, fv + 1, x, y, aw, ad, af, adt, th, tv, lf0, ff0, nx, u, fa, pl, sf, lk, hc, _, _, hs => by
    have hn := hT.1.1
    have : i = G.1 := by omega
    subst this
    unfold m_X11_blame_19 m_X12_blame_12
    rw [q_persons, hQ.2.1, Option.bind_some, hT.2.1]
    exact OT.posL (nI_le (Nat.le_refl _) (by omega)) (OT.posR (nI_le (Nat.le_refl _) (by omega)) (OT.ret ⟨rfl, hs⟩))
  | c + 1, i, fu + 1, fv + 1, x, y, aw, ad, af, adt, th, tv, lf0, ff0, nx, u, fa, pl, sf, lk, hc, hf, hf', hs => by
    have hn := hT.1.1
    unfold m_X11_blame_19 m_X12_blame_12 m_X12_blame_59
    rw [q_persons, hQ.2.1, Option.bind_some, b_bit i (by omega), nI_1]
    refine OT.negL (by rw [hT.2.1]; exact nI_ge (by omega) (by omega)) (OT.negR (nI_ge (by omega) (by omega)) (OT.eqR hv (OT.negR (by decide) ?_)))
    obtain ⟨L, F, d, h1, h2⟩ := h.fr hT.1 hs
    refine OT.bdL (c_start hT hw h1) (fun a ha => OT.bdL (c_letOff hT hw ha (show i < G.1 by omega)) (fun a2 ha2 => OT.bdR (q_without hQ hw (show 2 ^ i < 64 from Nat.pow_lt_pow_right (by omega) (show i < 6 by omega)) h2) (fun b hb => ?_)))
    rw [wo_one] at hb
    have hB : BT G w r sf a.1 a.2.1 a2.1 a.2.2.2.1 a2.2 a.2.2.2.2.2 b.2 := ⟨_, F, d, ha2, hb.2.1, hb.2.2⟩
    refine OT.bd (b_days hT hQ hw (by omega) hB) (fun R R' hR => ?_)
    rw [hR.1]
    refine OT.ite Iff.rfl (fun z => OT.posR z ?_) (fun z => OT.negR z ?_)
    · exact blame_loop hT hQ hw hN hv h c (i + 1) fu fv _ _ _ _ _ _ _ _ _ _ _ _ _ _ _ _ (by omega) (by omega) (by omega) (fun k hk => (hR.2.fr k hk).trans (hs k hk))
    · exact blame_loop hT hQ hw hN hv h c (i + 1) fu fv _ _ _ _ _ _ _ _ _ _ _ _ _ _ _ _ (by omega) (by omega) (by omega) (fun k hk => (hR.2.fr k hk).trans (hs k hk))
theorem l_blame {at_ : Value} {aw ad af adt : Int32} {here : Nat} (hT : CT G kf st size ps mast) (hQ : QT G tf op ar) (hw : wOK w r) (h : NW G lf ff dt sf) (v : Int32) :
    OT (m_X11_blame lf ff dt lf0 ff0 adt nx at_ aw ad af here kf st u size ps mast (nI w) (nI r) v) (m_X12_blame tf op ar fa pl sf (nI w) (nI r) lk v) (fun R R' => R.1 = R'.1 ∧ ∀ k, k < 1008 → R'.2.2.2.2.1 k = sf k) := by
  have hFU := FU_ge
  have hn := hT.1.1
  unfold m_X11_blame m_X12_blame
  revert hFU
  generalize FU = fu
  intro hFU
  rcases w_rng v 0 20 (by omega) (by omega) with ⟨h1, h2⟩ | ⟨j, hj, hj', rfl, h1, h2⟩
  · refine OT.eqL h1 (OT.posL rfl ?_)
    obtain ⟨f, rfl⟩ : ∃ f, fu = f + 1 := ⟨fu - 1, by omega⟩
    unfold m_X12_blame_12
    rw [q_persons, hQ.2.1, Option.bind_some]
    exact OT.itR (fun _ => OT.ret ⟨rfl, fun _ _ => rfl⟩) (fun _ => OT.eqR h2 (OT.posR rfl (OT.ret ⟨rfl, fun _ _ => rfl⟩)))
  · exact OT.eqL h1 (OT.negL (by decide) (blame_loop hT hQ hw hj' h2 h G.1 0 fu fu _ _ _ _ _ _ _ _ _ _ _ _ _ _ _ _ (by omega) (by omega) (by omega) (fun _ _ => rfl)))
end TURN
