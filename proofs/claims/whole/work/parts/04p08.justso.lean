/-! PURE: so that it stands just so -/
theorem wt_0 (K : Nat) : wtN K 0 = 0 := by
  unfold wtN
  repeat' split
  all_goals omega
theorem sum_set {K L : Nat → Nat} {p v : Nat} : ∀ n : Nat, sumW K (setL L p v) n + (if p < n then wtN (K p) (L p) else 0) = sumW K L n + (if p < n then wtN (K p) v else 0)
  | 0 => rfl
  | n + 1 => by
    have ih := sum_set (K := K) (L := L) (p := p) (v := v) n
    show sumW K (setL L p v) n + wtN (K n) (setL L p v n) + _ = sumW K L n + wtN (K n) (L n) + _
    by_cases e : p = n
    · subst e
      rw [if_neg (by omega), if_neg (by omega)] at ih
      rw [if_pos (by omega), if_pos (by omega), show setL L p v p = v by unfold setL; rw [if_pos rfl]]
      omega
    · rw [show setL L p v n = L n by unfold setL; rw [if_neg (fun z => e z.symm)]]
      by_cases h : p < n
      · rw [if_pos h, if_pos h] at ih
        rw [if_pos (by omega), if_pos (by omega)]; omega
      · rw [if_neg h, if_neg h] at ih
        rw [if_neg (by omega), if_neg (by omega)]; omega
theorem b_bit6 : ∀ p : Nat, p ≤ 6 → (1 : Int32) <<< (nI p &&& 31) = nI (2 ^ p) := by decide +kernel
theorem b_or2 : ∀ p : Nat, p < 6 → ∀ o : Nat, o < 6 → nI (2 ^ p) ||| nI (2 ^ o) = nI (2 ^ p ||| 2 ^ o) ∧ 2 ^ p ||| 2 ^ o < 64 := by decide +kernel
def popN (S : Nat) : Nat → Nat
  | 0 => 0
  | n + 1 => popN S n + (if S.testBit n then 1 else 0)
theorem pop_shr : ∀ S : Nat, S < 64 → ∀ i : Nat, i < 30 → (nI S >>> (nI i &&& 31)) &&& 1 = nI (if S.testBit i then 1 else 0) := by decide +kernel
theorem pop_bc : ∀ S : Nat, S < 64 → m_J6_bitCount_0f7a4 (nI S) = some (nI (popN S 30)) := by decide +kernel
theorem q_bits_loop {S : Nat} (hS : S < 64) : ∀ (c i fu : Nat), i + c = 30 → c < fu → m_X12_bits_4 (nI S) fu (nI (popN S i)) (nI i) = some (nI (popN S 30))
  | 0, i, fu + 1, h, _ => by
    have : i = 30 := by omega
    subst this
    unfold m_X12_bits_4
    rw [if_pos (by decide)]
  | c + 1, i, fu + 1, h, hf => by
    unfold m_X12_bits_4
    rw [if_neg (show ¬ (30 : Int32) ≤ nI i from nI_ge (b := 30) (by omega) (by omega)), pop_shr S hS i (by omega), nI_add, nI_1]
    exact q_bits_loop hS c (i + 1) fu (by omega) (by omega)
theorem q_bits {S : Nat} (hS : S < 64) : m_X12_bits (nI S) = some (nI (popN S 30)) := by
  have hFU := FU_ge
  unfold m_X12_bits
  revert hFU
  generalize FU = fu
  intro hFU
  exact q_bits_loop hS 30 0 fu (by omega) (by omega)
section JUST
variable {G : Gm} {w r : Nat} {sf0 kf st tf op ar lf ff sf lf0 ff0 nx u fa pl lk : Nat → Int32} {size ps mast wv rv fl dt : Int32} {L F : Nat → Nat} {d : Nat}
theorem sW_le (hG : gOK G) (h : ∀ p, p < 6 → L p ≤ 60) : sumW G.2.2.1 L G.1 ≤ 720 := by
  have hn := hG.1
  have := sumW_le (K := G.2.2.1) (L := L) (n := G.1) (fun p hp => h p (by omega))
  omega
theorem c_flagBy (hT : CT G kf st size ps mast) (hw : wOK w r) {S : Nat} (hS : S ≤ 1000) : m_X8_flagBy mast (nI w) (nI r) (nI S) = some (nI (flagN G.2.1 w r S)) := by
  unfold m_X8_flagBy
  rw [hT.2.2.1, p_flagUnder hT.1.2.1 hS hw.1 hw.2.1 hw.2.2]
  rfl
theorem c_lack (h : CS G L F d lf ff dt) {p : Nat} (hp : p < 6) : m_X1_lacking lf (nI p) = some (nI (L p)) := by
  unfold m_X1_lacking
  rw [p_at hp (by omega), h.2.2.1 p hp]
  rfl
theorem c_wt (hT : CT G kf st size ps mast) {p l : Nat} (hp : p < G.1) (hl : l ≤ 60) : m_X8_weight kf (nI p) (nI l) = some (nI (wtN (G.2.2.1 p) l)) := by
  have hn := hT.1.1
  exact p_weight (by omega) (hT.2.2.2.1 p hp) (hT.1.2.2 p hp) hl
theorem c_all (hT : CT G kf st size ps mast) (h : CS G L F d lf ff dt) : m_X8_weightOfAll kf ps lf = some (nI (sumW G.2.2.1 L G.1)) := by
  have hn := hT.1.1
  rw [hT.2.1]
  exact p_weightOfAll hn (fun p hp => ⟨hT.2.2.2.1 p hp, hT.1.2.2 p hp⟩) (fun p hp => ⟨h.2.2.1 p (by omega), h.1.1 p (by omega)⟩)
theorem c_without_loop (hT : CT G kf st size ps mast) (hw : wOK w r) (h : CS G L F d lf ff dt) {S : Nat} (hS : S < 64) : ∀ (c i fu : Nat), i + c = G.1 → c < fu → m_X11_flagWithout_4 lf kf ps mast (nI w) (nI r) (nI S) fu (nI (sumW G.2.2.1 (woL S L) i)) (nI i) = some (nI (hiN G w r (woL S L)))
  | 0, i, fu + 1, hc, _ => by
    have hn := hT.1.1
    have : i = G.1 := by omega
    subst this
    unfold m_X11_flagWithout_4
    have hs := sW_le (L := woL S L) hT.1 (wo_le h.1.1)
    rw [if_pos (by rw [hT.2.1]; exact nI_le (Nat.le_refl _) (by omega)), c_flagBy hT hw (by omega)]
    rfl
  | c + 1, i, fu + 1, hc, hf => by
    have hn := hT.1.1
    have ih := c_without_loop hT hw h hS c (i + 1) fu (by omega) (by omega)
    have hi := h.1.1 i (by omega)
    unfold m_X11_flagWithout_4
    rw [if_neg (by rw [hT.2.1]; exact nI_ge (by omega) (by omega)), b_holds S hS i (by omega), Option.bind_some, nI_1]
    have es : sumW G.2.2.1 (woL S L) (i + 1) = sumW G.2.2.1 (woL S L) i + wtN (G.2.2.1 i) (woL S L i) := rfl
    by_cases e : S.testBit i = true
    · rw [if_pos e, if_neg (by decide)]
      rw [show woL S L i = 0 by unfold woL; rw [if_pos e], wt_0] at es
      rw [es] at ih; exact ih
    · rw [if_neg e, if_pos rfl, c_lack h (by omega), Option.bind_some, c_wt hT (by omega) hi, Option.bind_some, nI_add]
      rw [show woL S L i = L i by unfold woL; rw [if_neg e]] at es
      rw [← es]; exact ih
theorem c_without (hT : CT G kf st size ps mast) (hw : wOK w r) (h : CS G L F d lf ff dt) {S : Nat} (hS : S < 64) : m_X11_flagWithout lf kf ps mast (nI w) (nI r) (nI S) = some (nI (hiN G w r (woL S L))) := by
  have hFU := FU_ge
  have hn := hT.1.1
  unfold m_X11_flagWithout
  revert hFU
  generalize FU = fu
  intro hFU
  exact c_without_loop hT hw h hS G.1 0 fu (by omega) (by omega)
theorem c_iflack (hT : CT G kf st size ps mast) (hw : wOK w r) (h : CS G L F d lf ff dt) {p v : Nat} (hp : p < G.1) (hv : v ≤ 60) : m_X11_flagIfLacking lf kf ps mast (nI w) (nI r) (nI p) (nI v) = some (nI (hiN G w r (setL L p v))) := by
  have hn := hT.1.1
  have hs := sW_le (L := L) hT.1 h.1.1
  have hs2 := sW_le (L := setL L p v) hT.1 (setL_le h.1.1 hv)
  have e := sum_set (K := G.2.2.1) (L := L) (p := p) (v := v) G.1
  rw [if_pos hp, if_pos hp] at e
  have hw2 := wtN_le (K := G.2.2.1 p) hv
  have hwL := wtN_le (K := G.2.2.1 p) (h.1.1 p (by omega))
  have hge : wtN (G.2.2.1 p) (L p) ≤ sumW G.2.2.1 L G.1 := by
    have e0 := sum_set (K := G.2.2.1) (L := L) (p := p) (v := 0) G.1
    rw [if_pos hp, if_pos hp, wt_0] at e0
    omega
  unfold m_X11_flagIfLacking
  rw [c_all hT h, Option.bind_some, c_lack h (by omega), Option.bind_some, c_wt hT hp (h.1.1 p (by omega)), Option.bind_some, c_wt hT hp hv, Option.bind_some, pn_sub hge, nI_add, c_flagBy hT hw (by omega), Option.bind_some,
    show sumW G.2.2.1 L G.1 - wtN (G.2.2.1 p) (L p) + wtN (G.2.2.1 p) v = sumW G.2.2.1 (setL L p v) G.1 by omega]
  rfl
theorem q_if (hQ : QT G tf op ar) (hw : wOK w r) (h : QS G 0 L F d sf) {p v : Nat} (hp : p < G.1) (hv : v ≤ 60) : OK (m_X12_highIf tf sf (nI w) (nI r) (nI p) (nI v)) (fun R => R.1 = nI (hiN G w r (setL L p v)) ∧ ∀ k, k < 1008 → R.2 k = sf k) := by
  have hn := hQ.1.1
  unfold m_X12_highIf
  refine OK.bd (q_tries hQ.1 h) (fun R hR => ?_)
  have e : (1009 : Int32) + nI p = nI (1009 + p) := nI_add 1009 p
  rw [e, nI_clamp (show 1009 + p < 2 ^ 31 by omega)]
  obtain ⟨⟨hl, k0, k1, k2⟩, k3⟩ := hR
  have hq : QS G 1008 (setL L p v) F d (upd R (1009 + p) (nI v)) := by
    refine ⟨⟨setL_le hl.1 hv, hl.2⟩, ?_, fun j hj => ?_, fun j hj => ?_⟩
    · unfold upd; rw [if_neg (by omega)]; exact k0
    · unfold upd setL
      by_cases e : j = p
      · rw [if_pos (by omega), if_pos e]
      · rw [if_neg (by omega), if_neg e]; exact k1 j hj
    · unfold upd; rw [if_neg (by omega)]; exact k2 j hj
  refine OK.pos (pn_in2 (by omega) (by omega)) (OK.eq (q_hi (b := 1008) hQ hw (by omega) hq) (OK.ret ⟨rfl, fun k hk => ?_⟩))
  show upd R (1009 + p) (nI v) k = _
  unfold upd
  rw [if_neg (by omega)]
  exact k3 k hk
/-! spared -/
theorem spared_loop (hT : CT G kf st size ps mast) (hQ : QT G tf op ar) (hw : wOK w r) (h : CS G L F d lf ff dt) (h' : QS G 0 L F d sf0) {v : Int32} (hv : m_X12_within v 1 99 = some 1) :
    ∀ (c i fu fv : Nat) (x th : Int32) (sf : Nat → Int32), i + c = 2 ^ G.1 → c < fu → c < fv → (x = -1 ∨ ∃ b : Nat, b < 64 ∧ x = nI b) → (∀ k, k < 1008 → sf k = sf0 k) →
      OT (m_X11_spared_16 lf kf ps mast (nI w) (nI r) v fu x (nI i)) (m_X12_spared_9 tf (nI w) (nI r) v fv x (nI i) th sf) (fun R R' => R = R'.1 ∧ ∀ k, k < 1008 → R'.2.2 k = sf0 k)
  | 0, i, fu + 1, fv + 1, x, th, sf, hc, _, _, _, hs => by
    have hn := hT.1.1
    have h64 : 2 ^ G.1 ≤ 64 := Nat.pow_le_pow_right (n := 2) (by omega) (show G.1 ≤ 6 from hn)
    unfold m_X11_spared_16 m_X12_spared_9
    rw [q_persons, hQ.2.1, Option.bind_some, hT.2.1, b_bit6 _ hn]
    exact OT.posL (nI_le (by omega) (by omega)) (OT.posR (nI_le (by omega) (by omega)) (OT.ret ⟨rfl, hs⟩))
  | c + 1, i, fu + 1, fv + 1, x, th, sf, hc, hf, hf', hx, hs => by
    have hn := hT.1.1
    have h64 : 2 ^ G.1 ≤ 64 := Nat.pow_le_pow_right (n := 2) (by omega) (show G.1 ≤ 6 from hn)
    have go := fun (x : Int32) hx (s : Nat → Int32) hs => spared_loop hT hQ hw h h' hv c (i + 1) fu fv x th s (by omega) (by omega) (by omega) hx hs
    have hq : QS G 0 L F d sf := h'.same hT.1 (fun k _ hk => hs k (by omega))
    have hge : ∀ {z : Nat}, i < z → z ≤ 64 → ¬ nI z ≤ nI i := fun h1 h2 => nI_ge h1 (by omega)
    -- the two sides where the set is tried
    have try_ : OT (m_X11_spared_50 lf kf ps mast (nI w) (nI r) v (m_X11_spared_16 lf kf ps mast (nI w) (nI r) v fu) x (nI i) 1) (m_X12_spared_44 tf (nI w) (nI r) v (m_X12_spared_9 tf (nI w) (nI r) v fv) x (nI i) th sf) (fun R R' => R = R'.1 ∧ ∀ k, k < 1008 → R'.2.2 k = sf0 k) := by
      unfold m_X11_spared_50 m_X12_spared_44
      rw [nI_1]
      refine OT.negL (by decide) (OT.eqL (c_without hT hw h (by omega)) (OT.bdR (q_without hQ hw (by omega) hq) (fun b hb => ?_)))
      rw [hb.1]
      have hs' : ∀ k, k < 1008 → b.2 k = sf0 k := fun k hk => (hb.2.2 k hk).trans (hs k hk)
      exact OT.ite Iff.rfl (fun _ => go x hx _ hs') (fun _ => go _ (Or.inr ⟨i, by omega, rfl⟩) _ hs')
    unfold m_X11_spared_16 m_X12_spared_9 m_X11_spared_45
    rw [q_persons, hQ.2.1, Option.bind_some, hT.2.1, b_bit6 _ hn]
    rw [hT.2.1] at try_
    refine OT.negL (hge (by omega) h64) (OT.negR (hge (by omega) h64) (OT.eqR hv (OT.negR (by decide) ?_)))
    rcases hx with rfl | ⟨b, hb, rfl⟩
    · exact OT.posL rfl (OT.posR (by decide) try_)
    · refine OT.negL (fun z => ?_) (OT.negR (nI_pos (by omega)) (OT.eqL (pop_bc i (by omega)) (OT.eqL (pop_bc b hb) (OT.eqR (q_bits (by omega)) (OT.eqR (q_bits hb) ?_)))))
      · have : (nI b).toInt = (-1 : Int32).toInt := by rw [z]
        rw [nI_toInt (by omega)] at this
        have e : (-1 : Int32).toInt = -1 := by decide
        omega
      · refine OT.ite Iff.rfl (fun _ => ?_) (fun _ => try_)
        unfold m_X11_spared_50
        rw [nI_1, ← hT.2.1]
        exact OT.posL rfl (go _ (Or.inr ⟨b, hb, rfl⟩) _ hs)
theorem l_spared (hT : CT G kf st size ps mast) (hQ : QT G tf op ar) (hw : wOK w r) (h : NW G lf ff dt sf) (v : Int32) :
    OT (m_X11_spared lf kf ps mast (nI w) (nI r) v) (m_X12_spared tf sf (nI w) (nI r) v) (fun R R' => R = R'.1 ∧ ∀ k, k < 1008 → R'.2.2 k = sf k) := by
  have hFU := FU_ge
  have hn := hT.1.1
  have h64 : 2 ^ G.1 ≤ 64 := Nat.pow_le_pow_right (n := 2) (by omega) (show G.1 ≤ 6 from hn)
  obtain ⟨L, F, d, h1, h2⟩ := h
  unfold m_X11_spared m_X12_spared
  revert hFU
  generalize FU = fu
  intro hFU
  rcases w_rng v 1 99 (by omega) (by omega) with ⟨e1, e2⟩ | ⟨j, hj, hj', rfl, e1, e2⟩
  · refine OT.eqL e1 (OT.posL rfl ?_)
    obtain ⟨f, rfl⟩ : ∃ f, fu = f + 1 := ⟨fu - 1, by omega⟩
    unfold m_X12_spared_9
    rw [q_persons, hQ.2.1, Option.bind_some]
    exact OT.itR (fun _ => OT.ret ⟨rfl, fun _ _ => rfl⟩) (fun _ => OT.eqR e2 (OT.posR rfl (OT.ret ⟨rfl, fun _ _ => rfl⟩)))
  · exact OT.eqL e1 (OT.negL (by decide) (spared_loop hT hQ hw h1 h2 e2 (2 ^ G.1) 0 fu fu (-1) 0 sf (by omega) (by omega) (by omega) (Or.inl rfl) (fun _ _ => rfl)))
/-! least -/
/-- the first one by whom it stands just so, if one lacks so much more: nobody, or both sides tell the same -/
theorem reach_loop (hT : CT G kf st size ps mast) (hQ : QT G tf op ar) (hw : wOK w r) (h : CS G L F d lf ff dt) (h' : QS G 0 L F d sf0) {v q2 m k0 th : Int32} {K49 : Int32 → Int32 → (Nat → Int32) → Option (Int32 × Int32 × (Nat → Int32))} :
    ∀ (c i fu fv : Nat) (sf : Nat → Int32), i + c = G.1 → c < fu → c < fv → (∀ k, k < 1008 → sf k = sf0 k) →
      (∃ sf', (∀ k, k < 1008 → sf' k = sf0 k) ∧ m_X11_firstToReach_2 lf kf ps mast (nI w) (nI r) v m fu (nI i) = some (-1) ∧ m_X12_least_76 tf (nI w) (nI r) v q2 K49 fv k0 m (nI i) th sf = K49 (k0 + 1) th sf') ∨
      (∃ (p : Nat) (sf' : Nat → Int32), p < 6 ∧ (∀ k, k < 1008 → sf' k = sf0 k) ∧ m_X11_firstToReach_2 lf kf ps mast (nI w) (nI r) v m fu (nI i) = some (nI p) ∧ m_X12_least_76 tf (nI w) (nI r) v q2 K49 fv k0 m (nI i) th sf = (if q2 = 0 then some (m, th, sf') else some (nI p, th, sf')))
  | 0, i, fu + 1, fv + 1, sf, hc, _, _, hs => by
    have hn := hT.1.1
    have : i = G.1 := by omega
    subst this
    refine Or.inl ⟨sf, hs, ?_, ?_⟩
    · unfold m_X11_firstToReach_2
      rw [if_pos (by rw [hT.2.1]; exact nI_le (Nat.le_refl _) (by omega))]
    · unfold m_X12_least_76
      rw [q_persons, hQ.2.1, Option.bind_some, if_pos (nI_le (Nat.le_refl _) (by omega))]
  | c + 1, i, fu + 1, fv + 1, sf, hc, hf, hf', hs => by
    have hn := hT.1.1
    have hq : QS G 0 L F d sf := h'.same hT.1 (fun k _ hk => hs k (by omega))
    have e1 : (1 : Int32) + nI i = nI (1 + i) := nI_add 1 i
    have e2 : sf (1 + i) = nI (L i) := by have := hq.2.2.1 i (by omega); rw [Nat.zero_add] at this; exact this
    unfold m_X11_firstToReach_2 m_X12_least_76
    rw [q_persons, hQ.2.1, Option.bind_some, if_neg (by rw [hT.2.1]; exact nI_ge (by omega) (by omega)), if_neg (nI_ge (by omega) (by omega)), c_lack h (by omega), Option.bind_some, e1, nI_clamp (show 1 + i < 2 ^ 31 by omega), if_pos (pn_in2 (by omega) (by omega)), e2, Option.bind_some, nI_1]
    rcases w_rng (nI (L i) + m) 0 60 (by omega) (by omega) with ⟨a1, a2⟩ | ⟨j, hj, hj', ej, a1, a2⟩
    · rw [show m_X11_within (nI (L i) + m) 0 60 = some 0 from a1, show m_X12_within (nI (L i) + m) 0 60 = some 0 from a2, Option.bind_some, Option.bind_some, if_pos rfl, if_pos rfl]
      exact reach_loop hT hQ hw h h' c (i + 1) fu fv sf (by omega) (by omega) (by omega) hs
    · rw [show m_X11_within (nI (L i) + m) 0 60 = some 1 from a1, show m_X12_within (nI (L i) + m) 0 60 = some 1 from a2, Option.bind_some, Option.bind_some, if_neg (by decide), if_neg (by decide), ej, c_iflack hT hw h (by omega) hj', Option.bind_some]
      obtain ⟨R, hR, hR1, hR2⟩ := q_if hQ hw hq (show i < G.1 by omega) hj'
      rw [hR, Option.bind_some, hR1]
      have hs' : ∀ k, k < 1008 → R.2 k = sf0 k := fun k hk => (hR2 k hk).trans (hs k hk)
      by_cases hz : nI (hiN G w r (setL L i j)) = v
      · rw [if_pos hz, if_pos hz]
        exact Or.inr ⟨i, R.2, by omega, hs', rfl, rfl⟩
      · rw [if_neg hz, if_neg hz]
        exact reach_loop hT hQ hw h h' c (i + 1) fu fv R.2 (by omega) (by omega) (by omega) hs'
theorem lst_nums : ∀ a : Nat, a ≤ 60 → 1 ≤ a → ¬ nI a < -(nI a) ∧ nI a - 2 * nI a = -(nI a) ∧ ¬ -(nI a) < -(nI a) ∧ -(nI a) - 2 * nI a < -(nI a) ∧ nI (2 * a) / 2 = nI a ∧ nI (2 * a) - nI (2 * a) / 2 * 2 = 0 ∧ nI (2 * a + 1) / 2 = nI a ∧ ¬ nI (2 * a + 1) - nI (2 * a + 1) / 2 * 2 = 0 := by decide +kernel
theorem nI_m1 {b : Nat} (h : b < 2 ^ 31) : ¬ nI b = -1 := by
  intro z
  have : (nI b).toInt = (-1 : Int32).toInt := by rw [z]
  rw [nI_toInt h] at this
  have e : (-1 : Int32).toInt = -1 := by decide
  omega
theorem l55_eq {v q2 fl x3 x4 : Int32} {K : Int32 → Option Int32} {fu : Nat} (h : 1 ≤ fu) : m_X11_least_55 lf fl kf ps mast wv rv v q2 K fu x3 x4 = (if x4 < (-x3) then (K (x3 + 1)) else (Option.bind (m_X11_firstToReach lf kf ps mast wv rv v x4) (fun r4 => if r4 = (-1) then ((m_X11_least_55 lf fl kf ps mast wv rv v q2 K (fu - 1)) x3 (x4 - (2 * x3))) else (if q2 = 0 then (some (x4)) else (some (r4)))))) := by
  obtain ⟨f, rfl⟩ : ∃ f, fu = f + 1 := ⟨fu - 1, by omega⟩
  rw [m_X11_least_55]
  rfl
theorem least_loop (hT : CT G kf st size ps mast) (hQ : QT G tf op ar) (hw : wOK w r) (h : CS G L F d lf ff dt) (h' : QS G 0 L F d sf0) {v q2 fl : Int32} :
    ∀ (c a fu fv : Nat) (th : Int32) (sf : Nat → Int32), a + c = 61 → 1 ≤ a → c < fu → 2 * c < fv → (∀ k, k < 1008 → sf k = sf0 k) →
      OT (m_X11_least_46 lf fl kf ps mast (nI w) (nI r) v q2 fu (nI a)) (m_X12_least_49 tf (nI w) (nI r) v q2 fv (nI (2 * a)) th sf) (fun R R' => R = R'.1 ∧ ∀ k, k < 1008 → R'.2.2 k = sf0 k)
  | 0, a, fu + 1, fv + 1, th, sf, hc, _, _, _, hs => by
    have : a = 61 := by omega
    subst this
    unfold m_X11_least_46 m_X12_least_49
    exact OT.posL (by decide) (OT.posR (by decide) (OT.ret ⟨rfl, hs⟩))
  | c + 1, a, fu + 1, fv + 1 + 1, th, sf, hc, ha, hf, hf', hs => by
    have hn := hT.1.1
    obtain ⟨n1, n2, n3, n4, n5, n6, n7, n8⟩ := lst_nums a (by omega) ha
    have hFU := FU_ge
    have half := fun (m k0 : Int32) (K49 : Int32 → Int32 → (Nat → Int32) → Option (Int32 × Int32 × (Nat → Int32))) (s : Nat → Int32) hs => reach_loop hT hQ hw h h' (v := v) (q2 := q2) (m := m) (k0 := k0) (th := th) (K49 := K49) G.1 0 FU FU s (by omega) (by omega) (by omega) hs
    rw [m_X11_least_46, m_X12_least_49, n5]
    refine OT.negL (nI_nlt (a := 60) (by omega) (by omega)) (OT.negR (nI_nlt (a := 121) (by omega) (by omega)) (OT.posR (by rw [← n5]; exact n6) ?_))
    rw [l55_eq (by omega)]
    refine OT.negL n1 ?_
    rcases half (nI a) (nI (2 * a)) (m_X12_least_49 tf (nI w) (nI r) v q2 (fv + 1)) sf hs with ⟨s1, hs1, r1, r2⟩ | ⟨p, s1, hp, hs1, r1, r2⟩
    · refine OT.eqL r1 (OT.posL rfl ?_)
      rw [show m_X12_least_76 tf (nI w) (nI r) v q2 (m_X12_least_49 tf (nI w) (nI r) v q2 (fv + 1)) FU (nI (2 * a)) (nI a) 0 th sf = _ from r2, n2, nI_1, m_X12_least_49, n7, l55_eq (by omega)]
      refine OT.negL n3 (OT.negR (nI_nlt (a := 121) (by omega) (by omega)) (OT.negR (by rw [← n7]; exact n8) ?_))
      rcases half (-(nI a)) (nI (2 * a + 1)) (m_X12_least_49 tf (nI w) (nI r) v q2 fv) s1 hs1 with ⟨s2, hs2, r3, r4⟩ | ⟨p, s2, hp, hs2, r3, r4⟩
      · refine OT.eqL r3 (OT.posL rfl ?_)
        rw [show m_X12_least_76 tf (nI w) (nI r) v q2 (m_X12_least_49 tf (nI w) (nI r) v q2 fv) FU (nI (2 * a + 1)) (-(nI a)) 0 th s1 = _ from r4, nI_1, l55_eq (by omega)]
        refine OT.posL n4 ?_
        rw [nI_1, show 2 * a + 1 + 1 = 2 * (a + 1) by omega]
        exact least_loop hT hQ hw h h' c (a + 1) fu fv th s2 (by omega) (by omega) (by omega) (by omega) hs2
      · refine OT.eqL r3 (OT.negL (nI_m1 (by omega)) ?_)
        rw [show m_X12_least_76 tf (nI w) (nI r) v q2 (m_X12_least_49 tf (nI w) (nI r) v q2 fv) FU (nI (2 * a + 1)) (-(nI a)) 0 th s1 = _ from r4]
        exact OT.ite Iff.rfl (fun _ => OT.ret ⟨rfl, hs2⟩) (fun _ => OT.ret ⟨rfl, hs2⟩)
    · refine OT.eqL r1 (OT.negL (nI_m1 (by omega)) ?_)
      rw [show m_X12_least_76 tf (nI w) (nI r) v q2 (m_X12_least_49 tf (nI w) (nI r) v q2 (fv + 1)) FU (nI (2 * a)) (nI a) 0 th sf = _ from r2]
      exact OT.ite Iff.rfl (fun _ => OT.ret ⟨rfl, hs1⟩) (fun _ => OT.ret ⟨rfl, hs1⟩)
theorem q_hi0 (hQ : QT G tf op ar) (hw : wOK w r) (h : QS G 0 L F d sf) : m_X12_highOf tf sf (nI w) (nI r) 0 = some (nI (hiN G w r L)) := q_hi (b := 0) hQ hw (by omega) h
/-- now on both sides, how high it stands too -/
def NF (G : Gm) (w r : Nat) (lf ff : Nat → Int32) (dt fl : Int32) (sf : Nat → Int32) : Prop := ∃ (L F : Nat → Nat) (d : Nat), CS G L F d lf ff dt ∧ QS G 0 L F d sf ∧ fl = nI (hiN G w r L)
theorem NF.nw (h : NF G w r lf ff dt fl sf) : NW G lf ff dt sf := by
  obtain ⟨L, F, d, h1, h2, -⟩ := h
  exact ⟨L, F, d, h1, h2⟩
theorem l_least (hT : CT G kf st size ps mast) (hQ : QT G tf op ar) (hw : wOK w r) (h : NF G w r lf ff dt fl sf) (v q : Int32) :
    OT (m_X11_least lf fl kf ps mast (nI w) (nI r) v q) (m_X12_least tf sf (nI w) (nI r) v q) (fun R R' => R = R'.1 ∧ ∀ k, k < 1008 → R'.2.2 k = sf k) := by
  have hFU := FU_ge
  obtain ⟨L, F, d, h1, h2, rfl⟩ := h
  unfold m_X11_least m_X12_least
  rcases w_rng v 0 99 (by omega) (by omega) with ⟨e1, e2⟩ | ⟨j, hj, hj', rfl, e1, e2⟩
  · exact OT.eqL e1 (OT.eqR e2 (OT.posL rfl (OT.posR rfl (OT.ret ⟨rfl, fun _ _ => rfl⟩))))
  · refine OT.eqL e1 (OT.eqR e2 (OT.negL (by decide) (OT.negR (by decide) ?_)))
    rcases w_rng q 0 1 (by omega) (by omega) with ⟨e3, e4⟩ | ⟨j2, hj2, hj2', rfl, e3, e4⟩
    · exact OT.eqL e3 (OT.eqR e4 (OT.posL rfl (OT.posR rfl (OT.ret ⟨rfl, fun _ _ => rfl⟩))))
    · refine OT.eqL e3 (OT.eqR e4 (OT.negL (by decide) (OT.negR (by decide) (OT.eqR (q_hi0 hQ hw h2) ?_))))
      refine OT.ite Iff.rfl (fun _ => OT.ite Iff.rfl (fun _ => OT.ret ⟨rfl, fun _ _ => rfl⟩) (fun _ => OT.ret ⟨rfl, fun _ _ => rfl⟩)) (fun _ => ?_)
      exact least_loop hT hQ hw h1 h2 60 1 FU FU 0 sf (by omega) (by omega) (by omega) (by omega) (fun _ _ => rfl)
/-! cost -/
theorem cost_loop (hT : CT G kf st size ps mast) (hQ : QT G tf op ar) (hw : wOK w r) (h : CS G L F d lf ff dt) (h' : QS G 0 L F d sf0) {p : Nat} (hp : p < G.1) :
    ∀ (c i fu fv : Nat) (th x : Int32) (sf : Nat → Int32), i + c = L p + 1 → c < fu → c < fv → x = (if i ≤ L p then nI (L p - i) else -1) → (∀ k, k < 1008 → sf k = sf0 k) →
      OT (m_X11_cost_15 lf (nI (hiN G w r L)) kf ps mast (nI w) (nI r) (nI p) fu (nI i)) (m_X12_cost_28 tf (nI w) (nI r) (nI p) fv x th sf) (fun R R' => R = R'.1 ∧ ∀ k, k < 1008 → R'.2.2 k = sf0 k)
  | 0, i, fu + 1, fv + 1, th, x, sf, hc, _, _, hx, hs => by
    have hn := hT.1.1
    have hl := h.1.1 p (by omega)
    rw [if_neg (by omega)] at hx
    subst hx
    rw [m_X11_cost_15, m_X12_cost_28]
    exact OT.eqL (c_lack h (by omega)) (OT.posL (nI_lt (by omega) (by omega)) (OT.posR (by decide) (OT.ret ⟨rfl, hs⟩)))
  | c + 1, i, fu + 1, fv + 1, th, x, sf, hc, hf, hf', hx, hs => by
    have hn := hT.1.1
    have hl := h.1.1 p (by omega)
    have hq : QS G 0 L F d sf := h'.same hT.1 (fun k _ hk => hs k (by omega))
    rw [if_pos (by omega)] at hx
    subst hx
    rw [m_X11_cost_15, m_X12_cost_28]
    refine OT.eqL (c_lack h (by omega)) (OT.negL (nI_nlt (by omega) (by omega)) (OT.eqL (c_lack h (by omega)) (OT.negR (nI_pos (by omega)) (OT.bdR (q_if hQ hw hq hp (show L p - i ≤ 60 by omega)) (fun R hR => ?_)))))
    have hs' : ∀ k, k < 1008 → R.2 k = sf0 k := fun k hk => (hR.2 k hk).trans (hs k hk)
    have hq' : QS G 0 L F d R.2 := h'.same hT.1 (fun k _ hk => hs' k (by omega))
    have e1 : (1 : Int32) + nI p = nI (1 + p) := nI_add 1 p
    have e2 : R.2 (1 + p) = nI (L p) := by have := hq'.2.2.1 p hp; rw [Nat.zero_add] at this; exact this
    rw [pn_sub (show i ≤ L p by omega), hR.1, e1, nI_clamp (show 1 + p < 2 ^ 31 by omega), e2, pn_sub (show L p - i ≤ L p by omega), show L p - (L p - i) = i by omega]
    refine OT.eqL (c_iflack hT hw h hp (by omega)) (OT.eqR (q_hi0 hQ hw hq') (OT.ite Iff.rfl (fun _ => ?_) (fun _ => OT.posR (pn_in2 (by omega) (by omega)) (OT.ret ⟨rfl, hs'⟩))))
    rw [nI_1]
    refine cost_loop hT hQ hw h h' hp c (i + 1) fu fv th _ R.2 (by omega) (by omega) (by omega) ?_ hs'
    by_cases hz : i + 1 ≤ L p
    · rw [if_pos hz, pn_dec (by omega), Nat.sub_sub]
    · rw [if_neg hz, show L p - i = 0 by omega]; decide
theorem l_cost (hT : CT G kf st size ps mast) (hQ : QT G tf op ar) (hw : wOK w r) (h : NF G w r lf ff dt fl sf) (v : Int32) :
    OT (m_X11_cost lf fl kf ps mast (nI w) (nI r) v) (m_X12_cost tf sf (nI w) (nI r) v) (fun R R' => R = R'.1 ∧ ∀ k, k < 1008 → R'.2.2 k = sf k) := by
  have hFU := FU_ge
  have hn := hT.1.1
  obtain ⟨L, F, d, h1, h2, rfl⟩ := h
  unfold m_X11_cost m_X12_cost
  rw [hT.2.1]
  revert hFU
  generalize FU = fu
  intro hFU
  rcases w_has hQ.1.1 hQ.2.1 v with ⟨e1, e2⟩ | ⟨p, hp, rfl, e1, e2⟩
  · refine OT.eqL e1 (OT.eqR e2 (OT.posL rfl (OT.posR rfl ?_)))
    obtain ⟨f, rfl⟩ : ∃ f, fu = f + 1 := ⟨fu - 1, by omega⟩
    rw [m_X12_cost_28]
    exact OT.posR (by decide) (OT.ret ⟨rfl, fun _ _ => rfl⟩)
  · have hl := h1.1.1 p (by omega)
    have e3 : (1 : Int32) + nI p = nI (1 + p) := nI_add 1 p
    have e4 : sf (1 + p) = nI (L p) := by have := h2.2.2.1 p hp; rw [Nat.zero_add] at this; exact this
    rw [e3, nI_clamp (show 1 + p < 2 ^ 31 by omega), e4, ← hT.2.1]
    rw [← hT.2.1] at e1
    refine OT.eqL e1 (OT.eqR e2 (OT.negL (by decide) (OT.negR (by decide) (OT.posR (pn_in2 (by omega) (by omega)) ?_))))
    refine cost_loop hT hQ hw h1 h2 hp (L p) 1 fu fu 0 _ sf (by omega) (by omega) (by omega) ?_ (fun _ _ => rfl)
    by_cases hz : 1 ≤ L p
    · rw [if_pos hz, pn_sub1 hz]
    · rw [if_neg hz, show L p = 0 by omega]; decide
/-! heavy -/
theorem q_wt (hQ : QT G tf op ar) (h : QS G 0 L F d sf) {p : Nat} (hp : p < G.1) : m_X12_weighsOf tf sf 0 (nI p) = some (nI (wtN (G.2.2.1 p) (L p))) := by
  have hn := hQ.1.1
  exact q_weighsOf (b := 0) (by omega) (by omega) (hQ.2.2.2.1 p hp) (hQ.1.2.2 p hp) (h.2.2.1 p hp) (h.1.1 p (by omega))
theorem heavy_loop (hT : CT G kf st size ps mast) (hQ : QT G tf op ar) (h : CS G L F d lf ff dt) (h' : QS G 0 L F d sf) :
    ∀ (c i fu fv : Nat) (x y th : Int32), i + c = G.1 → c < fu → c < fv → OT (m_X11_heavy_6 lf kf ps fu x y (nI i)) (m_X12_heavy_11 tf sf fv x y (nI i) th) (fun R R' => R = R'.1)
  | 0, i, fu + 1, fv + 1, x, y, th, hc, _, _ => by
    have hn := hT.1.1
    rw [m_X11_heavy_6, m_X12_heavy_11, q_persons, hQ.2.1, hT.2.1]
    exact OT.posL (nI_le (by omega) (by omega)) (OT.eqR rfl (OT.posR (nI_le (by omega) (by omega)) (OT.ret rfl)))
  | c + 1, i, fu + 1, fv + 1, x, y, th, hc, hf, hf' => by
    have hn := hT.1.1
    have hl := h.1.1 i (by omega)
    rw [m_X11_heavy_6, m_X12_heavy_11, q_persons, hQ.2.1]
    refine OT.negL (by rw [hT.2.1]; exact nI_ge (by omega) (by omega)) (OT.eqR rfl (OT.negR (nI_ge (by omega) (by omega)) (OT.eqL (c_lack h (by omega)) (OT.eqL (c_wt hT (by omega) hl) (OT.eqR (q_wt hQ h' (by omega)) ?_)))))
    unfold m_X12_heavy_34
    rw [nI_1]
    refine OT.ite Iff.rfl (fun z => OT.eqR (q_wt hQ h' (by omega)) (OT.posR z ?_)) (fun z => OT.eqR (q_wt hQ h' (by omega)) (OT.negR z (OT.eqR (q_wt hQ h' (by omega)) ?_)))
    · exact heavy_loop hT hQ h h' c (i + 1) fu fv _ _ _ (by omega) (by omega) (by omega)
    · exact heavy_loop hT hQ h h' c (i + 1) fu fv _ _ _ (by omega) (by omega) (by omega)
theorem l_heavy (hT : CT G kf st size ps mast) (hQ : QT G tf op ar) (h : NW G lf ff dt sf) : OT (m_X11_heavy lf kf ps) (m_X12_heavy tf sf) (fun R R' => R = R'.1) := by
  have hFU := FU_ge
  have hn := hT.1.1
  obtain ⟨L, F, d, h1, h2⟩ := h
  unfold m_X11_heavy m_X12_heavy
  revert hFU
  generalize FU = fu
  intro hFU
  exact heavy_loop hT hQ h1 h2 G.1 0 fu fu _ _ _ (by omega) (by omega) (by omega)
end JUST
