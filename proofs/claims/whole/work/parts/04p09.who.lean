/-! PURE: pairs, even, who lacks what, who feels whom -/
theorem dn_mono {r w S m : Nat} : dnN r w S ≤ dnN r w (S + m) := by
  unfold dnN
  repeat' split
  · exact Nat.div_le_div_right (by omega)
  · exact Nat.div_le_div_right (by omega)
  · exact Nat.div_le_div_right (by omega)
theorem dn_inch {r w S : Nat} (hw : 1 ≤ w) : dnN r w (S + w) = dnN r w S + 1 := by
  unfold dnN
  repeat' split
  · rw [show S + w + w - 1 = (S + w - 1) + w by omega, Nat.add_div_right _ (by omega)]
  · rw [show 2 * (S + w) + w = (2 * S + w) + 2 * w by omega, Nat.add_div_right _ (by omega)]
  · exact Nat.add_div_right _ (by omega)
def sumL (L : Nat → Nat) : Nat → Nat
  | 0 => 0
  | n + 1 => sumL L n + L n
theorem sumL_le {L : Nat → Nat} : ∀ {n : Nat}, (∀ p, p < n → L p ≤ 60) → sumL L n ≤ 60 * n
  | 0, _ => Nat.le_refl _
  | n + 1, h => by
    have h1 := sumL_le (n := n) (fun p hp => h p (by omega))
    have h2 := h n (by omega)
    show sumL L n + L n ≤ 60 * (n + 1)
    omega
section WHO
variable {G : Gm} {w r : Nat} {sf0 kf st tf op ar lf ff sf lf0 ff0 nx u fa pl lk : Nat → Int32} {size ps mast wv rv fl dt : Int32} {L F : Nat → Nat} {d : Nat}
theorem QS.l (h : QS G 0 L F d sf) {p : Nat} (hp : p < G.1) : sf (1 + p) = nI (L p) := by have := h.2.2.1 p hp; rw [Nat.zero_add] at this; exact this
theorem QS.f (h : QS G 0 L F d sf) {p : Nat} (hp : p < G.1) : sf (7 + p) = nI (F p) := by have := h.2.2.2 p hp; rw [Nat.zero_add] at this; exact this
theorem i1 (p : Nat) : (1 : Int32) + nI p = nI (1 + p) := nI_add 1 p
theorem i7 (p : Nat) : (7 : Int32) + nI p = nI (7 + p) := nI_add 7 p
theorem pair_in (hT : CT G kf st size ps mast) (hQ : QT G tf op ar) (hw : wOK w r) (h : CS G L F d lf ff dt) (h' : QS G 0 L F d sf0) {p : Nat} (hp : p < G.1) {th : Int32} {K6 : Int32 → Int32 → Int32 → Option Int32} {K11 : Int32 → Int32 → Int32 → Int32 → (Nat → Int32) → Option (Int32 × Int32 × (Nat → Int32))}
    (hK : ∀ (x y : Int32) (sf : Nat → Int32), (∀ k, k < 1008 → sf k = sf0 k) → OT (K6 x y (nI (p + 1))) (K11 y x (nI (p + 1)) th sf) (fun R R' => R = R'.1 ∧ ∀ k, k < 1008 → R'.2.2 k = sf0 k)) :
    ∀ (c i fu fv : Nat) (x y : Int32) (sf : Nat → Int32), i + c = G.1 → c < fu → c < fv → (∀ k, k < 1008 → sf k = sf0 k) →
      OT (m_X11_pair_22 lf kf ps mast (nI w) (nI r) K6 fu x y (nI p) (nI i)) (m_X12_pair_24 tf (nI w) (nI r) K11 fv y x (nI p) (nI i) th sf) (fun R R' => R = R'.1 ∧ ∀ k, k < 1008 → R'.2.2 k = sf0 k)
  | 0, i, fu + 1, fv + 1, x, y, sf, hc, _, _, hs => by
    have hn := hT.1.1
    rw [m_X11_pair_22, m_X12_pair_24, q_persons, hQ.2.1, hT.2.1, nI_1]
    exact OT.posL (nI_le (by omega) (by omega)) (OT.eqR rfl (OT.posR (nI_le (by omega) (by omega)) (hK _ _ _ hs)))
  | c + 1, i, fu + 1, fv + 1, x, y, sf, hc, hf, hf', hs => by
    have hn := hT.1.1
    have hq : QS G 0 L F d sf := h'.same hT.1 (fun k _ hk => hs k (by omega))
    rw [m_X11_pair_22, m_X12_pair_24, q_persons, hQ.2.1]
    refine OT.negL (by rw [hT.2.1]; exact nI_ge (by omega) (by omega)) (OT.eqR rfl (OT.negR (nI_ge (by omega) (by omega)) ?_))
    unfold m_X11_bit m_X12_pair_64
    rw [b_bit p (by omega), b_bit i (by omega), Option.bind_some, Option.bind_some, (b_or2 p (by omega) i (by omega)).1, nI_1]
    refine OT.eqL (c_without hT hw h (b_or2 p (by omega) i (by omega)).2) (OT.bdR (q_without hQ hw (b_or2 p (by omega) i (by omega)).2 hq) (fun b hb => ?_))
    rw [hb.1]
    have hs' : ∀ k, k < 1008 → b.2 k = sf0 k := fun k hk => (hb.2.2 k hk).trans (hs k hk)
    refine OT.ite Iff.rfl (fun z => OT.posR z ?_) (fun z => OT.negR z ?_)
    · exact pair_in hT hQ hw h h' hp hK c (i + 1) fu fv _ _ _ (by omega) (by omega) (by omega) hs'
    · exact pair_in hT hQ hw h h' hp hK c (i + 1) fu fv _ _ _ (by omega) (by omega) (by omega) hs'
theorem pair_out (hT : CT G kf st size ps mast) (hQ : QT G tf op ar) (hw : wOK w r) (h : CS G L F d lf ff dt) (h' : QS G 0 L F d sf0) {th : Int32} :
    ∀ (c i fu fv : Nat) (x y : Int32) (sf : Nat → Int32), i + c = G.1 → c < fu → c < fv → (∀ k, k < 1008 → sf k = sf0 k) →
      OT (m_X11_pair_6 lf kf ps mast (nI w) (nI r) fu x y (nI i)) (m_X12_pair_11 tf (nI w) (nI r) fv y x (nI i) th sf) (fun R R' => R = R'.1 ∧ ∀ k, k < 1008 → R'.2.2 k = sf0 k)
  | 0, i, fu + 1, fv + 1, x, y, sf, hc, _, _, hs => by
    have hn := hT.1.1
    rw [m_X11_pair_6, m_X12_pair_11, q_persons, hQ.2.1, hT.2.1]
    exact OT.posL (nI_le (by omega) (by omega)) (OT.eqR rfl (OT.posR (nI_le (by omega) (by omega)) (OT.ret ⟨rfl, hs⟩)))
  | c + 1, i, fu + 1, fv + 1, x, y, sf, hc, hf, hf', hs => by
    have hn := hT.1.1
    have hFU := FU_ge
    rw [m_X11_pair_6, m_X12_pair_11, q_persons, hQ.2.1, nI_1]
    refine OT.negL (by rw [hT.2.1]; exact nI_ge (by omega) (by omega)) (OT.eqR rfl (OT.negR (nI_ge (by omega) (by omega)) ?_))
    exact pair_in hT hQ hw h h' (show i < G.1 by omega) (fun x y s hs => pair_out hT hQ hw h h' c (i + 1) fu fv x y s (by omega) (by omega) (by omega) hs) (G.1 - (i + 1)) (i + 1) FU FU x y sf (by omega) (by omega) (by omega) hs
theorem l_pair (hT : CT G kf st size ps mast) (hQ : QT G tf op ar) (hw : wOK w r) (h : NW G lf ff dt sf) :
    OT (m_X11_pair lf kf ps mast (nI w) (nI r)) (m_X12_pair tf sf (nI w) (nI r)) (fun R R' => R = R'.1 ∧ ∀ k, k < 1008 → R'.2.2 k = sf k) := by
  have hFU := FU_ge
  have hn := hT.1.1
  obtain ⟨L, F, d, h1, h2⟩ := h
  exact pair_out hT hQ hw h1 h2 G.1 0 FU FU _ _ sf (by omega) (by omega) (by omega) (fun _ _ => rfl)
/-! even -/
theorem q_all (hQ : QT G tf op ar) (h : QS G 0 L F d sf) : m_X12_weighsAll tf sf 0 = some (nI (sumW G.2.2.1 L G.1)) := by
  have hn := hQ.1.1
  exact q_weighsAll (b := 0) hn (by omega) hQ.2.1 (fun p hp => ⟨hQ.2.2.2.1 p hp, hQ.1.2.2 p hp⟩) (fun p hp => ⟨h.2.2.1 p hp, h.1.1 p (by omega)⟩)
theorem even_loop (hT : CT G kf st size ps mast) (hQ : QT G tf op ar) (hw : wOK w r) (h' : QS G 0 L F d sf) (hp : 0 < hiN G w r L) :
    ∀ (c i fu fv : Nat) (th : Int32), i + c = w → c < fu → c < fv → OT (m_X11_even_29 lf (nI (hiN G w r L)) kf ps mast (nI w) (nI r) fu (nI (sumW G.2.2.1 L G.1)) (nI i)) (m_X12_even_13 tf sf (nI w) (nI r) fv (nI (hiN G w r L)) (nI i) th) (fun R R' => R = R'.1) := by
  have hs := sW_le hT.1 h'.1.1
  have hh : hiN G w r L ≤ 99 := Nat.le_trans hiN_le hT.1.2.1
  have hlow : flagN G.2.1 w r (sumW G.2.2.1 L G.1 + w) < hiN G w r L := by
    have := dn_inch (r := r) (S := sumW G.2.2.1 L G.1) hw.1
    unfold hiN flagN at hp ⊢
    omega
  intro c
  induction c with
  | zero =>
    intro i fu fv th hc hf hf'
    obtain ⟨f, rfl⟩ : ∃ f, fu = f + 1 := ⟨fu - 1, by omega⟩
    obtain ⟨f', rfl⟩ : ∃ f', fv = f' + 1 := ⟨fv - 1, by omega⟩
    have : i = w := by omega
    subst this
    have hw2 := hw.2.1
    rw [m_X11_even_29, m_X12_even_13, nI_add]
    refine OT.negR (nI_nle hp (by omega)) (OT.eqR (q_all hQ h') ?_)
    rw [nI_add]
    refine OT.eqR (q_highBy hQ.2.2.1 hT.1.2.1 (by omega) hw.1 hw.2.1 hw.2.2) (OT.negR (fun z => ?_) ?_)
    · have := (nI_eq (by have := dn_mono (r := r) (w := i) (S := sumW G.2.2.1 L G.1) (m := i); unfold flagN; have := hT.1.2.1; omega) (by omega)).mp z
      omega
    · refine OT.itL (fun _ => OT.ret rfl) (fun _ => OT.eqL (c_flagBy hT hw (by omega)) (OT.posL (nI_lt hlow (by omega)) (OT.ret rfl)))
  | succ c ih =>
    intro i fu fv th hc hf hf'
    obtain ⟨f, rfl⟩ : ∃ f, fu = f + 1 := ⟨fu - 1, by omega⟩
    obtain ⟨f', rfl⟩ : ∃ f', fv = f' + 1 := ⟨fv - 1, by omega⟩
    have hw2 := hw.2.1
    have hle : flagN G.2.1 w r (sumW G.2.2.1 L G.1 + i) ≤ hiN G w r L := by
      have := dn_mono (r := r) (w := w) (S := sumW G.2.2.1 L G.1) (m := i)
      unfold hiN flagN
      omega
    rw [m_X11_even_29, m_X12_even_13, nI_add]
    refine OT.negR (nI_nle hp (by omega)) (OT.eqR (q_all hQ h') ?_)
    rw [nI_add, nI_1]
    refine OT.eqR (q_highBy hQ.2.2.1 hT.1.2.1 (by omega) hw.1 hw.2.1 hw.2.2) (OT.negL (nI_ge (b := 20) (by omega) (by omega)) (OT.eqL (c_flagBy hT hw (by omega)) ?_))
    by_cases e : flagN G.2.1 w r (sumW G.2.2.1 L G.1 + i) < hiN G w r L
    · exact OT.posL (nI_lt e (by omega)) (OT.negR (fun z => by have := (nI_eq (by omega) (by omega)).mp z; omega) (OT.ret rfl))
    · exact OT.negL (nI_nlt (by omega) (by omega)) (OT.posR (by rw [show flagN G.2.1 w r (sumW G.2.2.1 L G.1 + i) = hiN G w r L by omega]) (ih (i + 1) f f' th (by omega) (by omega) (by omega)))
theorem l_even (hT : CT G kf st size ps mast) (hQ : QT G tf op ar) (hw : wOK w r) (h : NF G w r lf ff dt fl sf) : OT (m_X11_even lf fl kf ps mast (nI w) (nI r)) (m_X12_even tf sf (nI w) (nI r)) (fun R R' => R = R'.1) := by
  have hFU := FU_ge
  have hn := hT.1.1
  have hw1 := hw.1
  have hw2 := hw.2.1
  obtain ⟨L, F, d, h1, h2, rfl⟩ := h
  have hh : hiN G w r L ≤ 99 := Nat.le_trans hiN_le hT.1.2.1
  unfold m_X11_even m_X12_even
  revert hFU
  generalize FU = fu
  intro hFU
  refine OT.eqR (q_hi0 hQ hw h2) ?_
  obtain ⟨f, rfl⟩ : ∃ f, fu = f + 1 := ⟨fu - 1, by omega⟩
  by_cases hz : hiN G w r L = 0
  · rw [hz, m_X12_even_13]
    exact OT.posL rfl (OT.posR (by decide) (OT.ret rfl))
  · refine OT.negL (nI_ne0 (by omega) (by omega)) (OT.eqL (c_all hT h1) ?_)
    have hs := sW_le hT.1 h2.1.1
    -- the model asks at 0 first
    have e : m_X12_even_13 tf sf (nI w) (nI r) (f + 1) (nI (hiN G w r L)) 0 0 = m_X12_even_13 tf sf (nI w) (nI r) f (nI (hiN G w r L)) (nI 1) 0 := by
      conv => lhs; rw [m_X12_even_13]
      rw [if_neg (nI_nle (by omega) (by omega)), q_all hQ h2, Option.bind_some, Int32.add_zero, q_highBy hQ.2.2.1 hT.1.2.1 (by omega) hw.1 hw.2.1 hw.2.2, Option.bind_some, if_pos (show nI (flagN G.2.1 w r (sumW G.2.2.1 L G.1)) = nI (hiN G w r L) from rfl)]
      rfl
    rw [e]
    exact even_loop hT hQ hw h2 (by omega) (w - 1) 1 (f + 1) f 0 (by omega) (by omega) (by omega)
/-! sums -/
theorem c_lackAll_loop (hT : CT G kf st size ps mast) (h : CS G L F d lf ff dt) : ∀ (c i fu : Nat), i + c = G.1 → c < fu → m_X11_lackedByAll_4 ps lf fu (nI (sumL L i)) (nI i) = some (nI (sumL L G.1))
  | 0, i, fu + 1, hc, _ => by
    have hn := hT.1.1
    have : i = G.1 := by omega
    subst this
    rw [m_X11_lackedByAll_4, hT.2.1, if_pos (nI_le (by omega) (by omega))]
  | c + 1, i, fu + 1, hc, hf => by
    have hn := hT.1.1
    rw [m_X11_lackedByAll_4, if_neg (by rw [hT.2.1]; exact nI_ge (by omega) (by omega)), c_lack h (by omega), Option.bind_some, nI_add, nI_1]
    exact c_lackAll_loop hT h c (i + 1) fu (by omega) (by omega)
theorem c_lackAll (hT : CT G kf st size ps mast) (h : CS G L F d lf ff dt) : m_X11_lackedByAll ps lf = some (nI (sumL L G.1)) := by
  have hFU := FU_ge
  have hn := hT.1.1
  exact c_lackAll_loop hT h G.1 0 FU (by omega) (by omega)
theorem q_lackAll_loop {b : Nat} (hQ : QT G tf op ar) (hb : b ≤ 1056) (h : QS G b L F d sf) : ∀ (c i fu : Nat), i + c = G.1 → c < fu → m_X12_lacksAll_4 tf sf (nI b) fu (nI (sumL L i)) (nI i) = some (nI (sumL L G.1))
  | 0, i, fu + 1, hc, _ => by
    have hn := hQ.1.1
    have : i = G.1 := by omega
    subst this
    rw [m_X12_lacksAll_4, q_persons, hQ.2.1, Option.bind_some, if_pos (nI_le (by omega) (by omega))]
  | c + 1, i, fu + 1, hc, hf => by
    have hn := hQ.1.1
    have e : nI b + 1 + nI i = nI (b + 1 + i) := by rw [nI_1, nI_add]
    rw [m_X12_lacksAll_4, q_persons, hQ.2.1, Option.bind_some, if_neg (nI_ge (by omega) (by omega)), e, nI_clamp (show b + 1 + i < 2 ^ 31 by omega), if_pos (pn_in2 (by omega) (by omega)), h.2.2.1 i (by omega), Option.bind_some, nI_add, nI_1]
    exact q_lackAll_loop hQ hb h c (i + 1) fu (by omega) (by omega)
theorem q_lackAll {b : Nat} (hQ : QT G tf op ar) (hb : b ≤ 1056) (h : QS G b L F d sf) : m_X12_lacksAll tf sf (nI b) = some (nI (sumL L G.1)) := by
  have hFU := FU_ge
  have hn := hQ.1.1
  exact q_lackAll_loop hQ hb h G.1 0 FU (by omega) (by omega)
theorem l_mean (hT : CT G kf st size ps mast) (hQ : QT G tf op ar) (h : NW G lf ff dt sf) : OT (m_X11_mean lf ps) (m_X12_mean tf sf) (fun R R' => R = R'.1) := by
  have hn := hT.1.1
  obtain ⟨L, F, d, h1, h2⟩ := h
  unfold m_X11_mean m_X12_mean
  rw [q_persons, hQ.2.1, Option.bind_some, c_lackAll hT h1, show m_X12_lacksAll tf sf 0 = _ from q_lackAll (b := 0) hQ (by omega) h2, hT.2.1]
  by_cases hz : G.1 = 0
  · rw [hz]
    exact OT.posL (by decide) (OT.posR rfl (OT.ret rfl))
  · refine OT.negL (nI_nle (by omega) (by omega)) (OT.negR (nI_ne0 (by omega) (by omega)) (OT.eqL rfl (OT.eqR rfl (OT.eqR rfl (OT.posL (nI_ne0 (by omega) (by omega)) (OT.posR (nI_ne0 (by omega) (by omega)) (OT.ret rfl)))))))
/-! person -/
theorem l_person (hT : CT G kf st size ps mast) (hQ : QT G tf op ar) (h : NW G lf ff dt sf) (v q : Int32) : OT (m_X11_person lf ff kf ps v q) (m_X12_person tf sf v q) (fun R R' => R = R'.1) := by
  have hn := hT.1.1
  obtain ⟨L, F, d, h1, h2⟩ := h
  unfold m_X11_person m_X12_person
  rw [hT.2.1]
  rcases w_has hQ.1.1 hQ.2.1 v with ⟨e1, e2⟩ | ⟨p, hp, rfl, e1, e2⟩
  · exact OT.eqL e1 (OT.eqR e2 (OT.posL rfl (OT.posR rfl (OT.ret rfl))))
  · refine OT.eqL e1 (OT.eqR e2 (OT.negL (by decide) (OT.negR (by decide) ?_)))
    have hl := h1.1.1 p (by omega)
    rw [i1, i7, nI_clamp (show 1 + p < 2 ^ 31 by omega), nI_clamp (show 7 + p < 2 ^ 31 by omega), h2.l hp, h2.f hp, c_lack h1 (by omega), p_at (show p < 6 by omega) (by omega), p_at (show p < 6 by omega) (by omega), h1.2.2.2 p (by omega), hT.2.2.2.1 p hp, show m_X12_personOf tf (nI p) 0 = _ from q_personOf (c := 0) (show p < 6 by omega) (by omega), show 5 + 3 * p + 0 = 5 + 3 * p from rfl, hQ.2.2.2.1 p hp, q_wt hQ h2 hp]
    rcases w_rng q 0 3 (by omega) (by omega) with ⟨e3, e4⟩ | ⟨j, hj, hj', rfl, e3, e4⟩
    · refine OT.eqR e4 (OT.posR rfl ?_)
      have hz : ∀ j : Nat, j ≤ 3 → ¬ q = nI j := by
        intro j hj z
        subst z
        revert e3
        revert j
        decide +kernel
      exact OT.negL (hz 0 (by omega)) (OT.negL (hz 1 (by omega)) (OT.negL (hz 2 (by omega)) (OT.negL (hz 3 (by omega)) (OT.ret rfl))))
    · refine OT.eqR e4 (OT.negR (by decide) ?_)
      rcases (show j = 0 ∨ j = 1 ∨ j = 2 ∨ j = 3 by omega) with rfl | rfl | rfl | rfl
      · exact OT.posL rfl (OT.posR rfl (OT.eqL rfl (OT.eqR rfl (OT.ret rfl))))
      · exact OT.negL (by decide) (OT.negR (by decide) (OT.posL rfl (OT.posR rfl (OT.eqL rfl (OT.posR (pn_in2 (by omega) (by omega)) (OT.ret rfl))))))
      · exact OT.negL (by decide) (OT.negR (by decide) (OT.negL (by decide) (OT.negR (by decide) (OT.posL rfl (OT.posR rfl (OT.eqL rfl (OT.eqL (c_wt hT hp hl) (OT.eqR rfl (OT.ret rfl)))))))))
      · exact OT.negL (by decide) (OT.negR (by decide) (OT.negL (by decide) (OT.negR (by decide) (OT.negL (by decide) (OT.negR (by decide) (OT.posL rfl (OT.eqL rfl (OT.posR (pn_in2 (by omega) (by omega)) (OT.ret rfl)))))))))
/-! sets and pairs -/
theorem deaf_loop (hT : CT G kf st size ps mast) (hQ : QT G tf op ar) (h : CS G L F d lf ff dt) (h' : QS G 0 L F d sf) :
    ∀ (c i fu fv : Nat) (x th : Int32), i + c = G.1 → c < fu → c < fv → OT (m_X11_deaf_4 ff ps fu x (nI i)) (m_X12_deaf_9 tf sf fv x (nI i) th) (fun R R' => R = R'.1)
  | 0, i, fu + 1, fv + 1, x, th, hc, _, _ => by
    have hn := hT.1.1
    rw [m_X11_deaf_4, m_X12_deaf_9, q_persons, hQ.2.1, hT.2.1]
    exact OT.posL (nI_le (by omega) (by omega)) (OT.eqR rfl (OT.posR (nI_le (by omega) (by omega)) (OT.ret rfl)))
  | c + 1, i, fu + 1, fv + 1, x, th, hc, hf, hf' => by
    have hn := hT.1.1
    rw [m_X11_deaf_4, m_X12_deaf_9, q_persons, hQ.2.1, i7, nI_clamp (show 7 + i < 2 ^ 31 by omega), h'.f (by omega), p_at (show i < 6 by omega) (by omega), h.2.2.2 i (by omega), nI_1]
    refine OT.negL (by rw [hT.2.1]; exact nI_ge (by omega) (by omega)) (OT.eqR rfl (OT.negR (nI_ge (by omega) (by omega)) (OT.posR (pn_in2 (by omega) (by omega)) (OT.eqL rfl (OT.ite Iff.rfl (fun _ => OT.eqL rfl ?_) (fun _ => ?_))))))
    · exact deaf_loop hT hQ h h' c (i + 1) fu fv _ _ (by omega) (by omega) (by omega)
    · exact deaf_loop hT hQ h h' c (i + 1) fu fv _ _ (by omega) (by omega) (by omega)
theorem l_deaf (hT : CT G kf st size ps mast) (hQ : QT G tf op ar) (h : NW G lf ff dt sf) : OT (m_X11_deaf ff ps) (m_X12_deaf tf sf) (fun R R' => R = R'.1) := by
  have hFU := FU_ge
  have hn := hT.1.1
  obtain ⟨L, F, d, h1, h2⟩ := h
  exact deaf_loop hT hQ h1 h2 G.1 0 FU FU _ _ (by omega) (by omega) (by omega)
theorem who_loop (hT : CT G kf st size ps mast) (hQ : QT G tf op ar) (h : CS G L F d lf ff dt) (h' : QS G 0 L F d sf) :
    ∀ (c i fu fv : Nat) (x : Int32), i + c = G.1 → c < fu → c < fv → OT (m_X11_whoLacks_4 lf ps fu x (nI i)) (m_X12_lacking_4 tf sf fv x (nI i)) (fun R R' => R = R')
  | 0, i, fu + 1, fv + 1, x, hc, _, _ => by
    have hn := hT.1.1
    rw [m_X11_whoLacks_4, m_X12_lacking_4, q_persons, hQ.2.1, hT.2.1]
    exact OT.posL (nI_le (by omega) (by omega)) (OT.eqR rfl (OT.posR (nI_le (by omega) (by omega)) (OT.ret rfl)))
  | c + 1, i, fu + 1, fv + 1, x, hc, hf, hf' => by
    have hn := hT.1.1
    rw [m_X11_whoLacks_4, m_X12_lacking_4, q_persons, hQ.2.1, i1, nI_clamp (show 1 + i < 2 ^ 31 by omega), h'.l (by omega), nI_1]
    refine OT.negL (by rw [hT.2.1]; exact nI_ge (by omega) (by omega)) (OT.eqR rfl (OT.negR (nI_ge (by omega) (by omega)) (OT.posR (pn_in2 (by omega) (by omega)) (OT.eqL (c_lack h (by omega)) (OT.ite Iff.rfl (fun _ => ?_) (fun _ => OT.eqL rfl ?_))))))
    · exact who_loop hT hQ h h' c (i + 1) fu fv _ (by omega) (by omega) (by omega)
    · exact who_loop hT hQ h h' c (i + 1) fu fv _ (by omega) (by omega) (by omega)
theorem l_who (hT : CT G kf st size ps mast) (hQ : QT G tf op ar) (h : NW G lf ff dt sf) : OT (m_X11_whoLacks lf ps) (m_X12_lacking tf sf) (fun R R' => R = R') := by
  have hFU := FU_ge
  have hn := hT.1.1
  obtain ⟨L, F, d, h1, h2⟩ := h
  exact who_loop hT hQ h1 h2 G.1 0 FU FU _ (by omega) (by omega) (by omega)
theorem c_feels (hG : gOK G) (h : CS G L F d lf ff dt) {p o : Nat} (hp : p < 6) (ho : o < 6) : m_X6_feels ff (nI p) (nI o) = some (if (F p).testBit o then 1 else 0) := by
  unfold m_X6_feels
  rw [p_at hp (by omega), h.2.2.2 p hp, Option.bind_some, b_holds _ (f64 hG (h.1.2 p hp)) o ho, Option.bind_some]
  split
  · rfl
  · rfl
theorem q_feels (hG : gOK G) (h : QS G 0 L F d sf) {p o : Nat} (hp : p < G.1) (ho : o < 6) : m_X12_doesFeel sf 0 (nI p) (nI o) = some (if (F p).testBit o then 1 else 0) := by
  have hn := hG.1
  exact q_doesFeel (b := 0) (by omega) (by omega) ho (h.2.2.2 p hp) (f64 hG (h.1.2 p (by omega)))
theorem hearts_loop (hT : CT G kf st size ps mast) (hQ : QT G tf op ar) (h : CS G L F d lf ff dt) (h' : QS G 0 L F d sf) {p : Nat} (hp : p < G.1) (e2 : m_X12_isPerson tf (nI p) = some 1) :
    ∀ (c i fu fv : Nat) (x th : Int32), i + c = G.1 → c < fu → c < fv → OT (m_X11_hearts_17 ff ps (nI p) fu x (nI i)) (m_X12_hearts_9 tf sf (nI p) fv x (nI i) th) (fun R R' => R = R'.1)
  | 0, i, fu + 1, fv + 1, x, th, hc, _, _ => by
    have hn := hT.1.1
    rw [m_X11_hearts_17, m_X12_hearts_9, q_persons, hQ.2.1, hT.2.1]
    unfold m_X12_hearts_51
    exact OT.posL (nI_le (by omega) (by omega)) (OT.eqR rfl (OT.posR (nI_le (by omega) (by omega)) (OT.eqR e2 (OT.negR (by decide) (OT.ret rfl)))))
  | c + 1, i, fu + 1, fv + 1, x, th, hc, hf, hf' => by
    have hn := hT.1.1
    rw [m_X11_hearts_17, m_X12_hearts_9, q_persons, hQ.2.1, nI_1]
    refine OT.negL (by rw [hT.2.1]; exact nI_ge (by omega) (by omega)) (OT.eqR rfl (OT.negR (nI_ge (by omega) (by omega)) (OT.eqR e2 (OT.negR (by decide) (OT.eqL (c_feels hT.1 h (by omega) (by omega)) (OT.eqR (q_feels hT.1 h' (by omega) (by omega)) (OT.ite Iff.rfl (fun _ => ?_) (fun _ => OT.eqL rfl ?_))))))))
    · exact hearts_loop hT hQ h h' hp e2 c (i + 1) fu fv _ _ (by omega) (by omega) (by omega)
    · exact hearts_loop hT hQ h h' hp e2 c (i + 1) fu fv _ _ (by omega) (by omega) (by omega)
theorem l_hearts (hT : CT G kf st size ps mast) (hQ : QT G tf op ar) (h : NW G lf ff dt sf) (v : Int32) : OT (m_X11_hearts ff ps v) (m_X12_hearts tf sf v) (fun R R' => R = R'.1) := by
  have hFU := FU_ge
  have hn := hT.1.1
  obtain ⟨L, F, d, h1, h2⟩ := h
  unfold m_X11_hearts m_X12_hearts
  revert hFU
  generalize FU = fu
  intro hFU
  rcases w_has hQ.1.1 hQ.2.1 v with ⟨e1, e2⟩ | ⟨p, hp, rfl, e1, e2⟩
  · rw [hT.2.1]
    refine OT.eqL e1 (OT.posL rfl ?_)
    obtain ⟨f, rfl⟩ : ∃ f, fu = f + 1 := ⟨fu - 1, by omega⟩
    rw [m_X12_hearts_9, q_persons]
    unfold m_X12_hearts_51
    exact OT.eqR rfl (OT.itR (fun _ => OT.eqR e2 (OT.posR rfl (OT.ret rfl))) (fun _ => OT.eqR e2 (OT.posR rfl (OT.eqR e2 (OT.posR rfl (OT.ret rfl))))))
  · rw [← hT.2.1] at e1
    exact OT.eqL e1 (OT.negL (by decide) (hearts_loop hT hQ h1 h2 hp e2 G.1 0 fu fu _ _ (by omega) (by omega) (by omega)))
theorem alike_in (hT : CT G kf st size ps mast) (hQ : QT G tf op ar) (h : CS G L F d lf ff dt) (h' : QS G 0 L F d sf) {p : Nat} (hp : p < G.1) {th : Int32} {K4 : Int32 → Int32 → Option Int32} {K9 : Int32 → Int32 → Int32 → Option (Int32 × Int32)}
    (hK : ∀ x : Int32, OT (K4 x (nI (p + 1))) (K9 x (nI (p + 1)) th) (fun R R' => R = R'.1)) :
    ∀ (c i fu fv : Nat) (x : Int32), i + c = G.1 → c < fu → c < fv → OT (m_X11_alike_19 lf ps K4 fu x (nI p) (nI i)) (m_X12_alike_21 tf sf K9 fv x (nI p) (nI i) th) (fun R R' => R = R'.1)
  | 0, i, fu + 1, fv + 1, x, hc, _, _ => by
    have hn := hT.1.1
    rw [m_X11_alike_19, m_X12_alike_21, q_persons, hQ.2.1, hT.2.1, nI_1]
    exact OT.posL (nI_le (by omega) (by omega)) (OT.eqR rfl (OT.posR (nI_le (by omega) (by omega)) (hK _)))
  | c + 1, i, fu + 1, fv + 1, x, hc, hf, hf' => by
    have hn := hT.1.1
    rw [m_X11_alike_19, m_X12_alike_21, q_persons, hQ.2.1, i1, i1, nI_clamp (show 1 + p < 2 ^ 31 by omega), nI_clamp (show 1 + i < 2 ^ 31 by omega), h'.l hp, h'.l (show i < G.1 by omega), nI_1 i]
    refine OT.negL (by rw [hT.2.1]; exact nI_ge (by omega) (by omega)) (OT.eqR rfl (OT.negR (nI_ge (by omega) (by omega)) (OT.posR (pn_in2 (by omega) (by omega)) (OT.posR (pn_in2 (by omega) (by omega)) (OT.eqL (c_lack h (by omega)) (OT.eqL (c_lack h (by omega)) (OT.ite Iff.rfl (fun _ => ?_) (fun _ => ?_))))))))
    · exact alike_in hT hQ h h' hp hK c (i + 1) fu fv _ (by omega) (by omega) (by omega)
    · exact alike_in hT hQ h h' hp hK c (i + 1) fu fv _ (by omega) (by omega) (by omega)
theorem alike_out (hT : CT G kf st size ps mast) (hQ : QT G tf op ar) (h : CS G L F d lf ff dt) (h' : QS G 0 L F d sf) {th : Int32} :
    ∀ (c i fu fv : Nat) (x : Int32), i + c = G.1 → c < fu → c < fv → OT (m_X11_alike_4 lf ps fu x (nI i)) (m_X12_alike_9 tf sf fv x (nI i) th) (fun R R' => R = R'.1)
  | 0, i, fu + 1, fv + 1, x, hc, _, _ => by
    have hn := hT.1.1
    rw [m_X11_alike_4, m_X12_alike_9, q_persons, hQ.2.1, hT.2.1]
    exact OT.posL (nI_le (by omega) (by omega)) (OT.eqR rfl (OT.posR (nI_le (by omega) (by omega)) (OT.ret rfl)))
  | c + 1, i, fu + 1, fv + 1, x, hc, hf, hf' => by
    have hn := hT.1.1
    have hFU := FU_ge
    rw [m_X11_alike_4, m_X12_alike_9, q_persons, hQ.2.1, nI_1]
    refine OT.negL (by rw [hT.2.1]; exact nI_ge (by omega) (by omega)) (OT.eqR rfl (OT.negR (nI_ge (by omega) (by omega)) ?_))
    exact alike_in hT hQ h h' (show i < G.1 by omega) (fun x => alike_out hT hQ h h' c (i + 1) fu fv x (by omega) (by omega) (by omega)) (G.1 - (i + 1)) (i + 1) FU FU x (by omega) (by omega) (by omega)
theorem l_alike (hT : CT G kf st size ps mast) (hQ : QT G tf op ar) (h : NW G lf ff dt sf) : OT (m_X11_alike lf ps) (m_X12_alike tf sf) (fun R R' => R = R'.1) := by
  have hFU := FU_ge
  have hn := hT.1.1
  obtain ⟨L, F, d, h1, h2⟩ := h
  exact alike_out hT hQ h1 h2 G.1 0 FU FU _ (by omega) (by omega) (by omega)
/-! worse -/
theorem worse_off (hQ : QT G tf op ar) {p : Nat} (hp : p < G.1) {th x : Int32} {K9 : Int32 → Int32 → Int32 → Option (Int32 × Int32)} : ∀ (c i fv : Nat), i + c = G.1 → c < fv → m_X12_worse_38 tf sf K9 fv x (nI p) 0 (nI i) th = K9 (x ||| 0) (nI (p + 1)) th
  | 0, i, fv + 1, hc, _ => by
    have hn := hQ.1.1
    rw [m_X12_worse_38, q_persons, hQ.2.1, Option.bind_some, if_pos (nI_le (by omega) (by omega)), if_pos rfl, nI_1]
  | c + 1, i, fv + 1, hc, hf => by
    have hn := hQ.1.1
    rw [m_X12_worse_38, q_persons, hQ.2.1, Option.bind_some, if_neg (nI_ge (by omega) (by omega)), if_pos rfl, nI_1]
    exact worse_off hQ hp c (i + 1) fv (by omega) (by omega)
/-- whether one lacks more than all whom they feel: the class tells it, the model goes on with it -/
theorem worse_in (hT : CT G kf st size ps mast) (hQ : QT G tf op ar) (h : CS G L F d lf ff dt) (h' : QS G 0 L F d sf) {p : Nat} (hp : p < G.1) (hF : ¬ F p = 0) {th x : Int32} {K9 : Int32 → Int32 → Int32 → Option (Int32 × Int32)} :
    ∀ (c i fu fv : Nat), i + c = G.1 → c < fu → c < fv → (m_X11_lacksMoreThanFelt_2 lf ff ps (nI p) fu (nI i) = some 0 ∧ m_X12_worse_38 tf sf K9 fv x (nI p) 1 (nI i) th = K9 (x ||| 0) (nI (p + 1)) th) ∨ (m_X11_lacksMoreThanFelt_2 lf ff ps (nI p) fu (nI i) = some 1 ∧ m_X12_worse_38 tf sf K9 fv x (nI p) 1 (nI i) th = K9 (x ||| (1 <<< (nI p &&& 31))) (nI (p + 1)) th)
  | 0, i, fu + 1, fv + 1, hc, _, _ => by
    have hn := hT.1.1
    refine Or.inr ⟨?_, ?_⟩
    · rw [m_X11_lacksMoreThanFelt_2, hT.2.1, if_pos (nI_le (by omega) (by omega)), p_at (show p < 6 by omega) (by omega), h.2.2.2 p (by omega), Option.bind_some, if_neg (nI_ne0 (by omega) (by have := f64 hT.1 (h.1.2 p (by omega)); omega))]
    · rw [m_X12_worse_38, q_persons, hQ.2.1, Option.bind_some, if_pos (nI_le (by omega) (by omega)), if_neg (by decide), nI_1]
  | c + 1, i, fu + 1, fv + 1, hc, hf, hf' => by
    have hn := hT.1.1
    have hl := h.1.1
    have ih := worse_in hT hQ h h' hp hF (th := th) (x := x) (K9 := K9) c (i + 1) fu fv (by omega) (by omega) (by omega)
    rw [m_X11_lacksMoreThanFelt_2, m_X12_worse_38, q_persons, hQ.2.1, Option.bind_some, if_neg (by rw [hT.2.1]; exact nI_ge (by omega) (by omega)), if_neg (nI_ge (by omega) (by omega)), if_neg (show ¬ (1 : Int32) = 0 by decide), c_feels hT.1 h (show p < 6 by omega) (show i < 6 by omega), q_feels hT.1 h' hp (show i < 6 by omega), Option.bind_some, Option.bind_some, nI_1, i1, i1, nI_clamp (show 1 + p < 2 ^ 31 by omega), nI_clamp (show 1 + i < 2 ^ 31 by omega), h'.l hp, h'.l (show i < G.1 by omega), c_lack h (show i < 6 by omega), c_lack h (show p < 6 by omega), Option.bind_some, Option.bind_some]
    by_cases e : (F p).testBit i = true
    · rw [if_pos e, if_neg (show ¬ (1 : Int32) = 0 by decide), if_neg (show ¬ (1 : Int32) = 0 by decide), if_pos (pn_in2 (by omega) (by omega)), if_pos (pn_in2 (by omega) (by omega))]
      by_cases e2 : nI (L i) < nI (L p)
      · rw [if_pos e2, if_neg (i_lt.mp e2)]; exact ih
      · rw [if_neg e2, if_pos (by rw [i_lt] at e2; exact Classical.not_not.mp e2)]
        exact Or.inl ⟨rfl, worse_off hQ hp c (i + 1) fv (by omega) (by omega)⟩
    · rw [if_neg e, if_pos rfl, if_pos rfl]; exact ih
theorem more0 (hT : CT G kf st size ps mast) (h : CS G L F d lf ff dt) {p : Nat} (hp : p < G.1) (hF : F p = 0) : ∀ (c i fu : Nat), i + c = G.1 → c < fu → m_X11_lacksMoreThanFelt_2 lf ff ps (nI p) fu (nI i) = some 0
  | 0, i, fu + 1, hc, _ => by
    have hn := hT.1.1
    rw [m_X11_lacksMoreThanFelt_2, hT.2.1, if_pos (nI_le (by omega) (by omega)), p_at (show p < 6 by omega) (by omega), h.2.2.2 p (by omega), Option.bind_some, hF, if_pos (show nI 0 = 0 from rfl)]
  | c + 1, i, fu + 1, hc, hf => by
    have hn := hT.1.1
    rw [m_X11_lacksMoreThanFelt_2, if_neg (by rw [hT.2.1]; exact nI_ge (by omega) (by omega)), c_feels hT.1 h (show p < 6 by omega) (show i < 6 by omega), Option.bind_some, hF, if_neg (show ¬ Nat.testBit 0 i = true by simp), if_pos rfl, nI_1]
    exact more0 hT h hp hF c (i + 1) fu (by omega) (by omega)
theorem worse_out (hT : CT G kf st size ps mast) (hQ : QT G tf op ar) (h : CS G L F d lf ff dt) (h' : QS G 0 L F d sf) {th : Int32} :
    ∀ (c i fu fv : Nat) (x : Int32), i + c = G.1 → c < fu → c < fv → OT (m_X11_worse_4 lf ff ps fu x (nI i)) (m_X12_worse_9 tf sf fv x (nI i) th) (fun R R' => R = R'.1)
  | 0, i, fu + 1, fv + 1, x, hc, _, _ => by
    have hn := hT.1.1
    rw [m_X11_worse_4, m_X12_worse_9, q_persons, hQ.2.1, hT.2.1]
    exact OT.posL (nI_le (by omega) (by omega)) (OT.eqR rfl (OT.posR (nI_le (by omega) (by omega)) (OT.ret rfl)))
  | c + 1, i, fu + 1, fv + 1, x, hc, hf, hf' => by
    have hn := hT.1.1
    have hFU := FU_ge
    have go := fun x : Int32 => worse_out hT hQ h h' (th := th) c (i + 1) fu fv x (by omega) (by omega) (by omega)
    rw [m_X11_worse_4, m_X12_worse_9, q_persons, hQ.2.1, nI_1, i7, nI_clamp (show 7 + i < 2 ^ 31 by omega), h'.f (by omega)]
    unfold m_X11_lacksMoreThanFelt
    refine OT.negL (by rw [hT.2.1]; exact nI_ge (by omega) (by omega)) (OT.eqR rfl (OT.negR (nI_ge (by omega) (by omega)) (OT.posR (pn_in2 (by omega) (by omega)) ?_)))
    by_cases hz : F i = 0
    · refine OT.eqL (more0 hT h (by omega) hz G.1 0 FU (by omega) (by omega)) (OT.posL rfl (OT.posR (by rw [hz]; rfl) ?_))
      rw [show m_X12_worse_38 tf sf (m_X12_worse_9 tf sf fv) FU x (nI i) 0 0 th = _ from worse_off hQ (show i < G.1 by omega) G.1 0 FU (by omega) (by omega)]
      exact go _
    · refine OT.negR (nI_ne0 (by omega) (by have := f64 hT.1 (h.1.2 i (by omega)); omega)) ?_
      rcases worse_in hT hQ h h' (show i < G.1 by omega) hz (th := th) (x := x) (K9 := m_X12_worse_9 tf sf fv) G.1 0 FU FU (by omega) (by omega) (by omega) with ⟨e1, e2⟩ | ⟨e1, e2⟩
      · refine OT.eqL e1 (OT.posL rfl ?_)
        rw [show m_X12_worse_38 tf sf (m_X12_worse_9 tf sf fv) FU x (nI i) 1 0 th = _ from e2]
        exact go _
      · refine OT.eqL e1 (OT.negL (by decide) (OT.eqL rfl ?_))
        rw [show m_X12_worse_38 tf sf (m_X12_worse_9 tf sf fv) FU x (nI i) 1 0 th = _ from e2]
        exact go _
theorem l_worse (hT : CT G kf st size ps mast) (hQ : QT G tf op ar) (h : NW G lf ff dt sf) : OT (m_X11_worse lf ff ps) (m_X12_worse tf sf) (fun R R' => R = R'.1) := by
  have hFU := FU_ge
  have hn := hT.1.1
  obtain ⟨L, F, d, h1, h2⟩ := h
  exact worse_out hT hQ h1 h2 G.1 0 FU FU _ (by omega) (by omega) (by omega)
end WHO
