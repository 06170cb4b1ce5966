/-! PURE: look -/
theorem lk_nums : ∀ p : Nat, p < 6 → ∀ a : Nat, a < 20 → nI (20 * p + a) / 20 = nI p ∧ 1 + (nI (20 * p + a) - nI (20 * p + a) / 20 * 20) = nI (a + 1) := by decide +kernel
section LOOK
variable {G : Gm} {w r : Nat} {sf0 kf st tf op ar lf ff sf lf0 ff0 nx u fa pl lk df hf : Nat → Int32} {size ps mast wv rv fl dt mv : Int32} {L F D H : Nat → Nat} {d m : Nat}
theorem fill_loop {N : Nat} (hN : N < 2 ^ 31) {x : Int32} : ∀ (c i fu : Nat) (f : Nat → Int32), i + c = N → c < fu → (∀ j, j < i → f j = x) → OK (m_J7_fill_53178_5 N x fu (nI i) (nI N) f) (fun R => ∀ j, j < N → R j = x)
  | 0, i, fu + 1, f, hc, _, h => by
    have : i = N := by omega
    subst this
    rw [m_J7_fill_53178_5]
    exact OK.pos (nI_le (by omega) (by omega)) (OK.ret h)
  | c + 1, i, fu + 1, f, hc, hf, h => by
    rw [m_J7_fill_53178_5, nI_clamp (show i < 2 ^ 31 by omega), nI_1]
    refine OK.neg (nI_ge (by omega) (by omega)) (OK.pos (pn_in2 (by omega) (by omega)) (fill_loop hN c (i + 1) fu _ (by omega) (by omega) (fun j hj => ?_)))
    unfold upd
    by_cases e : j = i
    · rw [if_pos e]
    · rw [if_neg e]; exact h j (by omega)
theorem fill_ok {N : Nat} (hN : N ≤ 5000) {x : Int32} {f : Nat → Int32} : OK (m_J7_fill_53178 N f x) (fun R => ∀ j, j < N → R j = x) := by
  have hFU := FU_ge
  exact fill_loop (by omega) N 0 FU f (by omega) (by omega) (fun j hj => by omega)
theorem qfill_loop : ∀ (c i fu : Nat) (th : Int32) (f : Nat → Int32), i + c = 2100 → c < fu → (∀ j, j < i → f j = 0) → ∃ f', (∀ j, j < 2100 → f' j = 0) ∧ m_X12_look_7 tf op ar wv rv fu (nI i) th fa pl sf lk f = m_X12_look_31 tf op ar wv rv FU 0 0 th fa pl sf lk f'
  | 0, i, fu + 1, th, f, hc, _, h => by
    have : i = 2100 := by omega
    subst this
    refine ⟨f, h, ?_⟩
    rw [m_X12_look_7, if_pos (by decide)]
  | c + 1, i, fu + 1, th, f, hc, hf, h => by
    rw [m_X12_look_7, if_neg (show ¬ (2100 : Int32) ≤ nI i from nI_ge (b := 2100) (by omega) (by omega)), nI_clamp (show i < 2 ^ 31 by omega), if_pos (pn_in2 (by omega) (by omega)), nI_1]
    refine qfill_loop c (i + 1) fu th _ (by omega) (by omega) (fun j hj => ?_)
    unfold upd
    by_cases e : j = i
    · rw [if_pos e]
    · rw [if_neg e]; exact h j (by omega)
theorem ix_c (i h : Nat) : nI i * 100 + nI h = nI (100 * i + h) := by
  show nI i * nI 100 + nI h = _
  rw [pn_mul, nI_add, Nat.mul_comm]
theorem ix_m (i h : Nat) : (100 : Int32) * nI i + nI h = nI (100 * i + h) := by
  show nI 100 * nI i + nI h = _
  rw [pn_mul, nI_add]
/-- the days of one way are counted on both sides -/
theorem stand_loop (hT : CT G kf st size ps mast) (hQ : QT G tf op ar) (hw : wOK w r) {x1 x2 th : Int32} {K31 : Int32 → Int32 → Int32 → (Nat → Int32) → (Nat → Int32) → (Nat → Int32) → (Nat → Int32) → (Nat → Int32) → Option (Int32 × Int32 × (Nat → Int32) × (Nat → Int32) × (Nat → Int32) × (Nat → Int32) × (Nat → Int32))} :
    ∀ (c i fu fv : Nat) (fl dt : Int32) (lf nx u fa pl sf lk sd al : Nat → Int32), i + c = 21 → c < fu → c < fv → BT G w r sf0 wv rv fl dt lf ff sf → (∀ j, j < 2100 → sd j = al j) →
      ∃ R fa' pl' sf' lk' al', m_X11_countStanding_2 ff kf st size ps mast wv rv fu (nI i) sd fl dt lf nx u = some R ∧ m_X12_look_85 tf op ar (nI w) (nI r) K31 fv x1 x2 (nI i) th fa pl sf lk al = K31 x1 (x2 + 1) th fa' pl' sf' lk' al' ∧ (∀ j, j < 2100 → R.1 j = al' j) ∧ ∀ k, k < 1008 → sf' k = sf0 k
  | 0, i, fu + 1, fv + 1, fl, dt, lf, nx, u, fa, pl, sf, lk, sd, al, hc, _, _, hB, ha => by
    have : i = 21 := by omega
    subst this
    refine ⟨_, fa, pl, sf, lk, al, by rw [m_X11_countStanding_2, if_pos (by decide)], by rw [m_X12_look_85, if_pos (by decide)], ha, hB.fr⟩
  | c + 1, i, fu + 1, fv + 1, fl, dt, lf, nx, u, fa, pl, sf, lk, sd, al, hc, hf, hf', hB, ha => by
    obtain ⟨h, hh, rfl⟩ := b_fl hT.1 hB
    obtain ⟨R1, R2, e1, e2, e3, e4⟩ := b_day (nx := nx) (u := u) (fa := fa) (pl := pl) (lk := lk) hT hQ hw hB
    rw [m_X11_countStanding_2, if_neg (show ¬ (20 : Int32) < nI i from nI_nlt (a := 20) (by omega) (by omega)), ix_c, p_at (show 100 * i + h < 2100 by omega) (by omega), Option.bind_some, p_put (show 100 * i + h < 2100 by omega) (by omega), Option.bind_some, e1, Option.bind_some, nI_1]
    rw [m_X12_look_85, if_neg (show ¬ (20 : Int32) < nI i from nI_nlt (a := 20) (by omega) (by omega)), b_hi hQ hw hB, Option.bind_some, ix_m, nI_clamp (show 100 * i + h < 2 ^ 31 by omega), if_pos (pn_in2 (by omega) (by omega)), if_pos (pn_in2 (by omega) (by omega)), e2, Option.bind_some, nI_1]
    refine stand_loop hT hQ hw c (i + 1) fu fv _ _ _ _ _ _ _ _ _ _ _ (by omega) (by omega) (by omega) e4 (fun j hj => ?_)
    unfold upd
    by_cases e : j = 100 * i + h
    · rw [if_pos e, if_pos e, ha _ (by omega)]
    · rw [if_neg e, if_neg e, ha j hj]
/-- the greatest number of ways that stand alike, behind so many days -/
theorem most_loop {i : Nat} (hi : i ≤ 20) {sd al : Nat → Int32} (ha : ∀ j, j < 2100 → sd j = al j) {x2 x3 th : Int32} {K139 : Int32 → Int32 → Int32 → Int32 → (Nat → Int32) → (Nat → Int32) → (Nat → Int32) → (Nat → Int32) → (Nat → Int32) → Option (Int32 × Int32 × (Nat → Int32) × (Nat → Int32) × (Nat → Int32) × (Nat → Int32) × (Nat → Int32))} :
    ∀ (c h fu fv : Nat) (y : Int32), h + c = 100 → c < fu → c < fv → ∃ z, m_X11_mostAlike_4 sd (nI i) fu y (nI h) = some z ∧ m_X12_look_152 tf op ar wv rv K139 fv x2 x3 (nI i) y (nI h) th fa pl sf lk al = (if x3 ≤ z then K139 x2 x3 (nI (i + 1)) th fa pl sf lk al else K139 (nI i) z (nI (i + 1)) th fa pl sf lk al)
  | 0, h, fu + 1, fv + 1, y, hc, _, _ => by
    have : h = 100 := by omega
    subst this
    refine ⟨y, by rw [m_X11_mostAlike_4, if_pos (by decide)], ?_⟩
    rw [m_X12_look_152, if_pos (by decide), nI_1 i |>.symm]
    unfold m_X12_look_215
    by_cases e : x3 ≤ y
    · rw [if_pos e, if_pos e, if_pos e]
    · rw [if_neg e, if_neg e, if_neg e]
  | c + 1, h, fu + 1, fv + 1, y, hc, hf, hf' => by
    rw [m_X11_mostAlike_4, if_neg (show ¬ (100 : Int32) ≤ nI h from nI_ge (b := 100) (by omega) (by omega)), ix_c, p_at (show 100 * i + h < 2100 by omega) (by omega), Option.bind_some, nI_1]
    rw [m_X12_look_152, if_neg (show ¬ (99 : Int32) < nI h from nI_nlt (a := 99) (by omega) (by omega)), ix_m, nI_clamp (show 100 * i + h < 2 ^ 31 by omega), if_pos (pn_in2 (by omega) (by omega)), if_pos (pn_in2 (by omega) (by omega)), Option.bind_some, nI_1, ha _ (by omega)]
    by_cases e : al (100 * i + h) ≤ y
    · rw [if_pos e, if_neg (fun z => (i_lt.mp z) e)]
      exact most_loop hi ha c (h + 1) fu fv y (by omega) (by omega) (by omega)
    · rw [if_neg e, if_pos (i_lt.mpr e)]
      exact most_loop hi ha c (h + 1) fu fv _ (by omega) (by omega) (by omega)
theorem least_lk {here : Nat} {sd al : Nat → Int32} (ha : ∀ j, j < 2100 → sd j = al j) {lf1 ff1 : Nat → Int32} {dt1 w1 r1 th : Int32} {tv : Value} {aw ad af adt : Int32} (hs : ∀ k, k < 1008 → sf k = sf0 k) :
    ∀ (c i fu fv : Nat) (x y : Int32), i + c = 21 → c < fu → c < fv →
      OT (m_X11_look_80 df hf mv lf1 ff1 dt1 here kf st size ps mast w1 r1 fu x y (nI i) sd tv aw ad af adt lf0 ff0 nx u) (m_X12_look_139 tf op ar wv rv fv y x (nI i) th fa pl sf lk al) (fun R R' => R.1 = R'.1 ∧ ∀ k, k < 1008 → R'.2.2.2.2.1 k = sf0 k)
  | 0, i, fu + 1, fv + 1, x, y, hc, _, _ => by
    have : i = 21 := by omega
    subst this
    rw [m_X11_look_80, m_X12_look_139]
    exact OT.posL (by decide) (OT.posR (by decide) (OT.ret ⟨rfl, hs⟩))
  | c + 1, i, fu + 1, fv + 1, x, y, hc, hf', hf2 => by
    have hFU := FU_ge
    rw [m_X11_look_80, m_X12_look_139]
    refine OT.negL (nI_nlt (a := 20) (by omega) (by omega)) (OT.negR (nI_nlt (a := 20) (by omega) (by omega)) ?_)
    obtain ⟨z, e1, e2⟩ := most_loop (tf := tf) (op := op) (ar := ar) (wv := wv) (rv := rv) (fa := fa) (pl := pl) (sf := sf) (lk := lk) (show i ≤ 20 by omega) ha (x2 := y) (x3 := x) (th := th) (K139 := m_X12_look_139 tf op ar wv rv fv) 100 0 FU FU 0 (by omega) (by omega) (by omega)
    rw [show m_X12_look_152 tf op ar wv rv (m_X12_look_139 tf op ar wv rv fv) FU y x (nI i) 0 0 th fa pl sf lk al = _ from e2, nI_1]
    refine OT.eqL e1 (OT.ite Iff.rfl (fun _ => ?_) (fun _ => ?_))
    · exact least_lk ha hs c (i + 1) fu fv _ _ (by omega) (by omega) (by omega)
    · exact least_lk ha hs c (i + 1) fu fv _ _ (by omega) (by omega) (by omega)
theorem look_in {here : Nat} {th : Int32} (hT : CT G kf st size ps mast) (hQ : QT G tf op ar) (hw : wOK w r) (h : CS G L F d lf ff dt) (hq : QS G 0 L F d sf0) (hN : CN m D H df hf mv) (hM : QN 13 m D H sf0) {p fv : Nat} (hp : p < G.1)
    {K12 : Int32 → Int32 → (Nat → Int32) → Value → Int32 → Int32 → Int32 → Int32 → (Nat → Int32) → (Nat → Int32) → (Nat → Int32) → (Nat → Int32) → Option (Int32 × (Nat → Int32) × Value × Int32 × Int32 × Int32 × Int32 × (Nat → Int32) × (Nat → Int32) × (Nat → Int32) × (Nat → Int32))}
    (hK : ∀ (x : Int32) (tv : Value) (aw ad af adt : Int32) (lf0 ff0 nx u fa pl sf lk sd al : Nat → Int32), (∀ j, j < 2100 → sd j = al j) → (∀ k, k < 1008 → sf k = sf0 k) → OT (K12 x (nI (p + 1)) sd tv aw ad af adt lf0 ff0 nx u) (m_X12_look_31 tf op ar (nI w) (nI r) fv x (nI (20 * (p + 1))) th fa pl sf lk al) (fun R R' => R.1 = R'.1 ∧ ∀ k, k < 1008 → R'.2.2.2.2.1 k = sf0 k)) :
    ∀ (c a fu : Nat) (x : Int32) (tv : Value) (aw ad af adt : Int32) (lf0 ff0 nx u fa pl sf lk sd al : Nat → Int32), a + c = 20 → c < fu → (∀ j, j < 2100 → sd j = al j) → (∀ k, k < 1008 → sf k = sf0 k) →
      OT (m_X11_look_25 df hf mv lf ff dt here kf st size ps mast (nI w) (nI r) K12 fu x (nI p) (nI (a + 1)) sd tv aw ad af adt lf0 ff0 nx u) (m_X12_look_31 tf op ar (nI w) (nI r) (fv + c) x (nI (20 * p + a)) th fa pl sf lk al) (fun R R' => R.1 = R'.1 ∧ ∀ k, k < 1008 → R'.2.2.2.2.1 k = sf0 k)
  | 0, a, fu + 1, x, tv, aw, ad, af, adt, lf0, ff0, nx, u, fa, pl, sf, lk, sd, al, hc, _, ha, hs => by
    have : a = 20 := by omega
    subst this
    rw [m_X11_look_25, nI_1, show 20 * p + 20 = 20 * (p + 1) by omega]
    exact OT.posL (by decide) (hK _ _ _ _ _ _ _ _ _ _ _ _ _ _ _ _ ha hs)
  | c + 1, a, fu + 1, x, tv, aw, ad, af, adt, lf0, ff0, nx, u, fa, pl, sf, lk, sd, al, hc, hf', ha, hs => by
    have hn := hT.1.1
    have hFU := FU_ge
    have hq' : QS G 0 L F d sf := hq.same hQ.1 (fun k _ hk => hs k (by omega))
    have hM' : QN 13 m D H sf := hM.same (by omega) hs
    obtain ⟨n1, n2⟩ := lk_nums p (by omega) a (by omega)
    rw [m_X11_look_25, show fv + (c + 1) = (fv + c) + 1 from rfl, m_X12_look_31, q_persons, hQ.2.1, n2, n1]
    refine OT.negL (nI_nlt (a := 20) (by omega) (by omega)) (OT.eqR rfl (OT.negR ?_ (OT.bdL (c_way hT hw h hp) (fun R1 h1 => OT.bdL (c_bears hT hw hN h1) (fun R2 h2 => OT.bdR (q_seen hQ hw hq' hM' hp) (fun R3 h3 => ?_))))))
    · show ¬ nI 20 * nI G.1 ≤ _
      rw [pn_mul]
      exact nI_ge (by omega) (by omega)
    · have hs3 : ∀ k, k < 1008 → R3.2.2.2.1 k = sf0 k := fun k hk => (h3.2 k hk).trans (hs k hk)
      have eq := h2.same h3.1
      rw [nI_1 (20 * p + a), nI_1 (a + 1)]
      refine OT.ite (by rw [eq]) (fun _ => ?_) (fun _ => ?_)
      · exact look_in hT hQ hw h hq hN hM hp hK c (a + 1) fu _ _ _ _ _ _ _ _ _ _ _ _ _ _ _ _ (by omega) (by omega) ha hs3
      · have hq3 : QS G 0 L F d R3.2.2.2.1 := hq.same hQ.1 (fun k _ hk => hs3 k (by omega))
        refine OT.bdL (c_way hT hw h hp) (fun R4 h4 => OT.bdR (q_tries hQ.1 hq3) (fun R5 h5 => OT.bdR (q_loses (b := 1008) hQ.1 (by omega) h5.1 hp) (fun R6 h6 => ?_)))
        have hB : BT G w r sf0 R4.1 R4.2.1 R4.2.2.1 R4.2.2.2.1 R4.2.2.2.2.1 R4.2.2.2.2.2 R6 := ⟨_, F, d, h4, h6.1, fun k hk => (h6.2 k (Or.inl hk)).trans ((h5.2 k hk).trans (hs3 k hk))⟩
        unfold m_X11_countStanding
        obtain ⟨R, fa', pl', sf', lk', al', g1, g2, g3, g4⟩ := stand_loop hT hQ hw (x1 := x + 1) (x2 := nI (20 * p + a)) (th := th) (K31 := m_X12_look_31 tf op ar (nI w) (nI r) (fv + c)) 21 0 FU FU R4.2.2.1 R4.2.2.2.1 R4.2.2.2.2.1 R2.2.2.2.2.1 R2.2.2.2.2.2 R3.2.1 R3.2.2.1 R6 R3.2.2.2.2 sd al (by omega) (by omega) (by omega) hB ha
        rw [show m_X12_look_85 tf op ar (nI w) (nI r) (m_X12_look_31 tf op ar (nI w) (nI r) (fv + c)) FU (x + 1) (nI (20 * p + a)) 0 th R3.2.1 R3.2.2.1 R6 R3.2.2.2.2 al = _ from g2, nI_1]
        refine OT.eqL g1 ?_
        exact look_in hT hQ hw h hq hN hM hp hK c (a + 1) fu _ _ _ _ _ _ _ _ _ _ _ _ _ _ _ _ (by omega) (by omega) g3 g4
theorem look_out {here : Nat} {th : Int32} (hT : CT G kf st size ps mast) (hQ : QT G tf op ar) (hw : wOK w r) (h : CS G L F d lf ff dt) (hq : QS G 0 L F d sf0) (hN : CN m D H df hf mv) (hM : QN 13 m D H sf0) :
    ∀ (c p fu fv : Nat) (x : Int32) (tv : Value) (aw ad af adt : Int32) (lf0 ff0 nx u fa pl sf lk sd al : Nat → Int32), p + c = G.1 → c < fu → (∀ j, j < 2100 → sd j = al j) → (∀ k, k < 1008 → sf k = sf0 k) →
      OT (m_X11_look_12 df hf mv lf ff dt here kf st size ps mast (nI w) (nI r) fu x (nI p) sd tv aw ad af adt lf0 ff0 nx u) (m_X12_look_31 tf op ar (nI w) (nI r) (fv + 20 * c + 1) x (nI (20 * p)) th fa pl sf lk al) (fun R R' => R.1 = R'.1 ∧ ∀ k, k < 1008 → R'.2.2.2.2.1 k = sf0 k)
  | 0, p, fu + 1, fv, x, tv, aw, ad, af, adt, lf0, ff0, nx, u, fa, pl, sf, lk, sd, al, hc, _, ha, hs => by
    have hn := hT.1.1
    have hFU := FU_ge
    have : p = G.1 := by omega
    subst this
    rw [m_X11_look_12, m_X12_look_31, q_persons, hQ.2.1]
    refine OT.posL (by rw [hT.2.1]; exact nI_le (by omega) (by omega)) (OT.eqR rfl (OT.posR ?_ ?_))
    · show nI 20 * nI G.1 ≤ _
      rw [pn_mul]
      exact nI_le (by omega) (by omega)
    · exact least_lk ha hs 21 0 FU FU _ _ (by omega) (by omega) (by omega)
  | c + 1, p, fu + 1, fv, x, tv, aw, ad, af, adt, lf0, ff0, nx, u, fa, pl, sf, lk, sd, al, hc, hf', ha, hs => by
    have hn := hT.1.1
    have hFU := FU_ge
    rw [m_X11_look_12, show fv + 20 * (c + 1) + 1 = (fv + 20 * c + 1) + 20 by omega]
    refine OT.negL (by rw [hT.2.1]; exact nI_ge (by omega) (by omega)) ?_
    exact look_in hT hQ hw h hq hN hM (show p < G.1 by omega) (fun x tv aw ad af adt lf0 ff0 nx u fa pl sf lk sd al ha hs => look_out hT hQ hw h hq hN hM c (p + 1) fu fv x tv aw ad af adt lf0 ff0 nx u fa pl sf lk sd al (by omega) (by omega) ha hs) 20 0 FU x tv aw ad af adt lf0 ff0 nx u fa pl sf lk sd al (by omega) (by omega) ha hs
theorem l_look {here : Nat} {tv : Value} {aw ad af adt : Int32} {sd al : Nat → Int32} (hT : CT G kf st size ps mast) (hQ : QT G tf op ar) (hw : wOK w r) (h : NW G lf ff dt sf) (hN : CN m D H df hf mv) (hM : QN 13 m D H sf) :
    OT (m_X11_look df hf mv sd lf ff dt lf0 ff0 adt nx tv aw ad af here kf st u size ps mast (nI w) (nI r)) (m_X12_look tf op ar fa pl sf (nI w) (nI r) lk al) (fun R R' => R.1 = R'.1 ∧ ∀ k, k < 1008 → R'.2.2.2.2.1 k = sf k) := by
  have hFU := FU_ge
  have hn := hT.1.1
  obtain ⟨L, F, d, h1, h2⟩ := h
  unfold m_X11_look m_X12_look
  obtain ⟨al', a1, a2⟩ := qfill_loop (tf := tf) (op := op) (ar := ar) (wv := nI w) (rv := nI r) (fa := fa) (pl := pl) (sf := sf) (lk := lk) 2100 0 FU 0 al (by omega) (by omega) (fun j hj => by omega)
  rw [show m_X12_look_7 tf op ar (nI w) (nI r) FU 0 0 fa pl sf lk al = _ from a2]
  refine OT.bdL (fill_ok (by omega)) (fun sd' hs => ?_)
  have hfu : FU = (FU - 20 * G.1 - 1) + 20 * G.1 + 1 := by omega
  have go := look_out (here := here) (th := 0) hT hQ hw h1 h2 hN hM G.1 0 FU (FU - 20 * G.1 - 1) 0 tv aw ad af adt lf0 ff0 nx u fa pl sf lk sd' al' (by omega) (by omega) (fun j hj => (hs j hj).trans (a1 j hj).symm) (fun _ _ => rfl)
  rw [← hfu] at go
  exact go
end LOOK
