/-! PURE: by hand; what was done, undone -/
def ix (x c i : Nat) : Nat := (x + 16 - c + i) % 16
def HR (G : Gm) (hd : Nat → Int32) (hl hf : Nat → Nat → Int32) (next many : Int32) (sf : Nat → Int32) (undos : Int32) : Prop :=
  ∃ c x : Nat, c ≤ 16 ∧ x < 16 ∧ next = nI x ∧ many = nI c ∧ undos = nI c ∧ ∀ i, i < c → ∃ (L F : Nat → Nat) (d : Nat), CS G L F d (hl (ix x c i)) (hf (ix x c i)) (hd (ix x c i)) ∧ QS G (48 * (5 + i)) L F d sf
/-- now: the class's course, the model's first block -/
def NC (G : Gm) (w r : Nat) (wv rv fl dt : Int32) (lf ff sf : Nat → Int32) : Prop := ∃ (L F : Nat → Nat) (d : Nat), CC G w r L F d wv rv fl dt lf ff ∧ QS G 0 L F d sf
theorem keep_nums : ∀ x : Nat, x < 16 → (nI x + 1) - (nI x + 1) / 16 * 16 = nI ((x + 1) % 16) ∧ ((nI x + 16) - 1) - ((nI x + 16) - 1) / 16 * 16 = nI ((x + 15) % 16) := by decide +kernel
theorem many_nums : ∀ c : Nat, c ≤ 16 → (if (16 : Int32) < nI c + 1 then (16 : Int32) else nI c + 1) = nI (if c = 16 then 16 else c + 1) := by decide +kernel
theorem neg_nums : ∀ j : Nat, j ≤ 20 → (-1 : Int32) * nI j = -(nI j) := by decide +kernel
theorem blk_nums : ∀ i : Nat, i ≤ 16 → (48 : Int32) * (5 + nI i) = nI (48 * (5 + i)) := by decide +kernel
theorem blk_nums1 : ∀ i : Nat, i ≤ 16 → 1 ≤ i → (48 : Int32) * (5 + nI i - 1) = nI (48 * (5 + (i - 1))) := by decide +kernel
theorem st_at : ∀ x : Nat, x < 16 → m_X2_stateAt (nI x) = some (some x) := by decide +kernel
theorem keep_eq {hd : Nat → Int32} {hl hf : Nat → Nat → Int32} {many dt : Int32} {lf ff : Nat → Int32} : ∀ x : Nat, x < 16 → m_X2_keep hl hf hd (nI x) many lf ff dt = m_X2_keep_18 lf ff dt (nI x) many (va_up hd x dt) (va_up hl x (va_cpy lf (hl x) 0 0 6)) (va_up hf x (va_cpy ff (hf x) 0 0 6)) := by
  intro x hx
  unfold m_X2_keep m_X6_copy
  rw [st_at x hx, Option.bind_some]
  rcases (show x = 0 ∨ x = 1 ∨ x = 2 ∨ x = 3 ∨ x = 4 ∨ x = 5 ∨ x = 6 ∨ x = 7 ∨ x = 8 ∨ x = 9 ∨ x = 10 ∨ x = 11 ∨ x = 12 ∨ x = 13 ∨ x = 14 ∨ x = 15 by omega) with rfl | rfl | rfl | rfl | rfl | rfl | rfl | rfl | rfl | rfl | rfl | rfl | rfl | rfl | rfl | rfl <;> rfl
section HAND
variable {G : Gm} {w r : Nat} {sf0 kf st tf op ar lf ff sf lf0 ff0 nx u fa pl lk hd : Nat → Int32} {hl hf : Nat → Nat → Int32} {size ps mast wv rv fl dt next many undos : Int32} {L F : Nat → Nat} {d m : Nat}
theorem HR.same {t : Nat → Int32} (hG : gOK G) (h : HR G hd hl hf next many sf undos) (e : ∀ k, 240 ≤ k → k < 1008 → t k = sf k) : HR G hd hl hf next many t undos := by
  obtain ⟨c, x, h1, h2, h3, h4, h5, h6⟩ := h
  refine ⟨c, x, h1, h2, h3, h4, h5, fun i hi => ?_⟩
  obtain ⟨L, F, d, g1, g2⟩ := h6 i hi
  exact ⟨L, F, d, g1, g2.same hG (fun k a b => e k (by omega) (by omega))⟩
theorem NC.nf (h : NC G w r wv rv fl dt lf ff sf) : NF G w r lf ff dt fl sf := by
  obtain ⟨L, F, d, h1, h2⟩ := h
  exact ⟨L, F, d, h1.2.2.2, h2, h1.2.2.1⟩
theorem NC.same {t : Nat → Int32} (hG : gOK G) (h : NC G w r wv rv fl dt lf ff sf) (e : ∀ k, k < 13 → t k = sf k) : NC G w r wv rv fl dt lf ff t := by
  obtain ⟨L, F, d, h1, h2⟩ := h
  exact ⟨L, F, d, h1, h2.same hG (fun k _ hk => e k (by omega))⟩
theorem CS.cpy (h : CS G L F d lf ff dt) : CS G L F d (va_cpy lf lf0 0 0 6) (va_cpy ff ff0 0 0 6) dt := ⟨h.1, h.2.1, fun p hp => by rw [cpy_at hp]; exact h.2.2.1 p hp, fun p hp => by rw [cpy_at hp]; exact h.2.2.2 p hp⟩
/-- the model's blocks go down by one -/
theorem q_down : ∀ (c i fu : Nat) (s : Nat → Int32), i + c = 16 → 1 ≤ i → c < fu → (∀ j k, j < 16 → k < 13 → s (48 * (5 + j) + k) = if j + 1 < i then sf (48 * (6 + j) + k) else sf (48 * (5 + j) + k)) → (∀ k, (k < 240 ∨ 1008 ≤ k) → s k = sf k) →
    ∃ s', m_X12_keeps_11 fu (nI i) 16 s = m_X12_keeps_53 15 s' ∧ (∀ j k, j < 15 → k < 13 → s' (48 * (5 + j) + k) = sf (48 * (6 + j) + k)) ∧ ∀ k, (k < 240 ∨ 1008 ≤ k) → s' k = sf k
  | 0, i, fu + 1, s, hc, hi, _, h1, h2 => by
    have : i = 16 := by omega
    subst this
    refine ⟨s, by rw [m_X12_keeps_11, if_pos (by decide)]; rfl, fun j k hj hk => ?_, h2⟩
    rw [h1 j k (by omega) hk, if_pos (by omega)]
  | c + 1, i, fu + 1, s, hc, hi, hf', h1, h2 => by
    obtain ⟨R, eR, hR⟩ := q_copies (a := 48 * (5 + i)) (b := 48 * (5 + (i - 1))) (c := 13) (by omega) (by omega) (by omega) s
    rw [m_X12_keeps_11, if_neg (show ¬ (16 : Int32) ≤ nI i from nI_ge (b := 16) (by omega) (by omega)), blk_nums i (by omega), blk_nums1 i (by omega) hi, show m_X12_copies s (nI (48 * (5 + i))) (nI (48 * (5 + (i - 1)))) 13 = _ from eR, Option.bind_some, nI_1]
    refine q_down c (i + 1) fu R (by omega) (by omega) (by omega) (fun j k hj hk => ?_) (fun k hk => ?_)
    · rw [hR]
      by_cases e : j + 1 = i
      · rw [if_pos (by omega), if_pos (by omega), show 48 * (5 + i) + (48 * (5 + j) + k - 48 * (5 + (i - 1))) = 48 * (5 + i) + k by omega, h1 i k (by omega) hk, if_neg (by omega), show 48 * (5 + i) + k = 48 * (6 + j) + k by omega]
      · rw [if_neg (by omega), h1 j k hj hk]
        by_cases e2 : j + 1 < i
        · rw [if_pos e2, if_pos (by omega)]
        · rw [if_neg e2, if_neg (by omega)]
    · rw [hR, if_neg (by omega), h2 k hk]
theorem l_keep (hG : gOK G) (h : HR G hd hl hf next many sf undos) (hC : CS G L F d lf ff dt) (hq : QS G 0 L F d sf) :
    OT (m_X2_keep hl hf hd next many lf ff dt) (m_X12_keeps sf undos) (fun R R' => HR G R.2.2.1 R.2.2.2.1 R.2.2.2.2 R.1 R.2.1 R'.2 R'.1 ∧ ∀ k, (k < 240 ∨ 1008 ≤ k) → R'.2 k = sf k) := by
  have hFU := FU_ge
  obtain ⟨c, x, hc, hx, rfl, rfl, rfl, h6⟩ := h
  rw [keep_eq x hx]
  unfold m_X2_keep_18
  rw [(keep_nums x hx).1, many_nums c hc]
  unfold m_X12_keeps
  by_cases e : c = 16
  · subst e
    rw [if_pos rfl]
    obtain ⟨s', e1, e2, e3⟩ := q_down (sf := sf) 15 1 FU sf (by omega) (by omega) (by omega) (fun j k hj hk => by rw [if_neg (by omega)]) (fun _ _ => rfl)
    refine OT.posR rfl ?_
    rw [show m_X12_keeps_11 FU 1 (nI 16) sf = _ from e1]
    unfold m_X12_keeps_53
    refine OT.bdR (q_copies (a := 0) (b := 48 * (5 + 15)) (c := 13) (by omega) (by omega) (by omega) s') (fun R hR => OT.ret ⟨⟨16, (x + 1) % 16, by omega, by omega, rfl, rfl, rfl, fun i hi => ?_⟩, fun k hk => ?_⟩)
    · show ∃ (L F : Nat → Nat) (d : Nat), CS G L F d (va_up hl x _ (ix ((x + 1) % 16) 16 i)) (va_up hf x _ (ix ((x + 1) % 16) 16 i)) (va_up hd x _ (ix ((x + 1) % 16) 16 i)) ∧ QS G (48 * (5 + i)) L F d R
      by_cases ei : i = 15
      · subst ei
        rw [show ix ((x + 1) % 16) 16 15 = x by unfold ix; omega, va_up_self, va_up_self, va_up_self]
        exact ⟨L, F, d, hC.cpy, hq.moved hG (fun k a b => by rw [hR, if_pos (by omega), e3 _ (by omega)])⟩
      · obtain ⟨L1, F1, d1, g1, g2⟩ := h6 (i + 1) (by omega)
        have ne : ix ((x + 1) % 16) 16 i ≠ x := by unfold ix; omega
        rw [va_up_ne _ _ ne, va_up_ne _ _ ne, va_up_ne _ _ ne, show ix ((x + 1) % 16) 16 i = ix x 16 (i + 1) by unfold ix; omega]
        refine ⟨L1, F1, d1, g1, g2.moved hG (fun k a b => ?_)⟩
        rw [hR, if_neg (by omega)]
        have := e2 i (k - 48 * (5 + i)) (by omega) (by omega)
        rw [show 48 * (5 + i) + (k - 48 * (5 + i)) = k by omega] at this
        rw [this, show 48 * (6 + i) + (k - 48 * (5 + i)) = 48 * (5 + (i + 1)) + (k - 48 * (5 + i)) by omega]
    · show R k = _
      rw [hR, if_neg (by omega), e3 k hk]
  · rw [if_neg e]
    refine OT.negR (fun z => e ((nI_eq (b := 16) (by omega) (by omega)).mp z)) ?_
    unfold m_X12_keeps_53
    rw [blk_nums c hc, nI_1]
    refine OT.bdR (q_copies (a := 0) (b := 48 * (5 + c)) (c := 13) (by omega) (by omega) (by omega) sf) (fun R hR => OT.ret ⟨⟨c + 1, (x + 1) % 16, by omega, by omega, rfl, rfl, rfl, fun i hi => ?_⟩, fun k hk => ?_⟩)
    · show ∃ (L F : Nat → Nat) (d : Nat), CS G L F d (va_up hl x _ (ix ((x + 1) % 16) (c + 1) i)) (va_up hf x _ (ix ((x + 1) % 16) (c + 1) i)) (va_up hd x _ (ix ((x + 1) % 16) (c + 1) i)) ∧ QS G (48 * (5 + i)) L F d R
      by_cases ei : i = c
      · subst ei
        rw [show ix ((x + 1) % 16) (i + 1) i = x by unfold ix; omega, va_up_self, va_up_self, va_up_self]
        exact ⟨L, F, d, hC.cpy, hq.moved hG (fun k a b => by rw [hR, if_pos ⟨a, b⟩])⟩
      · obtain ⟨L1, F1, d1, g1, g2⟩ := h6 i (by omega)
        have ne : ix ((x + 1) % 16) (c + 1) i ≠ x := by unfold ix; omega
        rw [va_up_ne _ _ ne, va_up_ne _ _ ne, va_up_ne _ _ ne, show ix ((x + 1) % 16) (c + 1) i = ix x c i by unfold ix; omega]
        exact ⟨L1, F1, d1, g1, g2.same hG (fun k a b => by rw [hR, if_neg (by omega)])⟩
    · show R k = _
      rw [hR, if_neg (by omega)]
/-- what a deed by hand leaves -/
def HE (G : Gm) (w r : Nat) (wv rv : Int32) (sf : Nat → Int32) (R : Int32 × Int32 × Int32 × Int32 × (Nat → Int32) × (Nat → Int32) × (Nat → Nat → Int32) × (Nat → Nat → Int32)) (dt : Int32) (ff : Nat → Int32) (R' : Int32 × Int32 × Int32 × (Nat → Int32)) : Prop :=
  R.1 = R'.1 ∧ HR G R.2.2.2.2.2.1 R.2.2.2.2.2.2.1 R.2.2.2.2.2.2.2 R.2.1 R.2.2.1 R'.2.2.2 R'.2.2.1 ∧ NC G w r wv rv R.2.2.2.1 dt R.2.2.2.2.1 ff R'.2.2.2 ∧ ∀ k, 13 ≤ k → k < 240 → R'.2.2.2 k = sf k
theorem l_more (hT : CT G kf st size ps mast) (hQ : QT G tf op ar) (hw : wOK w r) (hH : HR G hd hl hf next many sf undos) (hN : NC G w r wv rv fl dt lf ff sf) {v q s : Int32} {X : Option (Int32 × Int32 × Int32 × (Nat → Int32))} (g : Int32 → Int32) (hg : ∀ j : Nat, j ≤ 20 → s * nI j = g (nI j))
    (hX : X = Option.bind (m_X12_isPerson tf v) (fun r5 => if r5 = 0 then (some ((-1), 0, undos, sf)) else (Option.bind (m_X12_within q 1 20) (fun r6 => if r6 = 0 then (some ((-1), 0, undos, sf)) else (Option.bind (m_X12_keeps sf undos) (fun r7 => Option.bind (m_X12_loses r7.2 0 v (g q)) (fun r8 => if ¬ ((1 + v) < 0 ∨ 1104 ≤ (1 + v).toNatClampNeg) then (some (r8 (1 + v).toNatClampNeg, 0, r7.1, r8)) else none))))))) :
    OT (m_X11_lackMore hl hf hd next many lf ff dt kf ps mast wv rv fl v q s) X (fun R R' => HE G w r wv rv sf R dt ff R') := by
  subst hX
  have hn := hT.1.1
  unfold m_X11_lackMore
  rcases w_has hQ.1.1 hQ.2.1 v with ⟨e1, e2⟩ | ⟨p, hp, rfl, e1, e2⟩
  · rw [← hT.2.1] at e1
    exact OT.eqL e1 (OT.eqR e2 (OT.posL rfl (OT.posR rfl (OT.ret ⟨rfl, hH, hN, fun _ _ _ => rfl⟩))))
  rw [← hT.2.1] at e1
  refine OT.eqL e1 (OT.eqR e2 (OT.negL (by decide) (OT.negR (by decide) ?_)))
  rcases w_rng q 1 20 (by omega) (by omega) with ⟨e1, e2⟩ | ⟨a, ha, ha', rfl, e1, e2⟩
  · exact OT.eqL e1 (OT.eqR e2 (OT.posL rfl (OT.posR rfl (OT.ret ⟨rfl, hH, hN, fun _ _ _ => rfl⟩))))
  refine OT.eqL e1 (OT.eqR e2 (OT.negL (by decide) (OT.negR (by decide) ?_)))
  obtain ⟨L, F, d, h1, h2⟩ := hN
  refine OT.bd (l_keep hT.1 hH h1.2.2.2 h2) (fun R R' hR => ?_)
  rw [hg a ha']
  have h2' : QS G 0 L F d R'.2 := h2.same hT.1 (fun k _ hk => hR.2 k (Or.inl (by omega)))
  refine OT.bdL (c_shift hT hw h1 hp) (fun S1 hS1 => OT.bdR (q_loses (b := 0) hT.1 (by omega) h2' hp) (fun S2 hS2 => ?_))
  rw [i1, nI_clamp (show 1 + p < 2 ^ 31 by omega), hS2.1.l hp]
  refine OT.eqL (c_lack hS1.2.2.2 (show p < 6 by omega)) (OT.posR (pn_in2 (by omega) (by omega)) (OT.ret ⟨rfl, hR.1.same hT.1 (fun k a b => hS2.2 k (Or.inr (by omega))), ⟨_, F, d, hS1, hS2.1⟩, fun k a b => ?_⟩))
  show S2 k = _
  rw [hS2.2 k (Or.inr (by omega)), hR.2 k (Or.inl (by omega))]
theorem l_lose (hT : CT G kf st size ps mast) (hQ : QT G tf op ar) (hw : wOK w r) (hH : HR G hd hl hf next many sf undos) (hN : NC G w r wv rv fl dt lf ff sf) (v q : Int32) :
    OT (m_X11_lose hl hf hd next many lf ff dt kf ps mast wv rv fl v q) (m_X12_lose tf sf undos v q) (fun R R' => HE G w r wv rv sf R dt ff R') :=
  OT.thL (l_more hT hQ hw hH hN (v := v) (q := q) (s := 1) (X := m_X12_lose tf sf undos v q) (fun x => x) (fun j _ => Int32.one_mul _) rfl) (fun _ _ h => OK.ret h)
theorem l_get (hT : CT G kf st size ps mast) (hQ : QT G tf op ar) (hw : wOK w r) (hH : HR G hd hl hf next many sf undos) (hN : NC G w r wv rv fl dt lf ff sf) (v q : Int32) :
    OT (m_X11_get hl hf hd next many lf ff dt kf ps mast wv rv fl v q) (m_X12_get tf sf undos v q) (fun R R' => HE G w r wv rv sf R dt ff R') :=
  OT.thL (l_more hT hQ hw hH hN (v := v) (q := q) (s := -1) (X := m_X12_get tf sf undos v q) (fun x => -x) (fun j hj => neg_nums j hj) rfl) (fun _ _ h => OK.ret h)
theorem l_spare (hT : CT G kf st size ps mast) (hQ : QT G tf op ar) (hw : wOK w r) (hH : HR G hd hl hf next many sf undos) (hN : NC G w r wv rv fl dt lf ff sf) (v : Int32) :
    OT (m_X11_spare hl hf hd next many lf ff dt kf ps mast wv rv fl v) (m_X12_spare tf sf undos (nI w) (nI r) v) (fun R R' => HE G w r wv rv sf R dt ff R') := by
  have hn := hT.1.1
  unfold m_X11_spare m_X12_spare
  rcases w_has hQ.1.1 hQ.2.1 v with ⟨e1, e2⟩ | ⟨p, hp, rfl, e1, e2⟩
  · rw [← hT.2.1] at e1
    exact OT.eqL e1 (OT.eqR e2 (OT.posL rfl (OT.posR rfl (OT.ret ⟨rfl, hH, hN, fun _ _ _ => rfl⟩))))
  rw [← hT.2.1] at e1
  refine OT.eqL e1 (OT.eqR e2 (OT.negL (by decide) (OT.negR (by decide) ?_)))
  obtain ⟨L, F, d, h1, h2⟩ := hN
  refine OT.bd (l_keep hT.1 hH h1.2.2.2 h2) (fun R R' hR => ?_)
  have h2' : QS G 0 L F d R'.2 := h2.same hT.1 (fun k _ hk => hR.2 k (Or.inl (by omega)))
  have h3 := QS.putL (v := 0) h2' hT.1 hp (by omega)
  rw [Nat.zero_add] at h3
  rw [i1, nI_clamp (show 1 + p < 2 ^ 31 by omega)]
  refine OT.bdL (c_letOff hT hw h1 hp) (fun S1 hS1 => OT.eqR (q_hi0 hQ hw h2') (OT.posR (pn_in2 (by omega) (by omega)) (OT.eqR (q_hi0 hQ hw h3) (OT.ret ⟨?_, hR.1.same hT.1 (fun k a b => ?_), ⟨_, F, d, hS1, h3⟩, fun k a b => ?_⟩))))
  · show S1.1 - fl = _
    rw [hS1.2.2.1, h1.2.2.1]
  · show upd R'.2 (1 + p) 0 k = _
    unfold upd; rw [if_neg (by omega)]
  · show upd R'.2 (1 + p) 0 k = _
    unfold upd; rw [if_neg (by omega), hR.2 k (Or.inl (by omega))]
theorem l_feel (hT : CT G kf st size ps mast) (hQ : QT G tf op ar) (hH : HR G hd hl hf next many sf undos) (hN : NC G w r wv rv fl dt lf ff sf) (v q : Int32) :
    OT (m_X11_feel hl hf hd next many lf ff dt ps v q) (m_X12_feel tf sf undos v q) (fun R R' => HE G w r wv rv sf (R.1, R.2.1, R.2.2.1, fl, lf, R.2.2.2.2.1, R.2.2.2.2.2.1, R.2.2.2.2.2.2) dt R.2.2.2.1 R') := by
  have hn := hT.1.1
  unfold m_X11_feel m_X12_feel
  rcases w_has hQ.1.1 hQ.2.1 v with ⟨e1, e2⟩ | ⟨p, hp, rfl, e1, e2⟩
  · rw [← hT.2.1] at e1
    exact OT.eqL e1 (OT.eqR e2 (OT.posL rfl (OT.posR rfl (OT.ret ⟨rfl, hH, hN, fun _ _ _ => rfl⟩))))
  rw [← hT.2.1] at e1
  refine OT.eqL e1 (OT.eqR e2 (OT.negL (by decide) (OT.negR (by decide) ?_)))
  rcases w_has hQ.1.1 hQ.2.1 q with ⟨e1, e2⟩ | ⟨o, ho, rfl, e1, e2⟩
  · rw [← hT.2.1] at e1
    exact OT.eqL e1 (OT.eqR e2 (OT.posL rfl (OT.posR rfl (OT.ret ⟨rfl, hH, hN, fun _ _ _ => rfl⟩))))
  rw [← hT.2.1] at e1
  refine OT.eqL e1 (OT.eqR e2 (OT.negL (by decide) (OT.negR (by decide) (OT.ite Iff.rfl (fun _ => OT.ret ⟨rfl, hH, hN, fun _ _ _ => rfl⟩) (fun _ => ?_)))))
  obtain ⟨L, F, d, h1, h2⟩ := hN
  refine OT.bd (l_keep hT.1 hH h1.2.2.2 h2) (fun R R' hR => ?_)
  have h2' : QS G 0 L F d R'.2 := h2.same hT.1 (fun k _ hk => hR.2 k (Or.inl (by omega)))
  obtain ⟨ff', e3, hC⟩ := c_feel hT.1 h1.2.2.2 hp ho
  have hlt := h2.1.2 p (by omega)
  have h3 := QS.putF h2' hT.1 hp (xf_lt hlt ho)
  rw [Nat.zero_add] at h3
  rw [i7, nI_clamp (show 7 + p < 2 ^ 31 by omega), h2'.f hp, xf_I hT.1 hlt ho]
  refine OT.eqL e3 (OT.posR (pn_in2 (by omega) (by omega)) (OT.posR (pn_in2 (by omega) (by omega)) (OT.ret ⟨rfl, hR.1.same hT.1 (fun k a b => ?_), ⟨L, _, d, ⟨h1.1, h1.2.1, h1.2.2.1, hC⟩, h3⟩, fun k a b => ?_⟩)))
  · show upd R'.2 (7 + p) _ k = _
    unfold upd; rw [if_neg (by omega)]
  · show upd R'.2 (7 + p) _ k = _
    unfold upd; rw [if_neg (by omega), hR.2 k (Or.inl (by omega))]
theorem l_day (hT : CT G kf st size ps mast) (hQ : QT G tf op ar) (hw : wOK w r) (hH : HR G hd hl hf next many sf undos) (hN : NC G w r wv rv fl dt lf ff sf) :
    OT (m_X11_day hl hf hd next many lf ff dt nx kf st u size ps mast wv rv fl) (m_X12_day tf op ar fa pl sf undos (nI w) (nI r) lk)
      (fun R R' => HE G w r wv rv sf (R.1, R.2.1, R.2.2.1, R.2.2.2.1, R.2.2.2.2.2.1, R.2.2.2.2.2.2.2.2.1, R.2.2.2.2.2.2.2.2.2.1, R.2.2.2.2.2.2.2.2.2.2) R.2.2.2.2.1 ff (R'.1, R'.2.1, R'.2.2.1, R'.2.2.2.2.2.1)) := by
  have hn := hT.1.1
  unfold m_X11_day m_X12_day
  obtain ⟨L, F, d, h1, h2⟩ := hN
  refine OT.bd (l_keep hT.1 hH h1.2.2.2 h2) (fun R R' hR => ?_)
  have h2' : QS G 0 L F d R'.2 := h2.same hT.1 (fun k _ hk => hR.2 k (Or.inl (by omega)))
  refine OT.bdL (c_day hT hw h1) (fun S1 hS1 => OT.eqR (q_hi0 hQ hw h2') (OT.bdR (q_dayO (b := 0) hQ hw (by omega) h2') (fun S2 hS2 => OT.eqR (q_hi0 hQ hw hS2.2.1) (OT.ret ⟨?_, hR.1.same hT.1 (fun k a b => hS2.2.2 k (Or.inr (by omega))), ⟨_, F, d + 1, hS1.2, hS2.2.1⟩, fun k a b => ?_⟩))))
  · show S1.2.1 - fl = _
    rw [hS1.2.2.2.1, h1.2.2.1]
  · show S2.2.2.2.1 k = _
    rw [hS2.2.2 k (Or.inr (by omega)), hR.2 k (Or.inl (by omega))]
theorem undo_eq {x y : Int32} {kf : Nat → Int32} {wt rt : Int32} : ∀ i : Nat, i < 16 → m_X2_takeLast next many = some (some i, x, y) → m_X11_undo hl hf hd next many lf ff dt kf ps mast wt rt wv rv fl = Option.bind (m_X1_start lf ff kf ps mast wt rt (hl i) (hf i) (hd i)) (fun r19 => some (1, x, y, r19.1, r19.2.1, r19.2.2.1, r19.2.2.2.1, r19.2.2.2.2.1, r19.2.2.2.2.2)) := by
  intro i hi h
  unfold m_X11_undo
  rw [h, Option.bind_some]
  rcases (show i = 0 ∨ i = 1 ∨ i = 2 ∨ i = 3 ∨ i = 4 ∨ i = 5 ∨ i = 6 ∨ i = 7 ∨ i = 8 ∨ i = 9 ∨ i = 10 ∨ i = 11 ∨ i = 12 ∨ i = 13 ∨ i = 14 ∨ i = 15 by omega) with rfl | rfl | rfl | rfl | rfl | rfl | rfl | rfl | rfl | rfl | rfl | rfl | rfl | rfl | rfl | rfl <;> rfl
theorem l_undo (hT : CT G kf st size ps mast) (hQ : QT G tf op ar) (hw : wOK w r) (hH : HR G hd hl hf next many sf undos) (hN : NC G w r wv rv fl dt lf ff sf) :
    OT (m_X11_undo hl hf hd next many lf ff dt kf ps mast (nI w) (nI r) wv rv fl) (m_X12_undo sf undos)
      (fun R R' => R.1 = R'.1 ∧ HR G hd hl hf R.2.1 R.2.2.1 R'.2.2.2 R'.2.2.1 ∧ NC G w r R.2.2.2.1 R.2.2.2.2.1 R.2.2.2.2.2.1 R.2.2.2.2.2.2.1 R.2.2.2.2.2.2.2.1 R.2.2.2.2.2.2.2.2 R'.2.2.2 ∧ ∀ k, 13 ≤ k → k < 240 → R'.2.2.2 k = sf k) := by
  obtain ⟨c, x, hc, hx, rfl, rfl, rfl, h6⟩ := hH
  unfold m_X12_undo
  by_cases e : c = 0
  · subst e
    have e0 : m_X2_takeLast (nI x) (nI 0) = some (none, nI x, nI 0) := rfl
    unfold m_X11_undo
    rw [e0, Option.bind_some]
    exact OT.posL rfl (OT.posR rfl (OT.ret ⟨rfl, ⟨0, x, by omega, hx, rfl, rfl, rfl, fun i hi => by omega⟩, hN, fun _ _ _ => rfl⟩))
  · have e1 : m_X2_takeLast (nI x) (nI c) = some (some ((x + 15) % 16), nI ((x + 15) % 16), nI (c - 1)) := by
      unfold m_X2_takeLast
      rw [if_neg (nI_ne0 (by omega) (by omega)), (keep_nums x hx).2, st_at _ (by omega), Option.bind_some, pn_sub1 (by omega)]
    rw [undo_eq _ (by omega) e1]
    obtain ⟨L1, F1, d1, g1, g2⟩ := h6 (c - 1) (by omega)
    rw [show ix x c (c - 1) = (x + 15) % 16 by unfold ix; omega] at g1
    rw [pn_sub1 (show 1 ≤ c by omega), blk_nums (c - 1) (by omega)]
    refine OT.negR (nI_ne0 (by omega) (by omega)) (OT.bdL (c_start hT hw g1) (fun S1 hS1 => OT.bdR (q_copies (a := 48 * (5 + (c - 1))) (b := 0) (c := 13) (by omega) (by omega) (by omega) sf) (fun S2 hS2 => OT.ret ⟨rfl, ⟨c - 1, (x + 15) % 16, by omega, by omega, rfl, rfl, rfl, fun i hi => ?_⟩, ⟨L1, F1, d1, hS1, g2.moved hT.1 (fun k a b => (hS2 k).trans (if_pos ⟨a, b⟩))⟩, fun k a b => ?_⟩)))
    · obtain ⟨L2, F2, d2, f1, f2⟩ := h6 i (by omega)
      rw [show ix ((x + 15) % 16) (c - 1) i = ix x c i by unfold ix; omega]
      exact ⟨L2, F2, d2, f1, f2.same hT.1 (fun k a b => (hS2 k).trans (if_neg (by omega)))⟩
    · show S2 k = _
      rw [hS2, if_neg (by omega)]
end HAND
