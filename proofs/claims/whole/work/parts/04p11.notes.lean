/-! PURE: what is seen, measured -/
def rnL (G : Gm) (w r : Nat) (F : Nat → Nat) (d : Nat) (L : Nat → Nat) : Nat → Nat → Nat
  | 0 => L
  | k + 1 => nxL G w r F (d + k) (rnL G w r F d L k)
theorem rnL_lOK {G : Gm} {w r d : Nat} {F L : Nat → Nat} (h : lOK G L F) : ∀ k, lOK G (rnL G w r F d L k) F
  | 0 => h
  | k + 1 => nxL_lOK (rnL_lOK h k)
def rnH (G : Gm) (w r : Nat) (F : Nat → Nat) (d : Nat) (L : Nat → Nat) (k : Nat) : Nat := hiN G w r (rnL G w r F d L k)
/-- notes: so many, days, heights -/
def nOK (m : Nat) (D H : Nat → Nat) : Prop := m ≤ 8 ∧ ∀ j, j < m → D j ≤ 20 ∧ H j ≤ 99
def CN (m : Nat) (D H : Nat → Nat) (df hf : Nat → Int32) (mv : Int32) : Prop := nOK m D H ∧ mv = nI m ∧ ∀ j, j < m → df j = nI (D j) ∧ hf j = nI (H j)
def QN (c m : Nat) (D H : Nat → Nat) (sf : Nat → Int32) : Prop := nOK m D H ∧ sf c = nI m ∧ ∀ j, j < m → sf (c + 1 + 2 * j) = nI (D j) ∧ sf (c + 2 + 2 * j) = nI (H j)
theorem QN.same {c m : Nat} {D H : Nat → Nat} {s t : Nat → Int32} (h : QN c m D H s) (hc : c ≤ 900) (e : ∀ k, k < 1008 → t k = s k) : QN c m D H t := by
  have hm := h.1.1
  exact ⟨h.1, by rw [e c (by omega)]; exact h.2.1, fun j hj => ⟨by rw [e _ (by omega)]; exact (h.2.2 j hj).1, by rw [e _ (by omega)]; exact (h.2.2 j hj).2⟩⟩
def AllP (h : Nat → Nat) (m : Nat) (D H : Nat → Nat) : Prop := ∀ j, j < m → h (D j) = H j
def Tells (P : Prop) (x : Int32) : Prop := (P ∧ x = 1) ∨ (¬ P ∧ x = 0)
theorem Tells.one {P : Prop} {x : Int32} (h : Tells P x) (hp : P) : x = 1 := h.elim (fun h => h.2) (fun h => absurd hp h.1)
theorem Tells.zero {P : Prop} {x : Int32} (h : Tells P x) (hp : ¬ P) : x = 0 := h.elim (fun h => absurd h.1 hp) (fun h => h.2)
theorem Tells.z01 {P : Prop} {x : Int32} (h : Tells P x) : x = 0 ∨ x = 1 := h.elim (fun h => Or.inr h.2) (fun h => Or.inl h.2)
theorem Tells.same {P : Prop} {x y : Int32} (h : Tells P x) (h' : Tells P y) : x = y := by
  by_cases hp : P
  · rw [h.one hp, h'.one hp]
  · rw [h.zero hp, h'.zero hp]
theorem Tells.cong {P Q : Prop} {x : Int32} (h : Tells P x) (e : P ↔ Q) : Tells Q x := by
  rcases h with ⟨h1, h2⟩ | ⟨h1, h2⟩
  · exact Or.inl ⟨e.mp h1, h2⟩
  · exact Or.inr ⟨fun q => h1 (e.mpr q), h2⟩
def mxN (D : Nat → Nat) : Nat → Nat
  | 0 => 0
  | j + 1 => if mxN D j < D j then D j else mxN D j
theorem mx_ge {D : Nat → Nat} : ∀ m j, j < m → D j ≤ mxN D m
  | m + 1, j, h => by
    show D j ≤ (if mxN D m < D m then D m else mxN D m)
    by_cases e : j = m
    · subst e; split <;> omega
    · have := mx_ge (D := D) m j (by omega)
      split <;> omega
theorem mx_le {D : Nat → Nat} : ∀ m, (∀ j, j < m → D j ≤ 20) → mxN D m ≤ 20
  | 0, _ => Nat.zero_le _
  | m + 1, h => by
    have h1 := mx_le m (fun j hj => h j (by omega))
    have h2 := h m (by omega)
    show (if mxN D m < D m then D m else mxN D m) ≤ 20
    split <;> omega
section NOTES
variable {G : Gm} {w r : Nat} {sf0 kf st tf op ar lf ff sf lf0 ff0 nx u fa pl lk df hf : Nat → Int32} {size ps mast wv rv fl dt mv : Int32} {L F D H : Nat → Nat} {d m : Nat}
theorem c_last_loop (h : CN m D H df hf mv) : ∀ (c i fu : Nat), i + c = m → c < fu → m_X5_lastDay_4 df mv fu (nI (mxN D i)) (nI i) = some (nI (mxN D m))
  | 0, i, fu + 1, hc, _ => by
    have hm := h.1.1
    have : i = m := by omega
    subst this
    rw [m_X5_lastDay_4, h.2.1, if_pos (nI_le (by omega) (by omega))]
  | c + 1, i, fu + 1, hc, hf' => by
    have hm := h.1.1
    have hD := (h.1.2 i (by omega)).1
    have hx := mx_le i (fun j hj => (h.1.2 j (by omega)).1)
    have ih := c_last_loop h c (i + 1) fu (by omega) (by omega)
    rw [m_X5_lastDay_4, if_neg (by rw [h.2.1]; exact nI_ge (by omega) (by omega)), p_at (show i < 8 by omega) (by omega), (h.2.2 i (by omega)).1, Option.bind_some, nI_1]
    have es : mxN D (i + 1) = (if mxN D i < D i then D i else mxN D i) := rfl
    by_cases e : mxN D i < D i
    · rw [if_pos e] at es
      rw [if_pos (nI_lt e (by omega)), ← es]; exact ih
    · rw [if_neg e] at es
      rw [if_neg (nI_nlt (by omega) (by omega)), ← es]; exact ih
theorem c_last (h : CN m D H df hf mv) : m_X5_lastDay df mv = some (nI (mxN D m)) := by
  have hFU := FU_ge
  have hm := h.1.1
  exact c_last_loop h m 0 FU (by omega) (by omega)
theorem c_agree_loop (h : CN m D H df hf mv) {day x : Nat} (hd : day ≤ 20) (hx : x ≤ 99) : ∀ (c i fu : Nat), i + c = m → c < fu → (∀ j, j < i → D j = day → H j = x) → OK (m_X5_agree_2 df hf mv (nI day) (nI x) fu (nI i)) (fun R => Tells (∀ j, j < m → D j = day → H j = x) R)
  | 0, i, fu + 1, hc, _, hp => by
    have hm := h.1.1
    have : i = m := by omega
    subst this
    rw [m_X5_agree_2, h.2.1]
    exact OK.pos (nI_le (by omega) (by omega)) (OK.ret (Or.inl ⟨hp, rfl⟩))
  | c + 1, i, fu + 1, hc, hf', hp => by
    have hm := h.1.1
    have hD := h.1.2 i (by omega)
    rw [m_X5_agree_2, p_at (show i < 8 by omega) (by omega), p_at (show i < 8 by omega) (by omega), (h.2.2 i (by omega)).1, (h.2.2 i (by omega)).2, nI_1]
    refine OK.neg (by rw [h.2.1]; exact nI_ge (by omega) (by omega)) (OK.eq rfl (OK.ite (fun e => OK.eq rfl (OK.ite (fun e2 => ?_) (fun e2 => OK.ret (Or.inr ⟨fun z => e2 ?_, rfl⟩)))) (fun e => ?_)))
    · have e2' := (nI_eq (by omega) (by omega)).mp e2
      exact c_agree_loop h hd hx c (i + 1) fu (by omega) (by omega) (fun j hj hj2 => by
        by_cases z : j = i
        · rw [z]; exact e2'
        · exact hp j (by omega) hj2)
    · rw [z i (by omega) ((nI_eq (by omega) (by omega)).mp e)]
    · exact c_agree_loop h hd hx c (i + 1) fu (by omega) (by omega) (fun j hj hj2 => by
        by_cases z : j = i
        · exact absurd (by rw [← z, hj2]) e
        · exact hp j (by omega) hj2)
theorem c_agree (h : CN m D H df hf mv) {day x : Nat} (hd : day ≤ 20) (hx : x ≤ 99) : OK (m_X5_agree df hf mv (nI day) (nI x)) (fun R => Tells (∀ j, j < m → D j = day → H j = x) R) := by
  have hFU := FU_ge
  have hm := h.1.1
  exact c_agree_loop h hd hx m 0 FU (by omega) (by omega) (fun j hj => by omega)
theorem rnH_le (hG : gOK G) {k : Nat} : rnH G w r F d L k ≤ 99 := Nat.le_trans hiN_le hG.2.1
theorem bears_loop (hT : CT G kf st size ps mast) (hw : wOK w r) (hN : CN m D H df hf mv) :
    ∀ (c i fu : Nat) (fl dt : Int32) (lf nx u : Nat → Int32), i + c = mxN D m → c < fu → (∀ j, j < m → D j < i → rnH G w r F d L (D j) = H j) → CC G w r (rnL G w r F d L i) F (d + i) wv rv fl dt lf ff →
      OK (m_X11_bearsOut_7 ff kf st size ps mast wv rv df hf mv fu (nI (mxN D m)) (nI i) fl dt lf nx u) (fun R => Tells (AllP (rnH G w r F d L) m D H) R.1)
  | 0, i, fu + 1, fl, dt, lf, nx, u, hc, _, hp, hC => by
    have hx := mx_le m (fun j hj => (hN.1.2 j hj).1)
    have : i = mxN D m := by omega
    subst this
    rw [m_X11_bearsOut_7, hC.2.2.1]
    refine OK.pos (nI_le (by omega) (by omega)) (OK.bd (c_agree hN hx (rnH_le hT.1)) (fun a ha => OK.pos ha.z01 (OK.ret (ha.cong ⟨fun z j hj => ?_, fun z j hj hj2 => ?_⟩))))
    · by_cases e : D j = mxN D m
      · rw [e]; exact (z j hj e).symm
      · have := mx_ge (D := D) m j hj; exact hp j hj (by omega)
    · have := z j hj; rw [hj2] at this; exact this.symm
  | c + 1, i, fu + 1, fl, dt, lf, nx, u, hc, hf', hp, hC => by
    have hx := mx_le m (fun j hj => (hN.1.2 j hj).1)
    rw [m_X11_bearsOut_7]
    refine OK.neg (nI_ge (by omega) (by omega)) ?_
    have hfl : fl = nI (rnH G w r F d L i) := hC.2.2.1
    rw [show m_X5_agree df hf mv (nI i) fl = m_X5_agree df hf mv (nI i) (nI (rnH G w r F d L i)) by rw [hfl]]
    refine OK.bd (c_agree hN (show i ≤ 20 by omega) (rnH_le hT.1)) (fun a ha => OK.ite (fun e => OK.ret (Or.inr ⟨fun z => ?_, rfl⟩)) (fun e => ?_))
    · rw [ha.one (fun j hj hj2 => by have := z j hj; rw [hj2] at this; exact this.symm)] at e
      exact absurd e (by decide)
    · rcases ha with ⟨ha, -⟩ | ⟨-, ha⟩
      · refine OK.bd (c_day hT hw hC) (fun R hR => ?_)
        rw [nI_1]
        refine bears_loop hT hw hN c (i + 1) fu _ _ _ _ _ (by omega) (by omega) (fun j hj hj2 => ?_) hR.2
        by_cases e : D j = i
        · rw [e]; exact (ha j hj e).symm
        · exact hp j hj (by omega)
      · exact absurd ha e
theorem c_bears (hT : CT G kf st size ps mast) (hw : wOK w r) (hN : CN m D H df hf mv) (h : CC G w r L F d wv rv fl dt lf ff) : OK (m_X11_bearsOut lf ff dt nx kf st u size ps mast wv rv fl df hf mv) (fun R => Tells (AllP (rnH G w r F d L) m D H) R.1) := by
  have hFU := FU_ge
  have hx := mx_le m (fun j hj => (hN.1.2 j hj).1)
  unfold m_X11_bearsOut
  exact OK.eq (c_last hN) (bears_loop hT hw hN (mxN D m) 0 FU _ _ _ _ _ (by omega) (by omega) (fun j _ hj => by omega) h)
theorem c_way {p : Nat} {a : Int32} (hT : CT G kf st size ps mast) (hw : wOK w r) (h : CS G L F d lf ff dt) (hp : p < G.1) : OK (m_X11_startWay lf ff dt lf0 ff0 kf ps mast (nI w) (nI r) (nI p) a) (fun R => CC G w r (setL L p (shN (L p) a)) F d R.1 R.2.1 R.2.2.1 R.2.2.2.1 R.2.2.2.2.1 R.2.2.2.2.2) :=
  OK.bd (c_start hT hw h) (fun _ h1 => OK.bd (c_shift hT hw h1 hp) (fun _ h2 => OK.ret h2))
/-! the model: so many days behind -/
theorem q_behind_loop (hQ : QT G tf op ar) (hw : wOK w r) {N : Nat} (hN : N ≤ 1000) :
    ∀ (c i fu : Nat) (fa pl sf lk : Nat → Int32), i + c = N → c < fu → QS G 1008 (rnL G w r F d L i) F (d + i) sf → (∀ k, k < 1008 → sf k = sf0 k) →
      OK (m_X12_highBehind_2 tf op ar (nI w) (nI r) (nI N) fu (nI i) fa pl sf lk) (fun R => R.1 = nI (rnH G w r F d L N) ∧ QS G 1008 (rnL G w r F d L N) F (d + N) R.2.2.2.1 ∧ ∀ k, k < 1008 → R.2.2.2.1 k = sf0 k)
  | 0, i, fu + 1, fa, pl, sf, lk, hc, _, hq, hs => by
    have : i = N := by omega
    subst this
    rw [m_X12_highBehind_2]
    exact OK.pos (nI_le (by omega) (by omega)) (OK.eq (q_hi (b := 1008) hQ hw (by omega) hq) (OK.ret ⟨rfl, hq, hs⟩))
  | c + 1, i, fu + 1, fa, pl, sf, lk, hc, hf', hq, hs => by
    rw [m_X12_highBehind_2]
    refine OK.neg (nI_ge (by omega) (by omega)) (OK.bd (q_dayO (b := 1008) hQ hw (by omega) hq) (fun R hR => ?_))
    rw [nI_1]
    exact q_behind_loop hQ hw hN c (i + 1) fu _ _ _ _ (by omega) (by omega) hR.2.1 (fun k hk => (hR.2.2 k (Or.inl hk)).trans (hs k hk))
theorem q_behind (hQ : QT G tf op ar) (hw : wOK w r) {N : Nat} (hN : N ≤ 1000) (hq : QS G 1008 L F d sf) (hs : ∀ k, k < 1008 → sf k = sf0 k) :
    OK (m_X12_highBehind tf op ar fa pl sf (nI w) (nI r) lk (nI N)) (fun R => R.1 = nI (rnH G w r F d L N) ∧ QS G 1008 (rnL G w r F d L N) F (d + N) R.2.2.2.1 ∧ ∀ k, k < 1008 → R.2.2.2.1 k = sf0 k) := by
  have hFU := FU_ge
  exact q_behind_loop hQ hw hN N 0 FU fa pl sf lk (by omega) (by omega) hq hs
theorem nI_ch {b c : Nat} (k : Nat) (h : c = b + 2 * k) : nI b + 2 * nI k = nI c := by
  show nI b + nI 2 * nI k = _
  rw [pn_mul, nI_add, h]
theorem seen_loop (hQ : QT G tf op ar) (hw : wOK w r) (hq : QS G 0 L F d sf0) (hN : QN 13 m D H sf0) {p : Nat} (hp : p < G.1) {a : Int32} :
    ∀ (c i fu : Nat) (fa pl sf lk : Nat → Int32), i + c = m → c < fu → (∀ j, j < i → rnH G w r F d (setL L p (shN (L p) a)) (D j) = H j) → (∀ k, k < 1008 → sf k = sf0 k) →
      OK (m_X12_isSeen_5 tf op ar (nI w) (nI r) (nI p) a fu 1 (nI i) fa pl sf lk) (fun R => Tells (AllP (rnH G w r F d (setL L p (shN (L p) a))) m D H) R.1 ∧ ∀ k, k < 1008 → R.2.2.2.1 k = sf0 k)
  | 0, i, fu + 1, fa, pl, sf, lk, hc, _, hA, hs => by
    have hm := hN.1.1
    have : i = m := by omega
    subst this
    rw [m_X12_isSeen_5, show sf (13 : Int32).toNatClampNeg = nI i from (hs 13 (by omega)).trans hN.2.1]
    exact OK.pos (nI_le (by omega) (by omega)) (OK.pos (by decide) (OK.ret ⟨Or.inl ⟨hA, rfl⟩, hs⟩))
  | c + 1, i, fu + 1, fa, pl, sf, lk, hc, hf', hA, hs => by
    have hm := hN.1.1
    have hD := hN.1.2 i (by omega)
    have hq' : QS G 0 L F d sf := hq.same hQ.1 (fun k _ hk => hs k (by omega))
    rw [m_X12_isSeen_5, show sf (13 : Int32).toNatClampNeg = nI m from (hs 13 (by omega)).trans hN.2.1]
    refine OK.neg (nI_ge (by omega) (by omega)) (OK.neg (by decide) (OK.bd (q_tries hQ.1 hq') (fun R1 h1 => OK.bd (q_loses (b := 1008) hQ.1 (by omega) h1.1 hp) (fun R2 h2 => ?_))))
    have hs2 : ∀ k, k < 1008 → R2 k = sf0 k := fun k hk => (h2.2 k (Or.inl hk)).trans ((h1.2 k hk).trans (hs k hk))
    have e1 : (14 : Int32) + 2 * nI i = nI (14 + 2 * i) := nI_ch (b := 14) i rfl
    rw [e1, nI_1 (14 + 2 * i), nI_clamp (show 14 + 2 * i < 2 ^ 31 by omega), nI_clamp (show 14 + 2 * i + 1 < 2 ^ 31 by omega), hs2 (14 + 2 * i) (by omega), show sf0 (14 + 2 * i) = nI (D i) from (hN.2.2 i (by omega)).1]
    refine OK.pos (pn_in2 (by omega) (by omega)) (OK.bd (q_behind hQ hw (by omega) h2.1 hs2) (fun R3 h3 => OK.pos (pn_in2 (by omega) (by omega)) ?_))
    rw [h3.1, h3.2.2 (14 + 2 * i + 1) (by omega), show sf0 (14 + 2 * i + 1) = nI (H i) by rw [show 14 + 2 * i + 1 = 13 + 2 + 2 * i by omega]; exact (hN.2.2 i (by omega)).2, nI_1]
    have hr := rnH_le (w := w) (r := r) (F := F) (d := d) (L := setL L p (shN (L p) a)) (k := D i) hQ.1
    refine OK.ite (fun e => ?_) (fun e => ?_)
    · have e' := (nI_eq (by omega) (by omega)).mp e
      exact seen_loop hQ hw hq hN hp c (i + 1) fu _ _ _ _ (by omega) (by omega) (fun j hj => by
        by_cases z : j = i
        · rw [z]; exact e'
        · exact hA j (by omega)) h3.2.2
    · obtain ⟨f, rfl⟩ : ∃ f, fu = f + 1 := ⟨fu - 1, by omega⟩
      have hn : ¬ AllP (rnH G w r F d (setL L p (shN (L p) a))) m D H := fun z => e (by rw [z i (by omega)])
      rw [m_X12_isSeen_5]
      exact OK.ite (fun _ => OK.pos (by decide) (OK.ret ⟨Or.inr ⟨hn, rfl⟩, h3.2.2⟩)) (fun _ => OK.pos rfl (OK.pos (by decide) (OK.ret ⟨Or.inr ⟨hn, rfl⟩, h3.2.2⟩)))
theorem q_seen (hQ : QT G tf op ar) (hw : wOK w r) (hq : QS G 0 L F d sf) (hN : QN 13 m D H sf) {p : Nat} (hp : p < G.1) {a : Int32} : OK (m_X12_isSeen tf op ar fa pl sf (nI w) (nI r) lk (nI p) a) (fun R => Tells (AllP (rnH G w r F d (setL L p (shN (L p) a))) m D H) R.1 ∧ ∀ k, k < 1008 → R.2.2.2.1 k = sf k) := by
  have hFU := FU_ge
  have hm := hN.1.1
  exact seen_loop hQ hw hq hN hp m 0 FU fa pl sf lk (by omega) (by omega) (fun j hj => by omega) (fun _ _ => rfl)
/-! see, measure -/
theorem l_add (hN : CN m D H df hf mv) {c : Nat} (hc : c ≤ 900) (hQ : QN c m D H sf) {x y : Int32} {z1 z2 : Int32} (X : Option (Int32 × Int32 × (Nat → Int32)))
    (hX : X = Option.bind (m_X12_within x 0 20) (fun r4 => if r4 = 0 then (some (0, 0, sf)) else (Option.bind (m_X12_within y 0 99) (fun r5 => if r5 = 0 then (some (0, 0, sf)) else (if (sf c) = 8 then (some (0, 0, sf)) else (Option.bind (some (nI (c + 1) + (2 * (sf c)))) (fun z6 => if ¬ (z6 < 0 ∨ 1104 ≤ z6.toNatClampNeg) then (if ¬ ((z6 + 1) < 0 ∨ 1104 ≤ (z6 + 1).toNatClampNeg) then (some (1, 0, upd (upd (upd sf z6.toNatClampNeg x) (z6 + 1).toNatClampNeg y) c (((upd (upd sf z6.toNatClampNeg x) (z6 + 1).toNatClampNeg y) c) + 1))) else none) else none))))))) :
    OT (m_X5_add df hf mv x y) X (fun R R' => R.1 = R'.1 ∧ (R.1 = 0 ∨ R.1 = 1) ∧ ∃ (m' : Nat) (D' H' : Nat → Nat), CN m' D' H' R.2.2.1 R.2.2.2 R.2.1 ∧ QN c m' D' H' R'.2.2 ∧ ∀ k, (k < c ∨ c + 17 ≤ k) → R'.2.2 k = sf k) := by
  subst hX
  have hm := hN.1.1
  unfold m_X5_add
  rcases w_rng x 0 20 (by omega) (by omega) with ⟨e1, e2⟩ | ⟨a, ha, ha', rfl, e1, e2⟩
  · exact OT.eqL e1 (OT.eqR e2 (OT.posL rfl (OT.posR rfl (OT.ret ⟨rfl, Or.inl rfl, m, D, H, hN, hQ, fun _ _ => rfl⟩))))
  · refine OT.eqL e1 (OT.eqR e2 (OT.negL (by decide) (OT.negR (by decide) ?_)))
    rcases w_rng y 0 99 (by omega) (by omega) with ⟨e1, e2⟩ | ⟨b, hb, hb', rfl, e1, e2⟩
    · exact OT.eqL e1 (OT.eqR e2 (OT.posL rfl (OT.posR rfl (OT.ret ⟨rfl, Or.inl rfl, m, D, H, hN, hQ, fun _ _ => rfl⟩))))
    · refine OT.eqL e1 (OT.eqR e2 (OT.negL (by decide) (OT.negR (by decide) ?_)))
      rw [hQ.2.1, hN.2.1]
      by_cases e : m = 8
      · subst e
        exact OT.negL (by decide) (OT.posR rfl (OT.ret ⟨rfl, Or.inl rfl, 8, D, H, ⟨hN.1, rfl, hN.2.2⟩, hQ, fun _ _ => rfl⟩))
      · refine OT.posL (nI_lt (b := 8) (by omega) (by omega)) (OT.negR (fun z => e ((nI_eq (b := 8) (by omega) (by omega)).mp z)) ?_)
        rw [p_put (show m < 8 by omega) (by omega), p_put (show m < 8 by omega) (by omega)]
        refine OT.eqL rfl (OT.eqL rfl (OT.eqR rfl ?_))
        rw [nI_ch (b := c + 1) (c := c + 1 + 2 * m) m rfl, nI_1, nI_1, nI_clamp (show c + 1 + 2 * m < 2 ^ 31 by omega), nI_clamp (show c + 1 + 2 * m + 1 < 2 ^ 31 by omega)]
        refine OT.posR (pn_in2 (by omega) (by omega)) (OT.posR (pn_in2 (by omega) (by omega)) (OT.ret ⟨rfl, Or.inr rfl, m + 1, setL D m a, setL H m b, ?_, ?_, ?_⟩))
        · refine ⟨⟨by omega, fun j hj => ?_⟩, rfl, fun j hj => ?_⟩
          · unfold setL
            by_cases z : j = m
            · rw [if_pos z, if_pos z]; exact ⟨ha', hb'⟩
            · rw [if_neg z, if_neg z]; exact hN.1.2 j (by omega)
          · show upd df m (nI a) j = _ ∧ upd hf m (nI b) j = _
            unfold upd setL
            by_cases z : j = m
            · rw [if_pos z, if_pos z, if_pos z, if_pos z]; exact ⟨rfl, rfl⟩
            · rw [if_neg z, if_neg z, if_neg z, if_neg z]; exact hN.2.2 j (by omega)
        · refine ⟨⟨by omega, fun j hj => ?_⟩, ?_, fun j hj => ?_⟩
          · unfold setL
            by_cases z : j = m
            · rw [if_pos z, if_pos z]; exact ⟨ha', hb'⟩
            · rw [if_neg z, if_neg z]; exact hN.1.2 j (by omega)
          · show upd _ c _ c = _
            unfold upd
            rw [if_pos rfl, if_neg (by omega), if_neg (by omega), hQ.2.1, nI_1]
          · show upd _ c _ _ = _ ∧ upd _ c _ _ = _
            unfold upd setL
            by_cases z : j = m
            · subst z
              refine ⟨?_, ?_⟩
              · rw [if_neg (by omega), if_neg (by omega), if_pos rfl, if_pos rfl]
              · rw [if_neg (by omega), if_pos (by omega), if_pos rfl]
            · refine ⟨?_, ?_⟩
              · rw [if_neg (by omega), if_neg (by omega), if_neg (by omega), if_neg z]; exact (hQ.2.2 j (by omega)).1
              · rw [if_neg (by omega), if_neg (by omega), if_neg (by omega), if_neg z]; exact (hQ.2.2 j (by omega)).2
        · intro k hk
          show upd _ c _ k = _
          unfold upd
          rw [if_neg (by omega), if_neg (by omega), if_neg (by omega)]
theorem l_see (hN : CN m D H df hf mv) (hQ : QN 13 m D H sf) (x y : Int32) :
    OT (m_X11_see df hf mv x y) (m_X12_see sf x y) (fun R R' => R.1 = R'.1 ∧ ∃ (m' : Nat) (D' H' : Nat → Nat), CN m' D' H' R.2.2.1 R.2.2.2 R.2.1 ∧ QN 13 m' D' H' R'.2.2 ∧ ∀ k, (k < 13 ∨ 30 ≤ k) → R'.2.2 k = sf k) :=
  OT.thL (l_add hN (by omega) hQ (x := x) (y := y) (z1 := 0) (z2 := 0) (m_X12_see sf x y) rfl) (fun _ _ h => OK.pos h.2.1 (OK.ret ⟨h.1, h.2.2⟩))
theorem l_measure (hN : CN m D H df hf mv) (hQ : QN 30 m D H sf) (x y : Int32) :
    OT (m_X11_measure df hf mv x y) (m_X12_measure sf x y) (fun R R' => R.1 = R'.1 ∧ ∃ (m' : Nat) (D' H' : Nat → Nat), CN m' D' H' R.2.2.1 R.2.2.2 R.2.1 ∧ QN 30 m' D' H' R'.2.2 ∧ ∀ k, (k < 30 ∨ 47 ≤ k) → R'.2.2 k = sf k) :=
  OT.thL (l_add hN (by omega) hQ (x := x) (y := y) (z1 := 0) (z2 := 0) (m_X12_measure sf x y) rfl) (fun _ _ h => OK.pos h.2.1 (OK.ret ⟨h.1, h.2.2⟩))
end NOTES
