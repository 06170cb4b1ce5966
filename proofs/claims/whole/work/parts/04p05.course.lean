/-! PURE: a side comes to an end with .. -/
def OK {α : Type} (x : Option α) (P : α → Prop) : Prop := ∃ a, x = some a ∧ P a
theorem OK.ret {α : Type} {a : α} {P : α → Prop} (h : P a) : OK (some a) P := ⟨a, rfl, h⟩
theorem OK.bd {α β : Type} {x : Option α} {f : α → Option β} {P : α → Prop} {Q : β → Prop} (h : OK x P) (k : ∀ a, P a → OK (f a) Q) : OK (Option.bind x f) Q := by
  obtain ⟨a, rfl, ha⟩ := h
  exact k a ha
theorem OK.eq {α β : Type} {x : Option α} {a : α} {f : α → Option β} {Q : β → Prop} (h : x = some a) (k : OK (f a) Q) : OK (Option.bind x f) Q := by
  subst h
  exact k
theorem OK.imp {α : Type} {x : Option α} {P Q : α → Prop} (h : OK x P) (k : ∀ a, P a → Q a) : OK x Q := by
  obtain ⟨a, e, ha⟩ := h
  exact ⟨a, e, k a ha⟩
theorem OK.pos {α : Type} {c : Prop} [Decidable c] {x y : Option α} {P : α → Prop} (hc : c) (h : OK x P) : OK (if c then x else y) P := by rw [if_pos hc]; exact h
theorem OK.neg {α : Type} {c : Prop} [Decidable c] {x y : Option α} {P : α → Prop} (hc : ¬ c) (h : OK y P) : OK (if c then x else y) P := by rw [if_neg hc]; exact h
theorem OK.ite {α : Type} {c : Prop} [Decidable c] {x y : Option α} {P : α → Prop} (h1 : c → OK x P) (h2 : ¬ c → OK y P) : OK (if c then x else y) P := by
  by_cases hc : c
  · exact OK.pos hc (h1 hc)
  · exact OK.neg hc (h2 hc)
/-- both sides come to an end with .. -/
def OT {α β : Type} (x : Option α) (y : Option β) (P : α → β → Prop) : Prop := ∃ a b, x = some a ∧ y = some b ∧ P a b
theorem OT.ret {α β : Type} {a : α} {b : β} {P : α → β → Prop} (h : P a b) : OT (some a) (some b) P := ⟨a, b, rfl, rfl, h⟩
theorem OT.imp {α β : Type} {x : Option α} {y : Option β} {P Q : α → β → Prop} (h : OT x y P) (k : ∀ a b, P a b → Q a b) : OT x y Q := by
  obtain ⟨a, b, e, f, h⟩ := h
  exact ⟨a, b, e, f, k a b h⟩
theorem OT.bdL {α β γ : Type} {x : Option γ} {f : γ → Option α} {y : Option β} {P : γ → Prop} {Q : α → β → Prop} (h : OK x P) (k : ∀ a, P a → OT (f a) y Q) : OT (Option.bind x f) y Q := by
  obtain ⟨a, rfl, ha⟩ := h
  exact k a ha
theorem OT.bdR {α β γ : Type} {x : Option γ} {f : γ → Option β} {y : Option α} {P : γ → Prop} {Q : α → β → Prop} (h : OK x P) (k : ∀ a, P a → OT y (f a) Q) : OT y (Option.bind x f) Q := by
  obtain ⟨a, rfl, ha⟩ := h
  exact k a ha
theorem OT.bd {α β γ δ : Type} {x : Option γ} {f : γ → Option α} {y : Option δ} {g : δ → Option β} {P : γ → δ → Prop} {Q : α → β → Prop} (h : OT x y P) (k : ∀ a b, P a b → OT (f a) (g b) Q) : OT (Option.bind x f) (Option.bind y g) Q := by
  obtain ⟨a, b, rfl, rfl, h⟩ := h
  exact k a b h
theorem OT.eqL {α β γ : Type} {x : Option γ} {a : γ} {f : γ → Option α} {y : Option β} {Q : α → β → Prop} (h : x = some a) (k : OT (f a) y Q) : OT (Option.bind x f) y Q := by subst h; exact k
theorem OT.eqR {α β γ : Type} {x : Option γ} {a : γ} {f : γ → Option β} {y : Option α} {Q : α → β → Prop} (h : x = some a) (k : OT y (f a) Q) : OT y (Option.bind x f) Q := by subst h; exact k
theorem OT.posL {α β : Type} {c : Prop} [Decidable c] {x y : Option α} {z : Option β} {P : α → β → Prop} (hc : c) (h : OT x z P) : OT (if c then x else y) z P := by rw [if_pos hc]; exact h
theorem OT.negL {α β : Type} {c : Prop} [Decidable c] {x y : Option α} {z : Option β} {P : α → β → Prop} (hc : ¬ c) (h : OT y z P) : OT (if c then x else y) z P := by rw [if_neg hc]; exact h
theorem OT.posR {α β : Type} {c : Prop} [Decidable c] {x y : Option β} {z : Option α} {P : α → β → Prop} (hc : c) (h : OT z x P) : OT z (if c then x else y) P := by rw [if_pos hc]; exact h
theorem OT.negR {α β : Type} {c : Prop} [Decidable c] {x y : Option β} {z : Option α} {P : α → β → Prop} (hc : ¬ c) (h : OT z y P) : OT z (if c then x else y) P := by rw [if_neg hc]; exact h
theorem OT.ite {α β : Type} {c c' : Prop} [Decidable c] [Decidable c'] {x y : Option α} {x' y' : Option β} {P : α → β → Prop} (hcc : c ↔ c') (h1 : c → OT x x' P) (h2 : ¬ c → OT y y' P) : OT (if c then x else y) (if c' then x' else y') P := by
  by_cases hc : c
  · exact OT.posL hc (OT.posR (hcc.mp hc) (h1 hc))
  · exact OT.negL hc (OT.negR (fun h => hc (hcc.mpr h)) (h2 hc))
theorem OT.itL {α β : Type} {c : Prop} [Decidable c] {x y : Option α} {z : Option β} {P : α → β → Prop} (h1 : c → OT x z P) (h2 : ¬ c → OT y z P) : OT (if c then x else y) z P := by
  by_cases hc : c
  · exact OT.posL hc (h1 hc)
  · exact OT.negL hc (h2 hc)
theorem OT.itR {α β : Type} {c : Prop} [Decidable c] {x y : Option β} {z : Option α} {P : α → β → Prop} (h1 : c → OT z x P) (h2 : ¬ c → OT z y P) : OT z (if c then x else y) P := by
  by_cases hc : c
  · exact OT.posR hc (h1 hc)
  · exact OT.negR hc (h2 hc)
theorem OT.of {α β : Type} {x : Option α} {y : Option β} {P : α → Prop} {Q : β → Prop} {R : α → β → Prop} (h : OK x P) (h' : OK y Q) (k : ∀ a b, P a → Q b → R a b) : OT x y R := by
  obtain ⟨a, e, ha⟩ := h
  obtain ⟨b, f, hb⟩ := h'
  exact ⟨a, b, e, f, k a b ha hb⟩
theorem OT.thR {α β γ : Type} {x : Option α} {y : Option γ} {g : γ → Option β} {P : α → γ → Prop} {Q : α → β → Prop} (h : OT x y P) (k : ∀ a b, P a b → OK (g b) (Q a)) : OT x (Option.bind y g) Q := by
  obtain ⟨a, b, rfl, rfl, h⟩ := h
  obtain ⟨c, e, hc⟩ := k a b h
  exact ⟨a, c, rfl, e, hc⟩
theorem OT.thL {α β γ : Type} {x : Option γ} {y : Option β} {g : γ → Option α} {P : γ → β → Prop} {Q : α → β → Prop} (h : OT x y P) (k : ∀ a b, P a b → OK (g a) (fun c => Q c b)) : OT (Option.bind x g) y Q := by
  obtain ⟨a, b, rfl, rfl, h⟩ := h
  obtain ⟨c, e, hc⟩ := k a b h
  exact ⟨c, b, e, rfl, hc⟩
/-! PURE: a town as both sides hold it: how many, the mast, kinds, law -/
abbrev Gm : Type := Nat × Nat × (Nat → Nat) × (Int32 → Int32 → Int32 → Int32 → Int32)
def gOK (G : Gm) : Prop := G.1 ≤ 6 ∧ G.2.1 ≤ 99 ∧ ∀ p, p < G.1 → G.2.2.1 p ≤ 3
def wOK (w r : Nat) : Prop := 1 ≤ w ∧ w ≤ 20 ∧ r ≤ 2
def lOK (G : Gm) (L F : Nat → Nat) : Prop := (∀ p, p < 6 → L p ≤ 60) ∧ ∀ p, p < 6 → F p < 2 ^ G.1
def hiN (G : Gm) (w r : Nat) (L : Nat → Nat) : Nat := flagN G.2.1 w r (sumW G.2.2.1 L G.1)
def nxL (G : Gm) (w r : Nat) (F : Nat → Nat) (d : Nat) (L : Nat → Nat) : Nat → Nat := fun p => if p < G.1 then tmN G.2.2.2 (nI (hiN G w r L)) (nI d) F L p else L p
def chD (G : Gm) (w r : Nat) (F : Nat → Nat) (d : Nat) (L : Nat → Nat) : Bool := chg (tmN G.2.2.2 (nI (hiN G w r L)) (nI d) F L) L G.1
def CT (G : Gm) (kf st : Nat → Int32) (size ps mast : Int32) : Prop := gOK G ∧ ps = nI G.1 ∧ mast = nI G.2.1 ∧ (∀ p, p < G.1 → kf p = nI (G.2.2.1 p)) ∧ HasLaw st size G.2.2.2
def QT (G : Gm) (tf op ar : Nat → Int32) : Prop := gOK G ∧ tf 0 = nI G.1 ∧ tf 1 = nI G.2.1 ∧ (∀ p, p < G.1 → tf (5 + 3 * p) = nI (G.2.2.1 p)) ∧ QLaw tf op ar G.2.2.2
def CS (G : Gm) (L F : Nat → Nat) (d : Nat) (lf ff : Nat → Int32) (dt : Int32) : Prop := lOK G L F ∧ dt = nI d ∧ (∀ p, p < 6 → lf p = nI (L p)) ∧ ∀ p, p < 6 → ff p = nI (F p)
def CC (G : Gm) (w r : Nat) (L F : Nat → Nat) (d : Nat) (wv rv fl dt : Int32) (lf ff : Nat → Int32) : Prop := wv = nI w ∧ rv = nI r ∧ fl = nI (hiN G w r L) ∧ CS G L F d lf ff dt
def QS (G : Gm) (b : Nat) (L F : Nat → Nat) (d : Nat) (sf : Nat → Int32) : Prop := lOK G L F ∧ sf b = nI d ∧ (∀ p, p < G.1 → sf (b + 1 + p) = nI (L p)) ∧ ∀ p, p < G.1 → sf (b + 7 + p) = nI (F p)
theorem hiN_le {G : Gm} {w r : Nat} {L : Nat → Nat} : hiN G w r L ≤ G.2.1 := Nat.sub_le _ _
theorem nxL_le {G : Gm} {w r d : Nat} {F L : Nat → Nat} (h : ∀ p, p < 6 → L p ≤ 60) : ∀ p, p < 6 → nxL G w r F d L p ≤ 60 := by
  intro p hp
  unfold nxL
  split
  · exact tm_ok.2
  · exact h p hp
theorem nxL_lOK {G : Gm} {w r d : Nat} {F L : Nat → Nat} (h : lOK G L F) : lOK G (nxL G w r F d L) F := ⟨nxL_le h.1, h.2⟩
theorem nxL_sum {G : Gm} {w r d : Nat} {F L : Nat → Nat} : sumW G.2.2.1 (tmN G.2.2.2 (nI (hiN G w r L)) (nI d) F L) G.1 = sumW G.2.2.1 (nxL G w r F d L) G.1 := by
  refine sumW_cong (fun _ _ => rfl) (fun p hp => ?_)
  unfold nxL
  rw [if_pos hp]
theorem f64 {G : Gm} {F : Nat → Nat} (hG : gOK G) {p : Nat} (h : F p < 2 ^ G.1) : F p < 64 := Nat.lt_of_lt_of_le h (Nat.pow_le_pow_right (n := 2) (by omega) hG.1)
/-! the class's course -/
theorem c_day {G : Gm} {w r d : Nat} {L F : Nat → Nat} {kf st lf ff nx u : Nat → Int32} {size ps mast wv rv fl dt : Int32} (hT : CT G kf st size ps mast) (hw : wOK w r) (h : CC G w r L F d wv rv fl dt lf ff) :
    OK (m_X1_passDay lf ff dt nx kf st u size ps mast wv rv fl) (fun R => R.1 = chI (chD G w r F d L) ∧ CC G w r (nxL G w r F d L) F (d + 1) wv rv R.2.1 R.2.2.1 R.2.2.2.1 ff) := by
  obtain ⟨rfl, rfl, rfl, hl, rfl, h1, h2⟩ := h
  obtain ⟨hG, rfl, rfl, hk, hLv⟩ := hT
  obtain ⟨lf', nx', u', k1, k2, k3⟩ := p_day (fl := nI (hiN G w r L)) (dt := nI d) (K := G.2.2.1) (F := F) (L := L) (lf := lf) (ff := ff) (kf := kf) (nx := nx) (u := u) hLv hG.1 hG.2.1 hw.1 hw.2.1 hw.2.2 (fun p hp => ⟨hk p hp, hG.2.2 p hp⟩) (fun p hp => ⟨h2 p (by have := hG.1; omega), f64 hG (hl.2 p (by have := hG.1; omega))⟩) (fun p hp => ⟨h1 p hp, hl.1 p hp⟩)
  refine ⟨_, k3, rfl, rfl, rfl, ?_, nxL_lOK hl, nI_1 d, fun p hp => ?_, h2⟩
  · show nI _ = nI _
    unfold hiN
    rw [← nxL_sum]
    rfl
  · show lf' p = _
    unfold nxL
    by_cases hpn : p < G.1
    · rw [if_pos hpn, k1 p hpn]
    · rw [if_neg hpn, k2 p (by omega) hp]
theorem c_flag {G : Gm} {w r : Nat} {L : Nat → Nat} {kf st lf : Nat → Int32} {size ps mast : Int32} (hT : CT G kf st size ps mast) (hw : wOK w r) (hl : ∀ p, p < 6 → L p ≤ 60) (h : ∀ p, p < 6 → lf p = nI (L p)) : m_X1_setFlag lf kf ps mast (nI w) (nI r) = some (nI (hiN G w r L)) := by
  obtain ⟨hG, rfl, rfl, hk, hLv⟩ := hT
  have hn := hG.1
  exact p_setFlag hG.1 hG.2.1 hw.1 hw.2.1 hw.2.2 (fun p hp => ⟨hk p hp, hG.2.2 p hp⟩) (fun p hp => ⟨h p (by omega), hl p (by omega)⟩)
theorem cpy_at {α : Type} {f g : Nat → α} {n p : Nat} (h : p < n) : va_cpy f g 0 0 n p = f p := by
  unfold va_cpy
  rw [if_pos ⟨Nat.zero_le _, by omega⟩, Nat.sub_zero, Nat.zero_add]
theorem c_startBy {G : Gm} {w r d : Nat} {L F : Nat → Nat} {kf st lf ff lf0 ff0 : Nat → Int32} {size ps mast dt : Int32} (hT : CT G kf st size ps mast) (hw : wOK w r) (h : CS G L F d lf ff dt) :
    OK (m_X1_startBy lf0 ff0 kf ps mast lf ff dt (nI w) (nI r)) (fun R => CC G w r L F d R.1 R.2.1 R.2.2.1 R.2.2.2.1 R.2.2.2.2.1 R.2.2.2.2.2) := by
  obtain ⟨hl, rfl, h1, h2⟩ := h
  refine OK.eq (a := (nI d, va_cpy lf lf0 0 0 6, va_cpy ff ff0 0 0 6)) rfl ?_
  have e1 : ∀ p, p < 6 → va_cpy lf lf0 0 0 6 p = nI (L p) := fun p hp => by rw [cpy_at hp, h1 p hp]
  refine OK.eq (c_flag hT hw hl.1 e1) ?_
  exact OK.ret ⟨rfl, rfl, rfl, hl, rfl, e1, fun p hp => by show va_cpy ff ff0 0 0 6 p = _; rw [cpy_at hp, h2 p hp]⟩
theorem c_start {G : Gm} {w r d : Nat} {L F : Nat → Nat} {kf st lf ff lf0 ff0 : Nat → Int32} {size ps mast dt : Int32} (hT : CT G kf st size ps mast) (hw : wOK w r) (h : CS G L F d lf ff dt) :
    OK (m_X1_start lf0 ff0 kf ps mast (nI w) (nI r) lf ff dt) (fun R => CC G w r L F d R.1 R.2.1 R.2.2.1 R.2.2.2.1 R.2.2.2.2.1 R.2.2.2.2.2) :=
  OK.bd (c_startBy hT hw h) (fun _ h => OK.ret h)
/-! the model's day -/
theorem q_dayO {G : Gm} {b w r d : Nat} {L F : Nat → Nat} {tf op ar sf fa pl lk : Nat → Int32} (hT : QT G tf op ar) (hw : wOK w r) (hb : b ≤ 1056) (h : QS G b L F d sf) :
    OK (m_X12_passes tf op ar fa pl sf (nI w) (nI r) lk (nI b)) (fun R => R.1 = chI (chD G w r F d L) ∧ QS G b (nxL G w r F d L) F (d + 1) R.2.2.2.1 ∧ ∀ k, (k < b ∨ b + 13 ≤ k) → R.2.2.2.1 k = sf k) := by
  obtain ⟨hl, h0, h1, h2⟩ := h
  obtain ⟨hG, t0, t1, hk, hLv⟩ := hT
  have hn := hG.1
  obtain ⟨fa', pl', sf', lk', k1, k2, k3, k4⟩ := q_day (fa := fa) (pl := pl) (lk := lk) (K := G.2.2.1) (F := F) (L := L) hLv hG.1 hb t0 t1 hG.2.1 hw.1 hw.2.1 hw.2.2 (fun p hp => ⟨hk p hp, hG.2.2 p hp⟩) (fun p hp => ⟨h2 p hp, hl.2 p (by omega)⟩) (fun p hp => ⟨h1 p hp, hl.1 p (by omega)⟩)
  rw [h0] at k1 k2 k4
  refine ⟨_, k4, rfl, ⟨nxL_lOK hl, k2.trans (nI_1 d), fun p hp => ?_, fun p hp => ?_⟩, fun k hk' => k3 k (by omega) (fun j hj => by omega)⟩
  · show sf' _ = _
    rw [k1 p hp]
    unfold nxL
    rw [if_pos hp]
    rfl
  · show sf' _ = _
    rw [k3 _ (by omega) (fun j hj => by omega)]
    exact h2 p hp
theorem q_hi {G : Gm} {b w r d : Nat} {L F : Nat → Nat} {tf op ar sf : Nat → Int32} (hT : QT G tf op ar) (hw : wOK w r) (hb : b ≤ 1056) (h : QS G b L F d sf) : m_X12_highOf tf sf (nI w) (nI r) (nI b) = some (nI (hiN G w r L)) := by
  obtain ⟨hl, h0, h1, h2⟩ := h
  obtain ⟨hG, t0, t1, hk, hLv⟩ := hT
  have hn := hG.1
  exact q_highOf hG.1 hb t0 t1 hG.2.1 hw.1 hw.2.1 hw.2.2 (fun p hp => ⟨hk p hp, hG.2.2 p hp⟩) (fun p hp => ⟨h1 p hp, hl.1 p (by omega)⟩)
theorem q_copies_loop {a b c : Nat} (ha : a + c ≤ 1104) (hb : b + c ≤ 1104) (hd : a + c ≤ b ∨ b + c ≤ a) (sf : Nat → Int32) :
    ∀ (d i fu : Nat) (s : Nat → Int32), i + d = c → d < fu → (∀ k, s k = if b ≤ k ∧ k < b + i then sf (a + (k - b)) else sf k) → OK (m_X12_copies_3 (nI a) (nI b) (nI c) fu (nI i) s) (fun R => ∀ k, R k = if b ≤ k ∧ k < b + c then sf (a + (k - b)) else sf k)
  | 0, i, fu + 1, s, h, _, hs => by
    have : i = c := by omega
    subst this
    unfold m_X12_copies_3
    exact OK.pos (nI_le (Nat.le_refl _) (by omega)) (OK.ret hs)
  | d + 1, i, fu + 1, s, h, hf, hs => by
    unfold m_X12_copies_3
    rw [nI_add, nI_add, nI_clamp (show a + i < 2 ^ 31 by omega), nI_clamp (show b + i < 2 ^ 31 by omega), nI_1]
    refine OK.neg (nI_ge (by omega) (by omega)) (OK.pos (pn_in2 (by omega) (by omega)) (OK.pos (pn_in2 (by omega) (by omega)) ?_))
    refine q_copies_loop ha hb hd sf d (i + 1) fu _ (by omega) (by omega) (fun k => ?_)
    unfold upd
    by_cases e : k = b + i
    · rw [if_pos e, if_pos (by omega), hs, if_neg (by omega), show k - b = i by omega]
    · rw [if_neg e, hs]
      by_cases e2 : b ≤ k ∧ k < b + i
      · rw [if_pos e2, if_pos (by omega)]
      · rw [if_neg e2, if_neg (by omega)]
theorem q_copies {a b c : Nat} (ha : a + c ≤ 1104) (hb : b + c ≤ 1104) (hd : a + c ≤ b ∨ b + c ≤ a) (sf : Nat → Int32) : OK (m_X12_copies sf (nI a) (nI b) (nI c)) (fun R => ∀ k, R k = if b ≤ k ∧ k < b + c then sf (a + (k - b)) else sf k) := by
  have hFU := FU_ge
  unfold m_X12_copies
  revert hFU
  generalize FU = fu
  intro hFU
  exact q_copies_loop ha hb hd sf c 0 fu sf (by omega) (by omega) (fun k => by rw [if_neg (by omega)])
theorem QS.moved {G : Gm} {a b : Nat} {L F : Nat → Nat} {d : Nat} {s t : Nat → Int32} (hG : gOK G) (h : QS G a L F d s) (e : ∀ k, b ≤ k → k < b + 13 → t k = s (a + (k - b))) : QS G b L F d t := by
  have hn := hG.1
  refine ⟨h.1, ?_, fun p hp => ?_, fun p hp => ?_⟩
  · rw [e b (by omega) (by omega), Nat.sub_self]; exact h.2.1
  · rw [e _ (by omega) (by omega), show a + (b + 1 + p - b) = a + 1 + p by omega]; exact h.2.2.1 p hp
  · rw [e _ (by omega) (by omega), show a + (b + 7 + p - b) = a + 7 + p by omega]; exact h.2.2.2 p hp
theorem QS.same {G : Gm} {b : Nat} {L F : Nat → Nat} {d : Nat} {s t : Nat → Int32} (hG : gOK G) (h : QS G b L F d s) (e : ∀ k, b ≤ k → k < b + 13 → t k = s k) : QS G b L F d t :=
  h.moved hG (fun k h1 h2 => by rw [e k h1 h2, show b + (k - b) = k by omega])
theorem q_tries {G : Gm} {L F : Nat → Nat} {d : Nat} {sf : Nat → Int32} (hG : gOK G) (h : QS G 0 L F d sf) : OK (m_X12_triesNow sf) (fun R => QS G 1008 L F d R ∧ ∀ k, k < 1008 → R k = sf k) := by
  unfold m_X12_triesNow
  refine OK.bd (q_copies (a := 0) (b := 1008) (c := 13) (by omega) (by omega) (by omega) sf) (fun R hR => OK.ret ⟨?_, fun k hk => ?_⟩)
  · exact h.moved hG (fun k h1 h2 => by rw [hR, if_pos ⟨h1, h2⟩])
  · rw [hR, if_neg (by omega)]
