/-! PURE: marks, counts -/
section MARKS
variable {G : Gm} {w r : Nat} {sf0 kf st tf op ar lf ff sf lf0 ff0 nx u fa pl lk hd : Nat → Int32} {hl hf : Nat → Nat → Int32} {size ps mast wv rv fl dt next many undos : Int32} {L F : Nat → Nat} {d m : Nat}
theorem QN.moved {a b n : Nat} {D H : Nat → Nat} {s t : Nat → Int32} (h : QN a n D H s) (e : ∀ k, b ≤ k → k < b + 17 → t k = s (a + (k - b))) : QN b n D H t := by
  have hn := h.1.1
  refine ⟨h.1, ?_, fun j hj => ⟨?_, ?_⟩⟩
  · rw [e b (by omega) (by omega), Nat.sub_self]; exact h.2.1
  · rw [e _ (by omega) (by omega), show a + (b + 1 + 2 * j - b) = a + 1 + 2 * j by omega]; exact (h.2.2 j hj).1
  · rw [e _ (by omega) (by omega), show a + (b + 2 + 2 * j - b) = a + 2 + 2 * j by omega]; exact (h.2.2 j hj).2
theorem QN.keep {b n : Nat} {D H : Nat → Nat} {s t : Nat → Int32} (h : QN b n D H s) (e : ∀ k, b ≤ k → k < b + 17 → t k = s k) : QN b n D H t := h.moved (fun k h1 h2 => by rw [e k h1 h2, show b + (k - b) = k by omega])
theorem CN.cpy {n : Nat} {D H : Nat → Nat} {df hf df0 hf0 : Nat → Int32} {mv : Int32} (h : CN n D H df hf mv) : CN n D H (va_cpy df df0 0 0 8) (va_cpy hf hf0 0 0 8) mv := by
  have hn := h.1.1
  exact ⟨h.1, h.2.1, fun j hj => by rw [cpy_at (show j < 8 by omega), cpy_at (show j < 8 by omega)]; exact h.2.2 j hj⟩
/-- notes, on both sides -/
def NN (c : Nat) (df hf : Nat → Int32) (mv : Int32) (sf : Nat → Int32) : Prop := ∃ (n : Nat) (D H : Nat → Nat), CN n D H df hf mv ∧ QN c n D H sf
theorem NN.keep {c : Nat} {df hf s t : Nat → Int32} {mv : Int32} (h : NN c df hf mv s) (e : ∀ k, c ≤ k → k < c + 17 → t k = s k) : NN c df hf mv t := by
  obtain ⟨n, D, H, h1, h2⟩ := h
  exact ⟨n, D, H, h1, h2.keep e⟩
/-- one mark that is laid -/
def M1 (G : Gm) (b : Nat) (ml mf : Nat → Int32) (md : Int32) (sd sh : Nat → Int32) (sm : Int32) (qd qh : Nat → Int32) (mm : Int32) (sf : Nat → Int32) : Prop :=
  (∃ (L F : Nat → Nat) (d : Nat), CS G L F d ml mf md ∧ QS G b L F d sf) ∧ NN (b + 13) sd sh sm sf ∧ NN (b + 30) qd qh mm sf
theorem M1.keep {b : Nat} {ml mf sd sh qd qh s t : Nat → Int32} {md sm mm : Int32} (hG : gOK G) (h : M1 G b ml mf md sd sh sm qd qh mm s) (e : ∀ k, b ≤ k → k < b + 48 → t k = s k) : M1 G b ml mf md sd sh sm qd qh mm t := by
  obtain ⟨⟨L, F, d, h1, h2⟩, h3, h4⟩ := h
  exact ⟨⟨L, F, d, h1, h2.same hG (fun k a b => e k (by omega) (by omega))⟩, h3.keep (fun k a b => e k (by omega) (by omega)), h4.keep (fun k a b => e k (by omega) (by omega))⟩
def MR (G : Gm) (laid md : Nat → Int32) (ml mf : Nat → Nat → Int32) (sm : Nat → Int32) (sd sh : Nat → Nat → Int32) (mm : Nat → Int32) (qd qh : Nat → Nat → Int32) (im sf : Nat → Int32) : Prop :=
  ∀ m, m < 4 → laid m = im m ∧ (laid m = 0 ∨ (laid m = 1 ∧ M1 G (48 * (1 + m)) (ml m) (mf m) (md m) (sd m) (sh m) (sm m) (qd m) (qh m) (mm m) sf))
theorem MR.keep {laid md : Nat → Int32} {ml mf : Nat → Nat → Int32} {sm : Nat → Int32} {sd sh : Nat → Nat → Int32} {mm : Nat → Int32} {qd qh : Nat → Nat → Int32} {im s t : Nat → Int32} (hG : gOK G) (h : MR G laid md ml mf sm sd sh mm qd qh im s) (e : ∀ k, 48 ≤ k → k < 240 → t k = s k) : MR G laid md ml mf sm sd sh mm qd qh im t := by
  intro m hm
  refine ⟨(h m hm).1, (h m hm).2.imp id (fun z => ⟨z.1, z.2.keep hG (fun k a b => e k (by omega) (by omega))⟩)⟩
theorem mk_nums : ∀ i : Nat, i < 4 → (48 : Int32) * (1 + nI i) = nI (48 * (1 + i)) := by decide +kernel
theorem mk_at : ∀ x : Nat, x < 4 → m_X11_markAt (nI x) = some (some x) := by decide +kernel
theorem mk_out {v : Int32} (h : m_X12_within v 0 3 = some 0) : m_X11_markAt v = some none := by
  unfold m_X12_within at h
  unfold m_X11_markAt
  by_cases h1 : v < 0
  · rw [if_pos h1]
  · rw [if_neg h1] at h
    rw [if_neg h1]
    by_cases h2 : (3 : Int32) < v
    · rw [if_pos ?_]
      rw [Int32.lt_iff_toInt_lt] at h2
      rw [Int32.le_iff_toInt_le]
      have e3 : (3 : Int32).toInt = 3 := by decide
      have e4 : (4 : Int32).toInt = 4 := by decide
      omega
    · rw [if_neg h2] at h
      exact absurd (Option.some.inj h) (by decide)
def MkE (G : Gm) (w r : Nat) (next : Int32) (hd : Nat → Int32) (hl hf : Nat → Nat → Int32) (sf : Nat → Int32) (R : Int32 × Int32 × Int32 × (Nat → Int32) × (Nat → Int32) × Int32 × (Nat → Int32) × (Nat → Int32) × Int32 × Int32 × Int32 × Int32 × (Nat → Int32) × (Nat → Int32) × (Nat → Int32) × (Nat → Int32) × (Nat → Nat → Int32) × (Nat → Nat → Int32) × (Nat → Int32) × (Nat → Nat → Int32) × (Nat → Nat → Int32) × (Nat → Int32) × (Nat → Nat → Int32) × (Nat → Nat → Int32)) (R' : Int32 × Int32 × Int32 × (Nat → Int32) × (Nat → Int32)) : Prop :=
  R.1 = R'.1 ∧ HR G hd hl hf next R.2.1 R'.2.2.2.1 R'.2.2.1 ∧ NC G w r R.2.2.2.2.2.2.2.2.1 R.2.2.2.2.2.2.2.2.2.1 R.2.2.2.2.2.2.2.2.2.2.1 R.2.2.2.2.2.2.2.2.2.2.2.1 R.2.2.2.2.2.2.2.2.2.2.2.2.1 R.2.2.2.2.2.2.2.2.2.2.2.2.2.1 R'.2.2.2.1 ∧ NN 13 R.2.2.2.1 R.2.2.2.2.1 R.2.2.1 R'.2.2.2.1 ∧ NN 30 R.2.2.2.2.2.2.1 R.2.2.2.2.2.2.2.1 R.2.2.2.2.2.1 R'.2.2.2.1 ∧ MR G R.2.2.2.2.2.2.2.2.2.2.2.2.2.2.1 R.2.2.2.2.2.2.2.2.2.2.2.2.2.2.2.1 R.2.2.2.2.2.2.2.2.2.2.2.2.2.2.2.2.1 R.2.2.2.2.2.2.2.2.2.2.2.2.2.2.2.2.2.1 R.2.2.2.2.2.2.2.2.2.2.2.2.2.2.2.2.2.2.1 R.2.2.2.2.2.2.2.2.2.2.2.2.2.2.2.2.2.2.2.1 R.2.2.2.2.2.2.2.2.2.2.2.2.2.2.2.2.2.2.2.2.1 R.2.2.2.2.2.2.2.2.2.2.2.2.2.2.2.2.2.2.2.2.2.1 R.2.2.2.2.2.2.2.2.2.2.2.2.2.2.2.2.2.2.2.2.2.2.1 R.2.2.2.2.2.2.2.2.2.2.2.2.2.2.2.2.2.2.2.2.2.2.2 R'.2.2.2.2 R'.2.2.2.1
theorem l_mark {laid md : Nat → Int32} {ml mf : Nat → Nat → Int32} {ksm : Nat → Int32} {ksd ksh : Nat → Nat → Int32} {kmm : Nat → Int32} {kqd kqh : Nat → Nat → Int32} {sd sh qd qh im : Nat → Int32} {sm mm : Int32} (hT : CT G kf st size ps mast) (hQ : QT G tf op ar) (hw : wOK w r) (hH : HR G hd hl hf next many sf undos) (hN : NC G w r wv rv fl dt lf ff sf) (hS : NN 13 sd sh sm sf) (hM : NN 30 qd qh mm sf) (hK : MR G laid md ml mf ksm ksd ksh kmm kqd kqh im sf) (v q : Int32) :
    OT (m_X11_mark many sd sh sm qd qh mm ml mf md ksd ksh ksm kqd kqh kmm laid lf ff dt kf ps mast (nI w) (nI r) wv rv fl v q) (m_X12_mark sf undos im v q) (MkE G w r next hd hl hf sf) := by
  unfold m_X12_mark
  rcases w_rng v 0 3 (by omega) (by omega) with ⟨e1, e2⟩ | ⟨m, hm, hm', rfl, e1, e2⟩
  · unfold m_X11_mark
    rw [mk_out e2, Option.bind_some]
    exact OT.posL rfl (OT.eqR e2 (OT.posR rfl (OT.ret ⟨rfl, hH, hN, hS, hM, hK⟩)))
  refine OT.eqR e2 (OT.negR (by decide) ?_)
  rw [nI_clamp (show m < 2 ^ 31 by omega)]
  -- the model, a mark laid
  have layM : ∀ s : Nat → Int32, s = sf → OK (m_X12_mark_29 (nI m) 0 0 undos s im) (fun R' => R'.1 = 1 ∧ R'.2.2.1 = undos ∧ (∀ k, R'.2.2.2.1 k = if 48 * (1 + m) ≤ k ∧ k < 48 * (1 + m) + 48 then sf (k - 48 * (1 + m)) else sf k) ∧ R'.2.2.2.2 = upd im m 1) := by
    intro s hs
    subst hs
    unfold m_X12_mark_29 m_X12_mark_51 m_X12_mark_65 m_X12_mark_83
    rw [nI_clamp (show m < 2 ^ 31 by omega), mk_nums m (by omega)]
    refine OK.pos (pn_in2 (by omega) (by omega)) (OK.pos rfl (OK.pos rfl (OK.bd (q_copies (a := 0) (b := 48 * (1 + m)) (c := 48) (by omega) (by omega) (by omega) s) (fun R hR => OK.pos rfl (OK.ret ⟨rfl, rfl, fun k => ?_, rfl⟩)))))
    show R k = _
    rw [hR, Nat.zero_add]
  have backM : ¬ q = 0 → OK (m_X12_mark_29 (nI m) q 0 undos sf im) (fun R' => R'.1 = 1 ∧ R'.2.2.1 = 0 ∧ (∀ k, R'.2.2.2.1 k = if k < 48 then sf (48 * (1 + m) + k) else sf k) ∧ R'.2.2.2.2 = upd im m 1) := by
    intro hq
    unfold m_X12_mark_29 m_X12_mark_51 m_X12_mark_65 m_X12_mark_83
    rw [nI_clamp (show m < 2 ^ 31 by omega), mk_nums m (by omega)]
    refine OK.pos (pn_in2 (by omega) (by omega)) (OK.neg hq (OK.neg hq (OK.bd (q_copies (a := 48 * (1 + m)) (b := 0) (c := 48) (by omega) (by omega) (by omega) sf) (fun R hR => OK.neg hq (OK.ret ⟨rfl, rfl, fun k => ?_, rfl⟩)))))
    show R k = _
    rw [hR]
    by_cases e : k < 48
    · rw [if_pos (by omega), if_pos e, Nat.sub_zero]
    · rw [if_neg (by omega), if_neg e]
  obtain ⟨L, F, d, hC, hq0⟩ := hN
  obtain ⟨sn, sD, sH, hS1, hS2⟩ := hS
  obtain ⟨mn, mD, mH, hM1, hM2⟩ := hM
  have hKm := hK m (by omega)
  by_cases hq : q = 0
  · -- laid
    subst hq
    refine OT.posR rfl ?_
    have fin : ∀ R' : Int32 × Int32 × Int32 × (Nat → Int32) × (Nat → Int32), (R'.1 = 1 ∧ R'.2.2.1 = undos ∧ (∀ k, R'.2.2.2.1 k = if 48 * (1 + m) ≤ k ∧ k < 48 * (1 + m) + 48 then sf (k - 48 * (1 + m)) else sf k) ∧ R'.2.2.2.2 = upd im m 1) →
        MkE G w r next hd hl hf sf (1, many, sm, sd, sh, mm, qd, qh, wv, rv, fl, dt, lf, ff, va_up laid m 1, va_up md m dt, va_up ml m (va_cpy lf (ml m) 0 0 6), va_up mf m (va_cpy ff (mf m) 0 0 6), va_up ksm m sm, va_up ksd m (va_cpy sd (ksd m) 0 0 8), va_up ksh m (va_cpy sh (ksh m) 0 0 8), va_up kmm m mm, va_up kqd m (va_cpy qd (kqd m) 0 0 8), va_up kqh m (va_cpy qh (kqh m) 0 0 8)) R' := by
      rintro R' ⟨r1, r2, r3, r4⟩
      have lo : ∀ k, k < 48 → R'.2.2.2.1 k = sf k := fun k hk => by rw [r3, if_neg (by omega)]
      refine ⟨r1.symm, ?_, ⟨L, F, d, hC, hq0.same hT.1 (fun k a b => lo k (by omega))⟩, ⟨sn, sD, sH, hS1, hS2.keep (fun k a b => lo k (by omega))⟩, ⟨mn, mD, mH, hM1, hM2.keep (fun k a b => lo k (by omega))⟩, ?_⟩
      · rw [r2]
        exact hH.same hT.1 (fun k a b => by rw [r3, if_neg (by omega)])
      · rw [r4]
        intro j hj
        show va_up laid m 1 j = upd im m 1 j ∧ _
        by_cases e : j = m
        · subst e
          refine ⟨by rw [va_up_self]; unfold upd; rw [if_pos rfl], Or.inr ⟨va_up_self _ _ _, ?_⟩⟩
          show M1 G (48 * (1 + j)) (va_up ml j _ j) (va_up mf j _ j) (va_up md j _ j) (va_up ksd j _ j) (va_up ksh j _ j) (va_up ksm j _ j) (va_up kqd j _ j) (va_up kqh j _ j) (va_up kmm j _ j) _
          rw [va_up_self, va_up_self, va_up_self, va_up_self, va_up_self, va_up_self, va_up_self, va_up_self, va_up_self]
          exact ⟨⟨L, F, d, hC.2.2.2.cpy, hq0.moved hT.1 (fun k a b => by rw [r3, if_pos (by omega), Nat.zero_add])⟩, ⟨sn, sD, sH, hS1.cpy, hS2.moved (fun k a b => by rw [r3, if_pos (by omega), show k - 48 * (1 + j) = 13 + (k - (48 * (1 + j) + 13)) by omega])⟩, ⟨mn, mD, mH, hM1.cpy, hM2.moved (fun k a b => by rw [r3, if_pos (by omega), show k - 48 * (1 + j) = 30 + (k - (48 * (1 + j) + 30)) by omega])⟩⟩
        · have hj' := hK j hj
          refine ⟨by rw [va_up_ne _ _ e]; unfold upd; rw [if_neg e]; exact hj'.1, ?_⟩
          show va_up laid m 1 j = 0 ∨ (va_up laid m 1 j = 1 ∧ M1 G (48 * (1 + j)) (va_up ml m _ j) (va_up mf m _ j) (va_up md m _ j) (va_up ksd m _ j) (va_up ksh m _ j) (va_up ksm m _ j) (va_up kqd m _ j) (va_up kqh m _ j) (va_up kmm m _ j) _)
          rw [va_up_ne _ _ e, va_up_ne _ _ e, va_up_ne _ _ e, va_up_ne _ _ e, va_up_ne _ _ e, va_up_ne _ _ e, va_up_ne _ _ e, va_up_ne _ _ e, va_up_ne _ _ e, va_up_ne _ _ e]
          exact hj'.2.imp id (fun z => ⟨z.1, z.2.keep hT.1 (fun k a b => by rw [r3, if_neg (by omega)])⟩)
    have layC : m_X11_mark many sd sh sm qd qh mm ml mf md ksd ksh ksm kqd kqh kmm laid lf ff dt kf ps mast (nI w) (nI r) wv rv fl (nI m) 0 = some (1, many, sm, sd, sh, mm, qd, qh, wv, rv, fl, dt, lf, ff, va_up laid m 1, va_up md m dt, va_up ml m (va_cpy lf (ml m) 0 0 6), va_up mf m (va_cpy ff (mf m) 0 0 6), va_up ksm m sm, va_up ksd m (va_cpy sd (ksd m) 0 0 8), va_up ksh m (va_cpy sh (ksh m) 0 0 8), va_up kmm m mm, va_up kqd m (va_cpy qd (kqd m) 0 0 8), va_up kqh m (va_cpy qh (kqh m) 0 0 8)) := by
      unfold m_X11_mark
      rw [mk_at m (by omega), Option.bind_some]
      rcases (show m = 0 ∨ m = 1 ∨ m = 2 ∨ m = 3 by omega) with rfl | rfl | rfl | rfl
      · rw [if_neg (show ¬ (some 0 : Option Nat) = none by decide), if_pos (show (some 0 : Option Nat) = some 0 from rfl), if_pos rfl]; rfl
      · rw [if_neg (show ¬ (some 1 : Option Nat) = none by decide), if_neg (show ¬ (some 1 : Option Nat) = some 0 by decide), if_pos (show (some 1 : Option Nat) = some 1 from rfl), if_pos rfl]; rfl
      · rw [if_neg (show ¬ (some 2 : Option Nat) = none by decide), if_neg (show ¬ (some 2 : Option Nat) = some 0 by decide), if_neg (show ¬ (some 2 : Option Nat) = some 1 by decide), if_pos (show (some 2 : Option Nat) = some 2 from rfl), if_pos rfl]; rfl
      · rw [if_neg (show ¬ (some 3 : Option Nat) = none by decide), if_neg (show ¬ (some 3 : Option Nat) = some 0 by decide), if_neg (show ¬ (some 3 : Option Nat) = some 1 by decide), if_neg (show ¬ (some 3 : Option Nat) = some 2 by decide), if_pos (show (some 3 : Option Nat) = some 3 from rfl), if_pos rfl]; rfl
    rw [layC]
    exact OT.of (OK.ret (P := fun R => R = _) rfl) (layM sf rfl) (fun a b ha hb => by rw [ha]; exact fin b hb)
  · -- gone back to
    refine OT.negR hq (OT.posR (pn_in2 (by omega) (by omega)) ?_)
    have goC : m_X11_mark many sd sh sm qd qh mm ml mf md ksd ksh ksm kqd kqh kmm laid lf ff dt kf ps mast (nI w) (nI r) wv rv fl (nI m) q = Option.bind (m_X11_goBack many sd sh sm qd qh mm lf ff dt kf ps mast (nI w) (nI r) wv rv fl (ml m) (mf m) (md m) (ksd m) (ksh m) (ksm m) (kqd m) (kqh m) (kmm m) (laid m)) (fun r12 => if r12.1 = 0 ∨ r12.1 = 1 then (some (r12.1, r12.2.1, r12.2.2.1, r12.2.2.2.1, r12.2.2.2.2.1, r12.2.2.2.2.2.1, r12.2.2.2.2.2.2.1, r12.2.2.2.2.2.2.2.1, r12.2.2.2.2.2.2.2.2.1, r12.2.2.2.2.2.2.2.2.2.1, r12.2.2.2.2.2.2.2.2.2.2.1, r12.2.2.2.2.2.2.2.2.2.2.2.1, r12.2.2.2.2.2.2.2.2.2.2.2.2.1, r12.2.2.2.2.2.2.2.2.2.2.2.2.2, laid, md, ml, mf, ksm, ksd, ksh, kmm, kqd, kqh)) else none) := by
      unfold m_X11_mark
      rw [mk_at m (by omega), Option.bind_some]
      rcases (show m = 0 ∨ m = 1 ∨ m = 2 ∨ m = 3 by omega) with rfl | rfl | rfl | rfl
      · rw [if_neg (show ¬ (some 0 : Option Nat) = none by decide), if_pos (show (some 0 : Option Nat) = some 0 from rfl), if_neg hq]
      · rw [if_neg (show ¬ (some 1 : Option Nat) = none by decide), if_neg (show ¬ (some 1 : Option Nat) = some 0 by decide), if_pos (show (some 1 : Option Nat) = some 1 from rfl), if_neg hq]
      · rw [if_neg (show ¬ (some 2 : Option Nat) = none by decide), if_neg (show ¬ (some 2 : Option Nat) = some 0 by decide), if_neg (show ¬ (some 2 : Option Nat) = some 1 by decide), if_pos (show (some 2 : Option Nat) = some 2 from rfl), if_neg hq]
      · rw [if_neg (show ¬ (some 3 : Option Nat) = none by decide), if_neg (show ¬ (some 3 : Option Nat) = some 0 by decide), if_neg (show ¬ (some 3 : Option Nat) = some 1 by decide), if_neg (show ¬ (some 3 : Option Nat) = some 2 by decide), if_pos (show (some 3 : Option Nat) = some 3 from rfl), if_neg hq]
    rw [goC]
    unfold m_X11_goBack
    rcases hKm.2 with h0 | ⟨h1, ⟨⟨L1, F1, d1, g1, g2⟩, ⟨n3, D3, H3, g3, g3'⟩, ⟨n4, D4, H4, g4, g4'⟩⟩⟩
    · rw [h0, if_pos rfl, Option.bind_some]
      refine OT.posR (by rw [← hKm.1]; exact h0) (OT.posL (Or.inl rfl) ?_)
      exact OT.ret ⟨rfl, hH, ⟨L, F, d, hC, hq0⟩, ⟨sn, sD, sH, hS1, hS2⟩, ⟨mn, mD, mH, hM1, hM2⟩, hK⟩
    · rw [h1, if_neg (show ¬ (1 : Int32) = 0 by decide)]
      refine OT.negR (by rw [← hKm.1, h1]; decide) ?_
      obtain ⟨R1, eR1, hR1⟩ := c_start (lf0 := lf) (ff0 := ff) hT hw g1
      unfold m_X5_copy m_X2_clear
      rw [eR1, Option.bind_some, Option.bind_some, Option.bind_some, Option.bind_some, Option.bind_some]
      refine OT.posL (Or.inr rfl) ?_
      obtain ⟨c, x, -, hx, hnx, -⟩ := hH
      refine OT.of (OK.ret (P := fun R => R = _) rfl) (backM hq) (fun a b ha hb => ?_)
      obtain ⟨r1, r2, r3, r4⟩ := hb
      rw [ha]
      refine ⟨r1.symm, ⟨0, x, by omega, hx, hnx, rfl, r2, fun i hi => by omega⟩, ⟨L1, F1, d1, hR1, g2.moved hT.1 (fun k a b => by rw [r3, if_pos (by omega), Nat.sub_zero])⟩, ⟨n3, D3, H3, g3.cpy, g3'.moved (fun k a b => by rw [r3, if_pos (by omega), show 48 * (1 + m) + k = 48 * (1 + m) + 13 + (k - 13) by omega])⟩, ⟨n4, D4, H4, g4.cpy, g4'.moved (fun k a b => by rw [r3, if_pos (by omega), show 48 * (1 + m) + k = 48 * (1 + m) + 30 + (k - 30) by omega])⟩, ?_⟩
      rw [r4]
      intro j hj
      show laid j = upd im m 1 j ∧ _
      have hj' := hK j hj
      refine ⟨?_, hj'.2.imp id (fun z => ⟨z.1, z.2.keep hT.1 (fun k a b => by rw [r3, if_neg (by omega)])⟩)⟩
      unfold upd
      by_cases e : j = m
      · rw [if_pos e, e, h1]
      · rw [if_neg e]; exact hj'.1
theorem l_high (hQ : QT G tf op ar) (hw : wOK w r) (hN : NC G w r wv rv fl dt lf ff sf) : OT (m_X11_high fl) (m_X12_high tf sf (nI w) (nI r)) (fun R R' => R = R'.1) := by
  obtain ⟨L, F, d, h1, h2⟩ := hN
  unfold m_X11_high m_X12_high
  exact OT.eqR (q_hi0 hQ hw h2) (OT.ret h1.2.2.1)
theorem l_count {tl sm mm lv taped : Int32} {yl : Nat → Int32} (hT : CT G kf st size ps mast) (hQ : QT G tf op ar) (t2 : tf 2 = nI w) (t3 : tf 3 = nI r) (h : NW G lf ff dt sf) (htl : tl = taped) (hsm : sm = sf 13) (hmm : mm = sf 30) (hmu : many = undos) (hlv : lv = yl 0) (v : Int32) :
    OT (m_X11_count tl many sm mm lf dt kf ps mast (nI w) (nI r) lv v) (m_X12_count taped tf yl sf undos v) (fun R R' => R = R'.1) := by
  have hw' := l_who hT hQ h
  obtain ⟨L, F, d, h1, h2⟩ := h
  unfold m_X11_count m_X12_count
  have e5 : m_X12_lacksAll tf sf 0 = some (nI (sumL L G.1)) := q_lackAll (b := 0) hQ (by omega) h2
  rw [c_lackAll hT h1, e5, c_all hT h1, q_all hQ h2]
  refine OT.ite Iff.rfl (fun e => ?_) (fun _ => OT.ite Iff.rfl (fun e => ?_) (fun _ => OT.ite Iff.rfl (fun e => ?_) (fun _ => OT.ite Iff.rfl (fun e => ?_) (fun _ => ?_))))
  · subst e; exact OT.posR (by decide) (OT.ret (hT.2.1.trans hQ.2.1.symm))
  · subst e; exact OT.posR (by decide) (OT.ret (hT.2.2.1.trans hQ.2.2.1.symm))
  · subst e; exact OT.posR (by decide) (OT.ret t2.symm)
  · subst e; exact OT.posR (by decide) (OT.ret t3.symm)
  refine OT.ite Iff.rfl (fun _ => OT.ret (h1.2.1.trans h2.2.1.symm)) (fun _ => OT.ite Iff.rfl (fun _ => OT.eqL rfl (OT.eqR rfl (OT.ret rfl))) (fun _ => OT.ite Iff.rfl (fun _ => OT.eqL rfl (OT.eqR rfl (OT.ret rfl))) (fun _ => OT.ite Iff.rfl (fun _ => OT.bd hw' (fun a b hab => OT.ret hab)) (fun _ => OT.ite Iff.rfl (fun _ => OT.ret hlv) (fun _ => OT.ite Iff.rfl (fun _ => OT.ret hsm) (fun _ => OT.ite Iff.rfl (fun _ => OT.ret hmm) (fun _ => OT.ite Iff.rfl (fun _ => OT.ret hmu) (fun _ => OT.ite Iff.rfl (fun _ => OT.ret htl) (fun _ => OT.ret rfl)))))))))
end MARKS
