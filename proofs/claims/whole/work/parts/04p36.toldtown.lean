/-! PURE: a town told -/
section TOLDTOWN
variable {Z : Nat} {T : Nat → Nat} {sg tp nl nff laid so0 pl0 tf op ar yl sf im dk dl df dst dstk : Nat → Int32} {ln tn pc sc nu hm sm mm nd nw nr nfl tl at0 fm0 m1 un we ro : Int32} {va0 wf nm rn dn : Nat → Int64} {le gg : Int64} {wd here draft : Nat} {nt : Value}
theorem c_move {G : Gm} {w r : Nat} {L F : Nat → Nat} {kf st bl bf : Nat → Int32} {size ps mast bd : Int32} (hT : CT G kf st size ps mast) (hw : wOK w r) (h : CS G L F 0 bl bf bd) : OK (m_X11_moveToDraft laid nl nff nd nw nr nfl kf bl bf bd ps mast (nI w) (nI r)) (fun R => R.1 = 0 ∧ R.2.1 = 0 ∧ R.2.2.1 = 0 ∧ CC G w r L F 0 R.2.2.2.1 R.2.2.2.2.1 R.2.2.2.2.2.1 R.2.2.2.2.2.2.1 R.2.2.2.2.2.2.2.1 R.2.2.2.2.2.2.2.2.1 ∧ R.2.2.2.2.2.2.2.2.2.1 = 0 ∧ ∀ m, m < 4 → R.2.2.2.2.2.2.2.2.2.2 m = 0) := by
  have hFU := FU_ge
  unfold m_X11_moveToDraft
  revert hFU; generalize FU = fu; intro hFU
  obtain ⟨fu, rfl⟩ : ∃ k, fu = k + 5 := ⟨fu - 5, by omega⟩
  show OK (Option.bind (m_X1_start nl nff kf ps mast (nI w) (nI r) bl bf bd) (fun r7 => some ((0 : Int32), (0 : Int32), (0 : Int32), r7.1, r7.2.1, r7.2.2.1, r7.2.2.2.1, r7.2.2.2.2.1, r7.2.2.2.2.2, (0 : Int32), va_up (va_up (va_up (va_up laid 0 0) 1 0) 2 0) 3 0))) _
  refine OK.bd (c_start hT hw h) (fun R hR => OK.ret ⟨rfl, rfl, rfl, hR, rfl, fun m hm => ?_⟩)
  rcases (show m = 0 ∨ m = 1 ∨ m = 2 ∨ m = 3 by omega) with rfl | rfl | rfl | rfl <;> rfl
abbrev CW35 := Int32 × Nat × Nat × Int32 × Int32 × Int32 × Int32 × Int32 × Int64 × Nat × Int32 × Int32 × Int32 × Int32 × Value × Int32 × Int32 × Int32 × Int32 × (Nat → Int32) × (Nat → Int32) × Int32 × Int32 × Int32 × Int32 × Int32 × (Nat → Int64) × (Nat → Int32) × Int32 × (Nat → Int32) × (Nat → Int32) × Int32 × (Nat → Int32) × Int32 × (Nat → Int32)
/-- what telling a town does on both sides -/
def TWE (here draft : Nat) (hm sm mm : Int32) (nt : Value) (nw nr nfl nd : Int32) (nl nff : Nat → Int32) (tl : Int32) (laid : Nat → Int32) (m1 un we ro : Int32) (tf op ar : Nat → Int32) (nm : Nat → Int64) (yl sf im : Nat → Int32) (R : CW35) (R' : QT24) : Prop :=
  R.1 = R'.1 ∧ R.2.2.2.1 = 0 ∧ R'.2.1 = 0 ∧ R'.2.2.1 = 0 ∧
  ((¬ R.1 = 0 ∧ R.2.1 = here ∧ R.2.2.1 = draft ∧ R.2.2.2.2.2.2.2.2.2.2.2.1 = hm ∧ R.2.2.2.2.2.2.2.2.2.2.2.2.1 = sm ∧ R.2.2.2.2.2.2.2.2.2.2.2.2.2.1 = mm ∧ R.2.2.2.2.2.2.2.2.2.2.2.2.2.2.1 = nt ∧ R.2.2.2.2.2.2.2.2.2.2.2.2.2.2.2.1 = nw ∧ R.2.2.2.2.2.2.2.2.2.2.2.2.2.2.2.2.1 = nr ∧ R.2.2.2.2.2.2.2.2.2.2.2.2.2.2.2.2.2.1 = nfl ∧ R.2.2.2.2.2.2.2.2.2.2.2.2.2.2.2.2.2.2.1 = nd ∧ R.2.2.2.2.2.2.2.2.2.2.2.2.2.2.2.2.2.2.2.1 = nl ∧ R.2.2.2.2.2.2.2.2.2.2.2.2.2.2.2.2.2.2.2.2.1 = nff ∧ R.2.2.2.2.2.2.2.2.2.2.2.2.2.2.2.2.2.2.2.2.2.2.2.2.2.2.2.2.2.2.2.2.2.1 = tl ∧ R.2.2.2.2.2.2.2.2.2.2.2.2.2.2.2.2.2.2.2.2.2.2.2.2.2.2.2.2.2.2.2.2.2.2 = laid ∧ R'.2.2.2.2.2.2.2.1 = m1 ∧ R'.2.2.2.2.2.2.2.2.2.2.1 = un ∧ R'.2.2.2.2.2.2.2.2.2.2.2.1 = we ∧ R'.2.2.2.2.2.2.2.2.2.2.2.2.1 = ro ∧ R'.2.2.2.2.2.2.2.2.2.2.2.2.2.2.2.2.2.2.2.1 = nm ∧ R'.2.2.2.2.2.2.2.2.2.2.2.2.2.2.2.2.2.2.2.2.2.1 = yl ∧ R'.2.2.2.2.2.2.2.2.2.2.2.2.2.2.2.2.2.2.2.2.2.2.1 = sf ∧ R'.2.2.2.2.2.2.2.2.2.2.2.2.2.2.2.2.2.2.2.2.2.2.2 = im ∧ (∀ k, k < 1100 → R'.2.2.2.2.2.2.2.2.2.2.2.2.2.2.2.2.2.1 k = op k ∧ R'.2.2.2.2.2.2.2.2.2.2.2.2.2.2.2.2.2.2.1 k = ar k) ∧ ∀ k, k < 30 → R'.2.2.2.2.2.2.2.2.2.2.2.2.2.2.2.2.1 k = tf k) ∨
   (R.1 = 0 ∧ R.2.1 = draft ∧ R.2.2.1 = here ∧ R.2.2.2.2.2.2.2.2.2.2.2.1 = 0 ∧ R.2.2.2.2.2.2.2.2.2.2.2.2.1 = 0 ∧ R.2.2.2.2.2.2.2.2.2.2.2.2.2.1 = 0 ∧ R.2.2.2.2.2.2.2.2.2.2.2.2.2.2.1 = .ref draft ∧ R.2.2.2.2.2.2.2.2.2.2.2.2.2.2.2.2.2.2.2.2.2.2.2.2.2.2.2.2.2.2.2.2.2.1 = 0 ∧ (∀ m, m < 4 → R.2.2.2.2.2.2.2.2.2.2.2.2.2.2.2.2.2.2.2.2.2.2.2.2.2.2.2.2.2.2.2.2.2.2 m = 0) ∧ ∃ (G : Gm) (w r : Nat) (L F : Nat → Nat), CC G w r L F 0 R.2.2.2.2.2.2.2.2.2.2.2.2.2.2.2.1 R.2.2.2.2.2.2.2.2.2.2.2.2.2.2.2.2.1 R.2.2.2.2.2.2.2.2.2.2.2.2.2.2.2.2.2.1 R.2.2.2.2.2.2.2.2.2.2.2.2.2.2.2.2.2.2.1 R.2.2.2.2.2.2.2.2.2.2.2.2.2.2.2.2.2.2.2.1 R.2.2.2.2.2.2.2.2.2.2.2.2.2.2.2.2.2.2.2.2.1 ∧ NT G w r L F R.2.2.2.2.2.2.2.2.2.2.2.2.2.2.2.2.2.2.2.2.2.1 R.2.2.2.2.2.2.2.2.2.2.2.2.2.2.2.2.2.2.2.2.2.2.1 R.2.2.2.2.2.2.2.2.2.2.2.2.2.2.2.2.2.2.2.2.2.2.2.1 R.2.2.2.2.2.2.2.2.2.2.2.2.2.2.2.2.2.2.2.2.2.2.2.2.1 R.2.2.2.2.2.2.2.2.2.2.2.2.2.2.2.2.2.2.2.2.2.2.2.2.2.2.1 R.2.2.2.2.2.2.2.2.2.2.2.2.2.2.2.2.2.2.2.2.2.2.2.2.2.2.2.1 R.2.2.2.2.2.2.2.2.2.2.2.2.2.2.2.2.2.2.2.2.2.2.2.2.2.2.2.2.1 R.2.2.2.2.2.2.2.2.2.2.2.2.2.2.2.2.2.2.2.2.2.2.2.2.2.2.2.2.2.1 R.2.2.2.2.2.2.2.2.2.2.2.2.2.2.2.2.2.2.2.2.2.2.2.2.2.2.2.2.2.2.1 R.2.2.2.2.2.2.2.2.2.2.2.2.2.2.2.2.2.2.2.2.2.2.2.2.2.2.2.2.2.2.2.1 R.2.2.2.2.2.2.2.2.2.2.2.2.2.2.2.2.2.2.2.2.2.2.2.2.2.2.2.2.2.2.2.2.1 R'.2.2.2.2.2.2.2.1 R'.2.2.2.2.2.2.2.2.2.2.1 R'.2.2.2.2.2.2.2.2.2.2.2.1 R'.2.2.2.2.2.2.2.2.2.2.2.2.1 R'.2.2.2.2.2.2.2.2.2.2.2.2.2.2.2.2.1 R'.2.2.2.2.2.2.2.2.2.2.2.2.2.2.2.2.2.1 R'.2.2.2.2.2.2.2.2.2.2.2.2.2.2.2.2.2.2.1 R'.2.2.2.2.2.2.2.2.2.2.2.2.2.2.2.2.2.2.2.1 R'.2.2.2.2.2.2.2.2.2.2.2.2.2.2.2.2.2.2.2.2.2.1 R'.2.2.2.2.2.2.2.2.2.2.2.2.2.2.2.2.2.2.2.2.2.2.1 R'.2.2.2.2.2.2.2.2.2.2.2.2.2.2.2.2.2.2.2.2.2.2.2))
theorem l_town (hT : TP Z T sg tp ln tn) (hw : ∀ j, j < 26 → wf j = wdM j) : OT (m_X11_town sg ln pc sc nu le wd hm sm mm laid nl nff nd nt nw nr nfl here draft dn dk dl df dst dstk tl) (m_X12_town tp tn so0 pl0 va0 at0 fm0 wf tf op ar nm rn m1 yl sf un im we ro gg) (TWE here draft hm sm mm nt nw nr nfl nd nl nff tl laid m1 un we ro tf op ar nm yl sf im) := by
  unfold m_X11_town m_X12_town m_X8_read
  have etn : tn = nI Z := hT.2.2.1
  refine OT.bdR (q_cut hT) (fun R hR => ?_)
  obtain ⟨h1, h2, h3, h4, N, P, hA⟩ := hR
  rw [h1, h2, h3, h4]
  have hC : CX Z N T P sg tp ln R.2.2.2.2.1 R.2.2.2.2.2.1 R.2.2.2.2.2.2 wf := ⟨by rw [← etn]; exact hT, hA, hw⟩
  have hN := hC.bnd
  have hFU := FU_ge
  unfold m_X12_standsAsAlways
  refine OT.bdR (q_stands (tf := tf) 30 0 FU tf (by omega) (by omega) (fun j hj => by omega) (fun _ _ => rfl)) (fun V hV => ?_)
  obtain ⟨v1, v2, v3, v4, v5⟩ := hV
  simp only [Option.bind_assoc]
  refine OT.bdL c_clear8 (fun S hS => OT.bdL (a_begin hC) (fun U hU => ?_))
  obtain ⟨s1, s2, s3, s4, s5, s6, s7, s8, s9, s10, s11, s12⟩ := hS
  rw [s1, s2, s3, s4, s5, s6, s9]
  refine OT.thL (town_loop (bd := 0) (th := 0) (ta := 0) (sz := nI Z) (m1 := m1) (un := un) (we := we) (ro := ro) (nm := nm) (yl := yl) (sf := sf) (im := im) (stk := dstk) (gg := gg) (tf0 := tf) (op0 := op) (ar0 := ar) hC (Q := TQ 0 0 (nI Z) m1 un we ro tf op ar nm yl sf im) (fun n ps mast wv rv on nf kf bl bf size st pc be sc nu le wd fa at_ fm codes rm onc tf op ar rn z1 z2 z3 z4 => t_end n ps mast wv rv on nf kf bl bf size st pc be sc nu le wd fa at_ fm codes rm onc tf op ar rn z1 z2 z3 z4) (N + 1) FU FU 0 0 0 40 6 0 0 _ _ _ _ 3 _ _ _ _ _ _ _ _ _ _ 0 0 0 V op ar rn (fun _ => by omega) (by omega) (by omega) (fun _ => by omega) hU.2 (fun _ => ⟨0, fun _ => 0, fun _ => 0, fun _ => 0, 40, 6, 0, 0, ⟨rfl, rfl, v5 30 (by omega) (by omega) (by omega) (by omega) (by omega), ⟨by omega, fun j hj => by omega⟩, fun j hj => by omega, fun j hj => ⟨show (0 : Nat) ≤ 60 by omega, s7 j hj⟩, fun j hj => ⟨show (0 : Nat) < 2 ^ 0 by decide, s8 j hj, v5 (37 + 3 * j) (by omega) (by omega) (by omega) (by omega) (by omega)⟩⟩, ⟨by omega, ⟨by omega, by omega, by omega⟩, rfl, v2, rfl, v3, rfl, v5 33 (by omega) (by omega) (by omega) (by omega) (by omega)⟩, ⟨by omega, rfl, rfl, Or.inl ⟨by omega, v4, rfl, rfl, s10, s11, s12⟩⟩⟩) (fun k _ => ⟨rfl, rfl⟩) v1) (fun A B hAB => ?_)
  obtain ⟨q1, q2, q3, q4, q5, q6⟩ := hAB
  rcases q6 with ⟨z, at', fm', co, rm', onc', so', pl', va', tf', op', ar', rn', eB, b1, b2⟩ | ⟨z, G, w, r, L, F, at', fm', co, m1', rm', onc', un', we', ro', so', pl', va', tf', op', ar', nm', rn', yl', sf', im', eB, hNT⟩
  · refine OK.neg z (OK.ret ⟨q1, q2, q3, q4, Or.inl ⟨z, rfl, rfl, rfl, rfl, rfl, rfl, rfl, rfl, rfl, rfl, rfl, rfl, rfl, rfl, ?_⟩⟩)
    rw [eB]
    exact ⟨rfl, rfl, rfl, rfl, rfl, rfl, rfl, rfl, b1, b2⟩
  · refine OK.pos z ?_
    have hNT' := hNT
    obtain ⟨c1, c2, c3, c4, c5, -, -, -, -, c10, -⟩ := hNT'
    rw [c4, c5]
    refine OK.bd (c_move c1 c3 c10.1) (fun D hD => OK.ret ⟨q1, q2, q3, q4, Or.inr ⟨z, rfl, rfl, hD.1, hD.2.1, hD.2.2.1, rfl, hD.2.2.2.2.1, hD.2.2.2.2.2, G, w, r, L, F, hD.2.2.2.1, ?_⟩⟩)
    rw [eB]
    rw [c4, c5] at hNT
    exact hNT
end TOLDTOWN
