/-! PURE: one of the town told -/
section TOLD
variable {Z N n k : Nat} {T P : Nat → Nat} {sg tp so pl : Nat → Int32} {ln : Int32} {va wf f g nm rn : Nat → Int64} {pc be sc nu fa at_ fm q m1 m2 q2 : Int32} {le : Int64} {wd : Nat}
theorem told_bad {x at0 r : Int32} (h1 : ¬ r ≤ 0) (h0 : ¬ r = 0) : m_X12_takeTold_76 so pl va wf nm rn m1 m2 q q2 x at0 r = some (0, at0, r) ∧ m_X12_takeTold_35 so pl va wf nm rn m1 m2 q q2 x at0 r = some (0, at0, r) ∧ m_X12_takeTold_19 so pl va wf nm rn m1 m2 q q2 at0 r = some (0, at0, r) := by
  have e1 : ∀ x, m_X12_takeTold_76 so pl va wf nm rn m1 m2 q q2 x at0 r = some (0, at0, r) := by
    intro x
    unfold m_X12_takeTold_76 m_X12_takeTold_93
    rw [if_neg h1, if_neg h1, Int32.add_zero]
  have e2 : ∀ x, m_X12_takeTold_35 so pl va wf nm rn m1 m2 q q2 x at0 r = some (0, at0, r) := by
    intro x
    unfold m_X12_takeTold_35 m_X12_takeTold_55
    rw [if_neg h0, if_neg h0, e1]
  refine ⟨e1 x, e2 x, ?_⟩
  unfold m_X12_takeTold_19
  rw [if_neg h1, e2]
def hit (q2 : Int32) (j : Nat) : Prop := ((q2 >>> (nI j &&& 31)) &&& 1) = 1
def TD (T P : Nat → Nat) (pl : Nat → Int32) (Z N n k : Nat) (pc be sc nu : Int32) (le : Int64) (wd : Nat) (fa at_ fm q2 : Int32) (R : Int32 × Int32 × Nat × Int32) (R' : Int32 × Int32 × Int32) : Prop :=
  (R.1 = -1 ∧ 0 < R.2.2.2 ∧ R'.1 = 0 ∧ PA T P Z N n pc be R.2.1 nu le R.2.2.1 R.2.2.2 R'.2.1 R'.2.2) ∨ (∃ j, j < k ∧ R = (nI j, sc, wd, fa) ∧ fa = 0 ∧ n < N ∧ ((hit q2 j ∧ R'.1 = 0 ∧ R'.2.1 = at_ ∧ m_X12_wrong pl at_ fm 3 = some R'.2.2) ∨ (¬ hit q2 j ∧ R' = (nI j, at_ + 1, fm))))
theorem a_told (hC : CX Z N T P sg tp ln so pl va wf) (h : PA T P Z N n pc be sc nu le wd fa at_ fm) (hr : NMr k f g) (hq : QNm q k nm rn m1 m2 g) : OT (m_X8_personAt f (nI k) pc sc le wd fa) (m_X12_takeTold so pl va at_ fm wf nm rn m1 m2 q q2) (TD T P pl Z N n k pc be sc nu le wd fa at_ fm q2) := by
  have hN := hC.bnd
  have hpos := h.pos
  have hf := h.1
  have hn := h.2.1
  have ha := h.2.2.1
  obtain ⟨b, e1, e2, e3⟩ := a_name hC h
  unfold m_X8_personAt m_X12_takeTold
  cases b with
  | false =>
    refine OT.eqL e1 (OT.posL rfl ?_)
    unfold m_X8_personAt_19
    refine OT.eqL e1 (OT.posL rfl ?_)
    have key : OT (Option.bind (m_X7_refuse pc sc wd fa 1) (fun r8 => some ((-1 : Int32), r8.1, r8.2.1, r8.2.2))) (Option.bind (m_X12_wrong pl at_ fm 1) (fun r10 => m_X12_takeTold_19 so pl va wf nm rn m1 m2 q q2 at_ r10)) (TD T P pl Z N n k pc be sc nu le wd fa at_ fm q2) := by
      refine OT.bd (a_bad hC h (k := 1) (by omega) (by omega)) (fun R R' hR => ?_)
      have q1 : ¬ R' ≤ 0 := fun z => by rw [← hR.2.1] at z; exact ne0_of_pos hR.1 (hR.2.pos.1.mp z)
      have q0 : ¬ R' = 0 := fun z => by rw [← hR.2.1] at z; exact ne0_of_pos hR.1 z
      rw [(told_bad (x := 0) q1 q0).2.2]
      exact OT.ret (Or.inl ⟨rfl, hR.1, rfl, hR.2⟩)
    by_cases h0 : fa = 0
    · have hfm : fm = 0 := by rw [← hf]; exact h0
      exact OT.posR hfm (OT.eqR e2 (OT.posR rfl key))
    · have hfm : ¬ fm = 0 := by rw [← hf]; exact h0
      have e4 : m_X12_wrong pl at_ fm 1 = some fm := by unfold m_X12_wrong; rw [if_neg hfm]
      rw [e4, Option.bind_some] at key
      exact OT.negR hfm key
  | true =>
    obtain ⟨h0, hn', hl⟩ := e3 rfl
    have hfm : fm = 0 := by rw [← hf]; exact h0
    have hfm' : fm ≤ 0 := by rw [hfm]; decide
    obtain ⟨r, r1, r2, r3⟩ := a_find (show n < 1002 by omega) hl hr hq
    rw [← ha] at r2
    refine OT.eqL e1 (OT.negL (by decide) (OT.eqL r1 (OT.posR hfm (OT.eqR e2 (OT.negR (by decide) ?_)))))
    unfold m_X8_personAt_19 m_X12_takeTold_19
    refine OT.eqL e1 (OT.negL (by decide) (OT.posR hfm' (OT.eqR r2 ?_)))
    unfold m_X12_takeTold_35
    rcases r3 with rfl | ⟨j, hj, rfl⟩
    · refine OT.posL rfl (OT.posR hfm (OT.negR (by decide) (OT.bd (a_bad hC h (k := 2) (by omega) (by omega)) (fun R R' hR => ?_))))
      have q1 : ¬ R' ≤ 0 := fun z => by rw [← hR.2.1] at z; exact ne0_of_pos hR.1 (hR.2.pos.1.mp z)
      have q0 : ¬ R' = 0 := fun z => by rw [← hR.2.1] at z; exact ne0_of_pos hR.1 z
      rw [(told_bad (x := -1) q1 q0).1]
      exact OT.ret (Or.inl ⟨rfl, hR.1, rfl, hR.2⟩)
    · have hk := hr.1
      refine OT.negL (nn1 (by omega)) (OT.posR hfm (OT.posR (nI_le (a := 0) (by omega) (by omega)) ?_))
      unfold m_X12_takeTold_55
      refine OT.posR hfm ?_
      by_cases y : hit q2 j
      · refine OT.posR y ?_
        obtain ⟨R, R', g1, g2, g3, g4⟩ := a_bad hC h (k := 3) (by omega) (by omega)
        have q1 : ¬ R' ≤ 0 := fun z => by rw [← g4.1] at z; exact ne0_of_pos g3 (g4.pos.1.mp z)
        have q0 : ¬ R' = 0 := fun z => by rw [← g4.1] at z; exact ne0_of_pos g3 z
        refine OT.eqR g2 ?_
        rw [(told_bad (x := nI j) q1 q0).1]
        exact OT.ret (Or.inr ⟨j, hj, rfl, h0, hn', Or.inl ⟨y, rfl, rfl, g2⟩⟩)
      · refine OT.negR y ?_
        unfold m_X12_takeTold_76 m_X12_takeTold_93
        exact OT.posR hfm' (OT.posR hfm' (OT.ret (Or.inr ⟨j, hj, rfl, h0, hn', Or.inr ⟨y, rfl⟩⟩)))
theorem hit0 {j : Nat} (hj : j < 6) : ¬ hit 0 j := by
  unfold hit
  have : ∀ j : Nat, j < 6 → ¬ ((0 : Int32) >>> (nI j &&& 31)) &&& 1 = 1 := by decide
  exact this j hj
theorem hit1 {i j : Nat} (hi : i < 6) (hj : j < 6) : hit (1 <<< (nI i &&& 31)) j ↔ j = i := by
  unfold hit
  have : ∀ i : Nat, i < 6 → ∀ j : Nat, j < 6 → ((((1 : Int32) <<< (nI i &&& 31)) >>> (nI j &&& 31)) &&& 1 = 1 ↔ j = i) := by decide
  exact this i hi j hj
/-- what is handed back when one is told -/
def TE (T P : Nat → Nat) (Z N n k : Nat) (fa : Int32) (R : Int32 × Int32 × Int32 × Int32 × Int32 × Int64 × Nat × Int32) (R' : Int32 × Int32 × Int32) : Prop := ∃ n', n ≤ n' ∧ (R.2.2.2.2.2.2.2 = 0 → fa = 0 ∧ n' = n + 1 ∧ ∃ j : Nat, j < k ∧ R.1 = nI j ∧ R'.1 = nI j) ∧ (¬ R.2.2.2.2.2.2.2 = 0 → R'.1 = 0) ∧ PA T P Z N n' R.2.1 R.2.2.1 R.2.2.2.1 R.2.2.2.2.1 R.2.2.2.2.2.1 R.2.2.2.2.2.2.1 R.2.2.2.2.2.2.2 R'.2.1 R'.2.2
theorem a_takePerson (hC : CX Z N T P sg tp ln so pl va wf) (h : PA T P Z N n pc be sc nu le wd fa at_ fm) (hr : NMr k f g) (hq : QNm q k nm rn m1 m2 g) : OT (m_X8_takePerson f (nI k) sg ln pc be sc nu le wd fa) (m_X12_takeTold so pl va at_ fm wf nm rn m1 m2 q 0) (TE T P Z N n k fa) := by
  unfold m_X8_takePerson
  refine OT.thL (a_told (q2 := 0) hC h hr hq) (fun R R' hR => ?_)
  have hk := hr.1
  rcases hR with ⟨g1, g2, g3, g4⟩ | ⟨j, hj, rfl, h0, hn, ⟨y, -⟩ | ⟨-, rfl⟩⟩
  · rw [a_stay (ne0_of_pos g2), Option.bind_some]
    exact OK.ret ⟨n, by omega, fun z => absurd z (ne0_of_pos g2), fun _ => g3, g4⟩
  · exact absurd y (hit0 (by omega))
  · exact OK.bd (a_adv hC h h0 hn) (fun R hR => OK.ret ⟨n + 1, by omega, fun _ => ⟨h0, rfl, j, hj, rfl, rfl⟩, fun z => absurd h0 z, hR⟩)
theorem a_takeOther (hC : CX Z N T P sg tp ln so pl va wf) (h : PA T P Z N n pc be sc nu le wd fa at_ fm) (hr : NMr k f g) (hq : QNm q k nm rn m1 m2 g) {one : Int32} {i : Nat} (hi : fa = 0 → i < 6 ∧ one = nI i ∧ q2 = 1 <<< (nI i &&& 31)) : OT (m_X8_takeOther f (nI k) sg ln pc be sc nu le wd fa one) (m_X12_takeTold so pl va at_ fm wf nm rn m1 m2 q q2) (fun R R' => TE T P Z N n k fa R R' ∧ (R.2.2.2.2.2.2.2 = 0 → ¬ R.1 = nI i)) := by
  unfold m_X8_takeOther m_X8_takeOther_21
  refine OT.thL (a_told (q2 := q2) hC h hr hq) (fun R R' hR => ?_)
  have hk := hr.1
  rcases hR with ⟨g1, g2, g3, g4⟩ | ⟨j, hj, rfl, h0, hn, y⟩
  · rw [a_stay (ne0_of_pos g2), Option.bind_some]
    exact OK.pos g1 (OK.ret ⟨⟨n, by omega, fun z => absurd z (ne0_of_pos g2), fun _ => g3, g4⟩, fun z => absurd z (ne0_of_pos g2)⟩)
  · obtain ⟨hi', rfl, rfl⟩ := hi h0
    refine OK.neg (nn1 (by omega)) ?_
    rcases y with ⟨y1, y2, y3, y4⟩ | ⟨y1, rfl⟩
    · have := (hit1 hi' (by omega)).mp y1
      subst this
      refine OK.pos rfl ?_
      obtain ⟨S, S', s1, s2, s3, s4⟩ := a_bad hC h (k := 3) (by omega) (by omega)
      have eS : S' = R'.2.2 := by
        have := s2.symm.trans y4
        exact Option.some.inj this
      subst eS
      refine OK.eq s1 ?_
      rw [a_stay (ne0_of_pos s3), Option.bind_some]
      exact OK.ret ⟨⟨n, by omega, fun z => absurd z (ne0_of_pos s3), fun _ => y2, by rw [y3]; exact s4⟩, fun z => absurd z (ne0_of_pos s3)⟩
    · have ne : ¬ j = i := fun z => y1 ((hit1 hi' (by omega)).mpr z)
      have ne' : ¬ nI j = nI i := fun z => ne ((nI_eq (by omega) (by omega)).mp z)
      exact OK.neg ne' (OK.bd (a_adv hC h h0 hn) (fun R hR => OK.ret ⟨⟨n + 1, by omega, fun _ => ⟨h0, rfl, j, hj, rfl, rfl⟩, fun z => absurd h0 z, hR⟩, fun _ => ne'⟩))
end TOLD
