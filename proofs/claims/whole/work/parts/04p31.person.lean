/-! PURE: a line that tells a person -/
abbrev CP11 := Int32 × (Nat → Int64) × (Nat → Int32) × (Nat → Int32) × Int32 × Int32 × Int32 × Int32 × Int64 × Nat × Int32
/-- the class behind the name -/
def pX (nf : Nat → Int64) (kf bl : Nat → Int32) (ps : Int32) (sg : Nat → Int32) (ln : Int32) (r12 : Int64 × Int32 × Int32 × Int32 × Int32 × Int64 × Nat × Int32) : Option CP11 :=
  Option.bind (m_X8_takeKind sg ln r12.2.1 r12.2.2.1 r12.2.2.2.1 r12.2.2.2.2.1 r12.2.2.2.2.2.1 r12.2.2.2.2.2.2.1 r12.2.2.2.2.2.2.2) (fun r13 => Option.bind (m_X7_takeWord sg ln r13.2.1 r13.2.2.1 r13.2.2.2.1 r13.2.2.2.2.1 r13.2.2.2.2.2.1 r13.2.2.2.2.2.2.1 r13.2.2.2.2.2.2.2 2) (fun r14 => Option.bind (m_X7_takeNumber sg ln r14.1 r14.2.1 r14.2.2.1 r14.2.2.2.1 r14.2.2.2.2.1 r14.2.2.2.2.2.1 r14.2.2.2.2.2.2 0 60) (fun r15 => if ps < 0 then (m_X8_readPerson_76 sg ln r13.1 r15.1 ps nf kf bl r15.2.1 r15.2.2.1 r15.2.2.2.1 r15.2.2.2.2.1 r15.2.2.2.2.2.1 r15.2.2.2.2.2.2.1 r15.2.2.2.2.2.2.2) else (if 6 ≤ ps then (m_X8_readPerson_76 sg ln r13.1 r15.1 ps nf kf bl r15.2.1 r15.2.2.1 r15.2.2.2.1 r15.2.2.2.2.1 r15.2.2.2.2.2.1 r15.2.2.2.2.2.2.1 r15.2.2.2.2.2.2.2) else (if ¬ (ps < 0 ∨ 6 ≤ ps.toNatClampNeg) then (m_X8_readPerson_76 sg ln r13.1 r15.1 ps (vp_updL nf ps.toNatClampNeg r12.1) kf bl r15.2.1 r15.2.2.1 r15.2.2.2.1 r15.2.2.2.2.1 r15.2.2.2.2.2.1 r15.2.2.2.2.2.2.1 r15.2.2.2.2.2.2.2) else none)))))
section PERSON
variable {Z N n k : Nat} {T P : Nat → Nat} {K L F : Nat → Nat} {sg tp so pl kf bl bf tf : Nat → Int32} {ln : Int32} {va wf nf rn nm : Nat → Int64} {pc be sc nu fa at_ fm ps rm m1 : Int32} {le : Int64} {wd : Nat}
theorem pX_bad (hk : k < 6) {x : Int64} {f : Int32} (hf : ¬ f = 0) : OK (pX nf kf bl (nI k) sg ln (x, pc, be, 4, nu, le, 0, f)) (fun R => R.2.2.2.2 = (pc, be, 4, nu, le, 0, f)) := by
  unfold pX m_X8_readPerson_76
  refine OK.eq (f_takeKind hf) (OK.eq (f_takeWord (j := 1) hf (by omega)) (OK.eq (f_takeNumber hf) (OK.neg (nI_pos (by omega)) (OK.neg (show ¬ (6 : Int32) ≤ nI k from nI_ge (b := 6) hk (by omega)) (OK.pos (nI_in hk (by omega)) (OK.bd (put_any (by omega)) (fun _ _ => OK.bd (put_any (by omega)) (fun _ _ => OK.ret rfl))))))))
/-- what a person's line hands back -/
def PE (T P : Nat → Nat) (Z N n : Nat) (F : Nat → Nat) (bf tf : Nat → Int32) (R : CP11) (R' : Int32 × Int32 × Int32 × (Nat → Int32) × (Nat → Int64)) : Prop := ∃ n', n ≤ n' ∧ PA T P Z N n' R.2.2.2.2.1 R.2.2.2.2.2.1 R.2.2.2.2.2.2.1 R.2.2.2.2.2.2.2.1 R.2.2.2.2.2.2.2.2.1 R.2.2.2.2.2.2.2.2.2.1 R.2.2.2.2.2.2.2.2.2.2 R'.1 R'.2.1 ∧ (R.2.2.2.2.2.2.2.2.2.2 = 0 → ∃ k' K' L', DP k' K' L' F R.1 R'.2.2.1 R.2.1 R'.2.2.2.2 R.2.2.1 R.2.2.2.1 bf R'.2.2.2.1 ∧ ∀ i, 31 ≤ i → i ≤ 34 → R'.2.2.2.1 i = tf i) ∧ ∀ i, i < 30 → R'.2.2.2.1 i = tf i
theorem pX_ok (hC : CX Z N T P sg tp ln so pl va wf) (hD : DP k K L F ps rm nf rn kf bl bf tf) (hk : k < 6) {n0 : Nat} (hn0 : n0 < 1002) {x : Int64} (hx : LR x (va n0)) (h : PA T P Z N n pc be sc nu le wd fa at_ fm) (h0 : fa = 0) (ha : at_ = nI n0 + 1) : OT (pX nf kf bl (nI k) sg ln (x, pc, be, sc, nu, le, wd, fa)) (m_X12_readPerson_53 so pl va wf nm m1 (nI n0) fm (nI k) tf rn) (PE T P Z N n F bf tf) := by
  have hfm : fm = 0 := by rw [← h.1]; exact h0
  unfold pX m_X12_readPerson_53
  rw [nI_clamp (show n0 < 2 ^ 31 by omega), ← ha]
  refine OT.posR (by rw [hfm]; decide) (OT.posR (pn_in2 hn0 (by omega)) (OT.bd (a_takeKind hC h) (fun R R' hR => ?_)))
  obtain ⟨n1, a1, a2, a3⟩ := hR
  unfold m_X12_takeAfter
  simp only [Option.bind_assoc, Option.bind_some]
  refine OT.bd (a_takeWord (j := 1) hC a3 (by omega)) (fun S S' hS => ?_)
  obtain ⟨n2, b1, b2, b3⟩ := hS
  refine OT.bd (a_takeNumber (lo := 0) (hi := 60) hC b3 (by omega) (by omega)) (fun U U' hU => ?_)
  obtain ⟨n3, c1, c2, c3⟩ := hU
  refine OT.negL (nI_pos (by omega)) (OT.negL (show ¬ (6 : Int32) ≤ nI k from nI_ge (b := 6) hk (by omega)) (OT.posL (nI_in hk (by omega)) ?_))
  unfold m_X8_readPerson_76
  rw [p_put (show k < 6 by omega) (by omega), p_put (show k < 6 by omega) (by omega), nI_clamp (show k < 2 ^ 31 by omega), Option.bind_some, Option.bind_some]
  have e35 : (35 : Int32) + 3 * nI k = nI (35 + 3 * k) := i3 35 k
  have e36 : nI (35 + 3 * k) + 1 = nI (36 + 3 * k) := by rw [nI_1]; congr 1; omega
  rw [e35, e36, nI_clamp (show 35 + 3 * k < 2 ^ 31 by omega), nI_clamp (show 36 + 3 * k < 2 ^ 31 by omega)]
  refine OT.itR (fun z => ?_) (fun z => ?_)
  · refine OT.posR (pn_in2 (by omega) (by omega)) (OT.posR (pn_in2 (by omega) (by omega)) (OT.posR (pn_in2 hk (by omega)) (OT.ret ⟨n3, by omega, c3, fun z' => ?_, fun i hi => ?_⟩)))
    · obtain ⟨y1, -, l, -, l2, l3, l4⟩ := c2 z'
      obtain ⟨y2, -⟩ := b2 y1
      obtain ⟨-, -, kd, d1, d2, d3⟩ := a2 y2
      refine ⟨k + 1, setL K k kd, setL L k l, ?_, fun i i1 i2 => ?_⟩
      · have := hD.person hk (kd := kd) (l := l) (by omega) l2 hx
        rw [nI_1]
        dsimp only
        rw [d2, d3, l3, l4]
        exact this
      · show upd (upd (upd tf (35 + 3 * k) _) (36 + 3 * k) _) 30 _ i = tf i
        unfold upd; rw [if_neg (by omega), if_neg (by omega), if_neg (by omega)]
    · show upd (upd (upd tf (35 + 3 * k) _) (36 + 3 * k) _) 30 _ i = tf i
      unfold upd; rw [if_neg (by omega), if_neg (by omega), if_neg (by omega)]
  · refine OT.ret ⟨n3, by omega, c3, fun z' => ?_, fun i hi => rfl⟩
    exact absurd (by rw [← c3.1]; exact z') z
theorem t_person (hC : CX Z N T P sg tp ln so pl va wf) (hD : DP k K L F ps rm nf rn kf bl bf tf) (h : PA T P Z N n pc be sc nu le wd fa at_ fm) (h0 : fa = 0) (hn : n < N) : OT (m_X8_readPerson nf kf bl ps sg ln pc be sc nu le wd fa) (m_X12_readPerson so pl va at_ fm wf tf nm rn m1 rm) (PE T P Z N n F bf tf) := by
  have hN := hC.bnd
  have hk6 := hD.2.2.2.1.1
  have hfm : fm = 0 := by rw [← h.1]; exact h0
  have ha := h.2.2.1
  rw [hD.1, hD.2.1]
  unfold m_X12_readPerson
  by_cases k6 : k = 6
  · unfold m_X8_readPerson
    refine OT.negL (show ¬ nI k < 6 from nI_nlt (b := 6) (by omega) (by omega)) (OT.posR (show nI k = 6 by rw [k6]; rfl) (OT.bd (a_bad hC h (k := 5) (by omega) (by omega)) (fun R R' hR => OT.ret ⟨n, by omega, hR.2, fun z => absurd z (ne0_of_pos hR.1), fun _ _ => rfl⟩)))
  · have hk : k < 6 := by omega
    refine OT.posL (show nI k < 6 from nI_lt (b := 6) hk (by omega)) (OT.negR (show ¬ nI k = 6 from fun z => k6 ((nI_eq (b := 6) (by omega) (by omega)).mp z)) (OT.bdL (a_adv hC h h0 hn) (fun R hR => ?_)))
    obtain ⟨b, e1, e2, e3⟩ := a_name hC hR
    show OT (Option.bind (m_X8_takeNewName nf (nI k) sg ln R.1 R.2.1 R.2.2.1 R.2.2.2.1 R.2.2.2.2.1 R.2.2.2.2.2 fa) (pX nf kf bl (nI k) sg ln)) _ _
    unfold m_X8_takeNewName m_X8_takeNewName_34
    have bad : ∀ q : Nat, 1 ≤ q → q ≤ 5 → OT (Option.bind (Option.bind (m_X7_refuse R.1 R.2.2.1 R.2.2.2.2.2 fa (nI q)) (fun r10 => Option.bind (m_X7_advance sg ln R.1 R.2.1 r10.1 R.2.2.2.1 R.2.2.2.2.1 r10.2.1 r10.2.2) (fun r6 => some (R.2.2.2.2.1, r6.1, r6.2.1, r6.2.2.1, r6.2.2.2.1, r6.2.2.2.2.1, r6.2.2.2.2.2, r10.2.2)))) (pX nf kf bl (nI k) sg ln)) (Option.bind (m_X12_wrong pl (at_ + 1) fm (nI q)) (fun r13 => m_X12_readPerson_53 so pl va wf nm m1 (at_ + 1) r13 (nI k) tf rn)) (PE T P Z N n F bf tf) := by
      intro q q1 q5
      simp only [Option.bind_assoc]
      refine OT.bd (a_bad hC hR q1 q5) (fun S S' hS => ?_)
      have s0 := ne0_of_pos hS.1
      obtain ⟨s1, s2⟩ : S.1 = 4 ∧ S.2.1 = 0 := by
        rcases hS.2.2.2.2 with ⟨z, -⟩ | ⟨-, z⟩
        · exact absurd z s0
        · exact z
      have q1 : ¬ S' ≤ 0 := fun z => by rw [← hS.2.1] at z; exact s0 (hS.2.pos.1.mp z)
      rw [a_stay s0, Option.bind_some, Option.bind_some, s1, s2]
      unfold m_X12_readPerson_53
      refine OT.negR q1 (OT.of (pX_bad hk s0) (Q := fun b => b = (at_ + 1, S', nI k, tf, rn)) (OK.ret rfl) (fun A B hA hB => ?_))
      subst hB
      refine ⟨n + 1, by omega, ?_, fun z => ?_, fun _ _ => rfl⟩
      · rw [hA]
        have := hS.2
        rw [s1, s2] at this
        exact this
      · rw [hA] at z
        exact absurd z s0
    cases b with
    | false =>
      rw [e1, Option.bind_some, if_pos (show chI false = 0 from rfl)]
      exact OT.eqR e2 (OT.posR rfl (bad 1 (by omega) (by omega)))
    | true =>
      obtain ⟨-, hn1, hl⟩ := e3 rfl
      rw [e1, Option.bind_some, if_neg (show ¬ chI true = 0 by decide)]
      obtain ⟨r, r1, r2, r3⟩ := a_find (q := 1) (nm := nm) (m1 := m1) (m2 := nI k) (show n + 1 < 1002 by omega) hl hD.2.2.2.1 (Or.inr ⟨rfl, rfl, rfl⟩)
      rw [← nI_1, ← ha] at r2
      rw [r1, Option.bind_some]
      refine OT.eqR e2 (OT.negR (by decide) (OT.eqR r2 ?_))
      rcases r3 with rfl | ⟨j, hj, rfl⟩
      · rw [if_pos rfl]
        simp only [Option.bind_assoc]
        refine OT.posR (by decide) (OT.bdL (a_adv hC hR h0 hn1) (fun S hS => ?_))
        rw [ha, nI_1]
        rw [Option.bind_some]
        refine OT.imp (pX_ok hC hD hk (n0 := n + 1) (by omega) hl hS h0 (by rw [ha, nI_1])) (fun A B hA => ?_)
        obtain ⟨n', z1, z2⟩ := hA
        exact ⟨n', by omega, z2⟩
      · rw [if_neg (nn1 (by omega))]
        exact OT.negR (nI_pos (by omega)) (bad 3 (by omega) (by omega))
end PERSON
