/-! PURE: lines told once, and any line -/
theorem once_n1 : ∀ o : Nat, o < 16 → ∀ i : Nat, i < 4 → ((nI o &&& nI (2 ^ i)) = 0 ↔ o.testBit i = false) ∧ (((nI o >>> (nI i &&& 31)) &&& 1) = 1 ↔ o.testBit i = true) ∧ nI o ||| nI (2 ^ i) = nI (o ||| 2 ^ i) ∧ nI o ||| (1 <<< (nI i &&& 31)) = nI (o ||| 2 ^ i) := by decide +kernel
theorem once_n2 : ∀ o : Nat, o < 16 → ∀ i : Nat, i < 4 → o ||| 2 ^ i < 16 ∧ (i < 3 → (o ||| 2 ^ i < 8 ↔ o < 8)) := by decide +kernel
theorem once_n3 : ∀ o : Nat, o < 16 → 8 ≤ o ||| 2 ^ 3 ∧ (o.testBit 3 = false → o < 8) := by decide +kernel
theorem k_line : ∀ wd : Nat, wd < 27 → ¬ (wOrdf wd < 0 ∨ 27 ≤ (wOrdf wd).toNatClampNeg) ∧ (wSm (wOrdf wd).toNatClampNeg = 5 ↔ wd = 1) ∧ (wSm (wOrdf wd).toNatClampNeg = 6 ↔ wd = 3) ∧ (wSm (wOrdf wd).toNatClampNeg = 7 ↔ wd = 4) ∧ (wSm (wOrdf wd).toNatClampNeg = 8 ↔ wd = 5) ∧ (wSm (wOrdf wd).toNatClampNeg = 9 ↔ wd = 6) ∧ (wSm (wOrdf wd).toNatClampNeg = 10 ↔ wd = 7) := by decide +kernel
section ONCE
variable {Z N n k M w r o : Nat} {T P : Nat → Nat} {K L F : Nat → Nat} {sg tp so pl st stk op ar kf bl bf tf : Nat → Int32} {ln : Int32} {va wf nf rn nm : Nat → Int64} {pc be sc nu fa at_ fm size codes ps rm mast wv rv on onc : Int32} {le : Int64} {wd : Nat} {th ta sz m1 un we ro : Int32} {gg : Int64}
theorem DL.more {i : Nat} {t' : Nat → Int32} (hi : i < 3) (h : DL o on onc st size tf op ar codes) (e : t' 34 = tf 34) : DL (o ||| 2 ^ i) (nI (o ||| 2 ^ i)) (nI (o ||| 2 ^ i)) st size t' op ar codes := by
  obtain ⟨h1, h2, h3, h4⟩ := h
  obtain ⟨g5, g6⟩ := once_n2 o h1 i (by omega)
  have g6 := g6 hi
  refine ⟨g5, rfl, rfl, ?_⟩
  rw [e]
  rcases h4 with ⟨a1, a2⟩ | ⟨a1, a2⟩
  · exact Or.inl ⟨g6.mpr a1, a2⟩
  · exact Or.inr ⟨by omega, a2⟩
/-- the class begins what is told once -/
theorem c_once_bad (hf : ¬ fa = 0) {t : Int32} {s4 : Int32} {w4 : Nat} : m_X8_beginOnce_14 sg ln t on pc be s4 nu le w4 fa = some (on ||| t, pc, be, s4, nu, le, w4, fa) := by
  unfold m_X8_beginOnce_14
  rw [a_stay hf, Option.bind_some]
theorem t_line (hC : CX Z N T P sg tp ln so pl va wf) (hP : DP k K L F ps rm nf rn kf bl bf tf) (hO : DO M w r mast wv rv tf) (hL : DL o on onc st size tf op ar codes) (h : PA T P Z N n pc be sc nu le wd fa at_ fm) (h0 : fa = 0) (hn : n < N) : OT (m_X8_readLine nf kf bl bf st stk size ps mast wv rv on sg ln pc be sc nu le wd fa) (m_X12_readLine th ta sz so pl va at_ fm wf tf op ar codes nm rn m1 rm onc un we ro gg) (LN T P Z N n tf op ar) := by
  have hN := hC.bnd
  have h27 := h.wd27
  have hfm : fm = 0 := by rw [← h.1]; exact h0
  have hfm' : fm ≤ 0 := by rw [hfm]; decide
  obtain ⟨k0, k5, k6, k7, k8, k9, k10⟩ := k_line wd h27
  obtain ⟨b0, -, f0, i0, -⟩ := a_word hC h (j := 0) (by omega)
  obtain ⟨b2, -, f2, i2, -⟩ := a_word hC h (j := 2) (by omega)
  unfold m_X8_readLine m_X12_readLine
  refine OT.posL h27 (OT.posL k0 (OT.eqR f0 ?_))
  by_cases w1 : wd = 1
  · refine OT.posL (k5.mpr w1) (OT.negR (by rw [i0.mpr w1]; decide) (OT.bd (t_person hC hP h h0 hn) (fun R R' hR => OT.ret ?_)))
    obtain ⟨n', a1, a2, a3, a4⟩ := hR
    refine ⟨n', a1, a2, fun z => ?_, fun _ _ => ⟨rfl, rfl⟩, a4⟩
    obtain ⟨k', K', L', c1, c2⟩ := a3 z
    exact ⟨k', K', L', F, M, w, r, o, c1, hO.same (c2 31 (by omega) (by omega)) (c2 32 (by omega) (by omega)) (c2 33 (by omega) (by omega)), hL.same (c2 34 (by omega) (by omega))⟩
  · have b0f : b0 = false := by
      cases b0 with
      | false => rfl
      | true => exact absurd (i0.mp rfl) w1
    refine OT.negL (fun z => w1 (k5.mp z)) (OT.posR (by rw [b0f]; rfl) (OT.eqR f2 ?_))
    by_cases w3 : wd = 3
    · refine OT.posL (k6.mpr w3) (OT.negR (by rw [i2.mpr w3]; decide) (OT.thL (t_feels (codes := codes) (onc := onc) (op := op) (ar := ar) hC hP h h0 hn rfl) (fun R R' hR => OK.ret ?_)))
      obtain ⟨n', a1, a2, a3, a4, a5, a6, a7, a8, a9, a10⟩ := hR
      refine ⟨n', a1, a2, fun z => ?_, fun _ _ => by rw [a7, a8]; exact ⟨rfl, rfl⟩, fun i hi => a10 i (by omega)⟩
      obtain ⟨F', c1⟩ := a3 z
      refine ⟨k, K, L, F', M, w, r, o, ?_, hO.same (a10 31 (by omega)) (a10 32 (by omega)) (a10 33 (by omega)), ?_⟩
      · rw [a5, a9]; exact c1
      · rw [a4, a6, a7, a8]; exact hL.same (a10 34 (by omega))
    · have b2f : b2 = false := by
        cases b2 with
        | false => rfl
        | true => exact absurd (i2.mp rfl) w3
      refine OT.negL (fun z => w3 (k6.mp z)) (OT.posR (by rw [b2f]; rfl) ?_)
      unfold m_X12_readOnce
      rw [show m_X12_wordHere so va at_ fm wf 3 4 = _ from q_wordHere hC h (a := 3) (m := 4) (by omega), Option.bind_some]
      obtain ⟨v1, v2, v3⟩ := wH_neg (a := 3) (b := 3 + 4) h27
      by_cases w4 : 3 < wd ∧ wd ≤ 3 + 4
      · rw [if_pos (v1.mpr w4)]
        have ewh : wH wd 3 (3 + 4) = nI (wd - 4) := by
          unfold wH; rw [if_pos w4]; congr 1
        rw [ewh]
        obtain ⟨o16, hon, honc, hlaw⟩ := hL
        subst hon
        subst honc
        obtain ⟨g1, g2, g3, g4⟩ := once_n1 o o16 (wd - 4) (by omega)
        obtain ⟨g5, g6⟩ := once_n2 o o16 (wd - 4) (by omega)
        unfold m_X8_beginOnce
        by_cases tb : o.testBit (wd - 4) = true
        · -- told before
          rw [if_pos (g2.mpr tb)]
          obtain ⟨S, S', s1, s2, s3, s4⟩ := a_bad hC h (k := 3) (by omega) (by omega)
          have s0 := ne0_of_pos s3
          obtain ⟨t1, t2⟩ : S.1 = 4 ∧ S.2.1 = 0 := by
            rcases s4.2.2.2 with ⟨z, -⟩ | ⟨-, z⟩
            · exact absurd z s0
            · exact z
          have q1 : ¬ S' ≤ 0 := fun z => by rw [← s4.1] at z; exact s0 (s4.pos.1.mp z)
          have ng : ¬ (nI o &&& nI (2 ^ (wd - 4))) = 0 := fun z => by rw [g1.mp z] at tb; cases tb
          rw [show m_X12_wrong pl at_ fm 3 = _ from s2, Option.bind_some]
          unfold m_X12_readOnce_36
          rw [if_neg q1, Option.bind_some]
          rw [t1, t2] at s4
          have fin : ∀ (a1 a2 a3 a4 a5 : Int32) (a6 : Nat → Int64) (a7 a8 a9 : Nat → Int32) (a10 : Int32) (a11 : Nat → Int32), OT (some ((a1, a2, a3, a4, a5, a6, a7, a8, a9, a10, a11, pc, be, 4, nu, le, 0, S.2.2) : CL18)) (some ((at_, S', codes, rm, nI o, tf, op, ar, rn) : QL9)) (LN T P Z N n tf op ar) := fun _ _ _ _ _ _ _ _ _ _ _ => OT.ret ⟨n, by omega, s4, fun z => absurd z s0, fun _ _ => ⟨rfl, rfl⟩, fun _ _ => rfl⟩
          rcases (show wd = 4 ∨ wd = 5 ∨ wd = 6 ∨ wd = 7 by omega) with e | e | e | e
          · subst e
            refine OT.posL (k7.mpr rfl) (OT.eqL (a := (nI o ||| 1, pc, be, 4, nu, le, 0, S.2.2)) ?_ (OT.eqL (f_takeNumber s0) (fin _ _ _ _ _ _ _ _ _ _ _)))
            rw [if_neg (show ¬ (nI o &&& 1) = 0 from ng), show m_X7_refuse pc sc 4 fa 3 = _ from s1, Option.bind_some, c_once_bad s0, t1, t2]
          · subst e
            refine OT.negL (fun z => by have := k7.mp z; omega) (OT.posL (k8.mpr rfl) (OT.eqL (a := (nI o ||| 2, pc, be, 4, nu, le, 0, S.2.2)) ?_ (OT.eqL (f_takeNumber s0) (fin _ _ _ _ _ _ _ _ _ _ _))))
            rw [if_neg (show ¬ (nI o &&& 2) = 0 from ng), show m_X7_refuse pc sc 5 fa 3 = _ from s1, Option.bind_some, c_once_bad s0, t1, t2]
          · subst e
            refine OT.negL (fun z => by have := k7.mp z; omega) (OT.negL (fun z => by have := k8.mp z; omega) (OT.posL (k9.mpr rfl) (OT.eqL (a := (nI o ||| 4, pc, be, 4, nu, le, 0, S.2.2)) ?_ (OT.eqL (f_takeRounding s0) (fin _ _ _ _ _ _ _ _ _ _ _)))))
            rw [if_neg (show ¬ (nI o &&& 4) = 0 from ng), show m_X7_refuse pc sc 6 fa 3 = _ from s1, Option.bind_some, c_once_bad s0, t1, t2]
          · subst e
            refine OT.negL (fun z => by have := k7.mp z; omega) (OT.negL (fun z => by have := k8.mp z; omega) (OT.negL (fun z => by have := k9.mp z; omega) (OT.posL (k10.mpr rfl) (OT.eqL (a := (nI o ||| 8, pc, be, 4, nu, le, 0, S.2.2)) ?_ (OT.eqL (a := 0) rfl (OT.eqL (f_group s0 35) (fin _ _ _ _ _ _ _ _ _ _ _)))))))
            rw [if_neg (show ¬ (nI o &&& 8) = 0 from ng), show m_X7_refuse pc sc 7 fa 3 = _ from s1, Option.bind_some, c_once_bad s0, t1, t2]
        · -- told for the first time
          rw [if_neg (fun z => tb (g2.mp z))]
          have tbf : o.testBit (wd - 4) = false := by
            cases e : o.testBit (wd - 4) with
            | false => rfl
            | true => exact absurd e tb
          have ps0 : (nI o &&& nI (2 ^ (wd - 4))) = 0 := g1.mpr tbf
          unfold m_X12_readOnce_36 m_X12_readOnce_92 m_X8_beginOnce_14
          rw [if_pos hfm', g4]
          have tf1 : ∀ (j : Nat) (v : Int32) (i : Nat), ¬ i = j → upd tf j v i = tf i := fun j v i hi => by unfold upd; rw [if_neg hi]
          have hL' : DL o (nI o) (nI o) st size tf op ar codes := ⟨o16, rfl, rfl, hlaw⟩
          rcases (show wd = 4 ∨ wd = 5 ∨ wd = 6 ∨ wd = 7 by omega) with e | e | e | e
          · subst e
            refine OT.posL (k7.mpr rfl) ?_
            rw [if_neg (show ¬ (2 : Int32) ≤ nI (4 - 4) by decide), if_pos (show nI (4 - 4) = 0 from rfl), if_pos (show (nI o &&& 1) = 0 from ps0)]
            simp only [Option.bind_assoc, Option.bind_some]
            refine OT.bdL (a_adv hC h h0 hn) (fun R hR => OT.bd (a_takeNumber (lo := 1) (hi := 99) hC hR (by omega) (by omega)) (fun S S' hS => ?_))
            obtain ⟨n', c1, c2, c3⟩ := hS
            rw [if_pos (show ¬ ((31 : Int32) + nI (4 - 4) < 0 ∨ 60 ≤ ((31 : Int32) + nI (4 - 4)).toNatClampNeg) by decide), Option.bind_some]
            refine OT.ret ⟨n', by omega, c3, fun z => ?_, fun _ _ => ⟨rfl, rfl⟩, fun i hi => tf1 31 _ i (by omega)⟩
            obtain ⟨-, -, v, u1, u2, u3, u4⟩ := c2 z
            refine ⟨k, K, L, F, v, w, r, o ||| 2 ^ 0, hP.same (fun i hi => tf1 31 _ i (by omega)), ?_, ?_⟩
            · obtain ⟨x1, x2, x3, x4, x5, x6, x7, x8⟩ := hO
              exact ⟨u2, x2, u3, u4, x5, (tf1 31 S'.1 32 (by omega)).trans x6, x7, (tf1 31 S'.1 33 (by omega)).trans x8⟩
            · have := hL'.more (i := 0) (t' := upd tf 31 S'.1) (by omega) (tf1 31 _ 34 (by omega))
              show DL _ (nI o ||| 1) _ _ _ _ _ _ _
              rw [show nI o ||| 1 = nI (o ||| 2 ^ 0) from g3]
              exact this
          · subst e
            refine OT.negL (fun z => by have := k7.mp z; omega) (OT.posL (k8.mpr rfl) ?_)
            rw [if_neg (show ¬ (2 : Int32) ≤ nI (5 - 4) by decide), if_neg (show ¬ nI (5 - 4) = 0 by decide), if_pos (show (nI o &&& 2) = 0 from ps0)]
            simp only [Option.bind_assoc, Option.bind_some]
            refine OT.bdL (a_adv hC h h0 hn) (fun R hR => OT.bd (a_takeNumber (lo := 1) (hi := 20) hC hR (by omega) (by omega)) (fun S S' hS => ?_))
            obtain ⟨n', c1, c2, c3⟩ := hS
            rw [if_pos (show ¬ ((31 : Int32) + nI (5 - 4) < 0 ∨ 60 ≤ ((31 : Int32) + nI (5 - 4)).toNatClampNeg) by decide), Option.bind_some]
            refine OT.ret ⟨n', by omega, c3, fun z => ?_, fun _ _ => ⟨rfl, rfl⟩, fun i hi => tf1 32 _ i (by omega)⟩
            obtain ⟨-, -, v, u1, u2, u3, u4⟩ := c2 z
            refine ⟨k, K, L, F, M, v, r, o ||| 2 ^ 1, hP.same (fun i hi => tf1 32 _ i (by omega)), ?_, ?_⟩
            · obtain ⟨x1, x2, x3, x4, x5, x6, x7, x8⟩ := hO
              exact ⟨x1, ⟨u1, u2, x2.2.2⟩, x3, (tf1 32 S'.1 31 (by omega)).trans x4, u3, u4, x7, (tf1 32 S'.1 33 (by omega)).trans x8⟩
            · have := hL'.more (i := 1) (t' := upd tf 32 S'.1) (by omega) (tf1 32 _ 34 (by omega))
              show DL _ (nI o ||| 2) _ _ _ _ _ _ _
              rw [show nI o ||| 2 = nI (o ||| 2 ^ 1) from g3]
              exact this
          · subst e
            refine OT.negL (fun z => by have := k7.mp z; omega) (OT.negL (fun z => by have := k8.mp z; omega) (OT.posL (k9.mpr rfl) ?_))
            rw [if_pos (show (2 : Int32) ≤ nI (6 - 4) by decide), if_pos (show nI (6 - 4) = 2 from rfl), if_pos (show (nI o &&& 4) = 0 from ps0)]
            simp only [Option.bind_assoc, Option.bind_some]
            refine OT.bdL (a_adv hC h h0 hn) (fun R hR => OT.bd (a_takeRounding hC hR) (fun S S' hS => ?_))
            obtain ⟨n', c1, c2, c3⟩ := hS
            refine OT.ret ⟨n', by omega, c3, fun z => ?_, fun _ _ => ⟨rfl, rfl⟩, fun i hi => tf1 33 _ i (by omega)⟩
            obtain ⟨-, -, v, u2, u3, u4⟩ := c2 z
            refine ⟨k, K, L, F, M, w, v, o ||| 2 ^ 2, hP.same (fun i hi => tf1 33 _ i (by omega)), ?_, ?_⟩
            · obtain ⟨x1, x2, x3, x4, x5, x6, x7, x8⟩ := hO
              exact ⟨x1, ⟨x2.1, x2.2.1, by omega⟩, x3, (tf1 33 S'.1 31 (by omega)).trans x4, x5, (tf1 33 S'.1 32 (by omega)).trans x6, u3, u4⟩
            · have := hL'.more (i := 2) (t' := upd tf 33 S'.1) (by omega) (tf1 33 _ 34 (by omega))
              show DL _ (nI o ||| 4) _ _ _ _ _ _ _
              rw [show nI o ||| 4 = nI (o ||| 2 ^ 2) from g3]
              exact this
          · subst e
            obtain ⟨y1, y2⟩ := once_n3 o o16
            have o8 := y2 tbf
            have hcod : codes = 0 := by
              rcases hlaw with ⟨-, -, z, -⟩ | ⟨z, -⟩
              · exact z
              · omega
            refine OT.negL (fun z => by have := k7.mp z; omega) (OT.negL (fun z => by have := k8.mp z; omega) (OT.negL (fun z => by have := k9.mp z; omega) (OT.posL (k10.mpr rfl) ?_)))
            rw [if_pos (show (2 : Int32) ≤ nI (7 - 4) by decide), if_neg (show ¬ nI (7 - 4) = 2 by decide), if_pos (show (nI o &&& 8) = 0 from ps0)]
            unfold m_X3_forget
            simp only [Option.bind_assoc, Option.bind_some]
            refine OT.bdL (a_adv hC h h0 hn) (fun R hR => OT.bd (g_all hC 40 0 0 (by omega) (by omega) (by omega) (n + 1) 0 0 st op ar 0 codes _ _ _ _ _ _ _ _ _ ⟨hR, hcod, by omega, fun _ => ⟨rfl, fun _ => 0, rfl, rfl, fun i hi => by omega⟩⟩ (by omega)) (fun S S' hS => ?_))
            obtain ⟨n', y', j1, j2, j3, ⟨p1, p2, p3, p4⟩, j5⟩ := hS
            have hn' := p1.2.1
            have e11 : (1100 : Int32) + nI y' = nI (1100 + y') := nI_add 1100 y'
            unfold m_X12_emit
            rw [p2, e11, nI_clamp (show 1100 + y' < 2 ^ 31 by omega), if_pos (pn_in2 (show 1100 + y' < 2200 by omega) (by omega)), if_pos (pn_in2 (show 1100 + y' < 2200 by omega) (by omega)), Option.bind_some, nI_1]
            refine OT.ret ⟨n', by omega, p1, fun z => ?_, fun q hq => ?_, fun i hi => tf1 34 _ i (by omega)⟩
            · obtain ⟨z1, hg, z2, z3, z4⟩ := p4 z
              refine ⟨k, K, L, F, M, w, r, o ||| 2 ^ 3, hP.same (fun i hi => tf1 34 _ i (by omega)), hO.same (tf1 34 codes 31 (by omega)) (tf1 34 codes 32 (by omega)) (tf1 34 codes 33 (by omega)), g5, g3, rfl, Or.inr ⟨y1, hcod, y', by omega, rfl, z1, ⟨hg, z2, z3, fun i hi => ?_⟩, ?_⟩⟩
              · have e1 : upd S'.2.2.2.1 (1100 + y') 0 (1100 + i) = S'.2.2.2.1 (1100 + i) := by unfold upd; rw [if_neg (by omega)]
                have e2 : upd S'.2.2.2.2 (1100 + y') 0 (1100 + i) = S'.2.2.2.2 (1100 + i) := by unfold upd; rw [if_neg (by omega)]
                show LStep _ (upd S'.2.2.2.1 (1100 + y') 0 (1100 + i)) (upd S'.2.2.2.2 (1100 + y') 0 (1100 + i)) _ _
                rw [e1, e2]
                exact z4 i hi
              · show upd S'.2.2.2.1 (1100 + y') 0 (1100 + y') = 0
                unfold upd; rw [if_pos rfl]
            · have e1 : upd S'.2.2.2.1 (1100 + y') 0 q = S'.2.2.2.1 q := by unfold upd; rw [if_neg (by omega)]
              have e2 : upd S'.2.2.2.2 (1100 + y') 0 q = S'.2.2.2.2 q := by unfold upd; rw [if_neg (by omega)]
              show upd S'.2.2.2.1 (1100 + y') 0 q = op q ∧ upd S'.2.2.2.2 (1100 + y') 0 q = ar q
              rw [e1, e2]
              exact j5 q hq
      · rw [if_neg (fun z => w4 (v1.mp z))]
        simp only [Option.bind_assoc]
        refine OT.negL (fun z => by have := k7.mp z; omega) (OT.negL (fun z => by have := k8.mp z; omega) (OT.negL (fun z => by have := k9.mp z; omega) (OT.negL (fun z => by have := k10.mp z; omega) (OT.bd (a_bad hC h (k := 1) (by omega) (by omega)) (fun R R' hR => ?_)))))
        have q1 : ¬ R' ≤ 0 := fun z => by rw [← hR.2.1] at z; exact ne0_of_pos hR.1 (hR.2.pos.1.mp z)
        unfold m_X12_readOnce_36
        rw [if_neg q1, Option.bind_some]
        exact OT.ret ⟨n, by omega, hR.2, fun z => absurd z (ne0_of_pos hR.1), fun _ _ => ⟨rfl, rfl⟩, fun _ _ => rfl⟩
end ONCE
