/-! PURE: a part of the law, and the whole group -/
section PART
variable {Z N n y h d : Nat} {T P : Nat → Nat} {sg tp so pl st stk op ar : Nat → Int32} {ln : Int32} {va wf : Nat → Int64} {pc be sc nu fa at_ fm size codes : Int32} {le : Int64} {wd : Nat} {th ta sz m1 m2 on un we ro : Int32} {gg : Int64} {GC : GCt} {GM : GMt}
theorem PA.wd0 (hP : PA T P Z N n pc be sc nu le wd fa at_ fm) (hs : ¬ sc = 1) : wd = 0 := by
  obtain ⟨-, -, -, h⟩ := hP
  rcases h with ⟨-, s, e, -, -, -, c3, -, c5, -⟩ | ⟨-, -, h⟩
  · exact c5 (fun z => hs (by rw [c3, z]; rfl))
  · exact h
theorem fact_nums : ∀ wd : Nat, wd < 27 → 22 < wd → ¬ (-(nI (wd - 22)) = -13) ∧ -(nI (wd - 22)) = - (nI (wd - 23)) - 1 := by decide
theorem num_13 {v : Nat} (h : v < 2 ^ 31) : ¬ nI v = -13 := fun z => by
  have : (nI v).toInt = (-13 : Int32).toInt := by rw [z]
  rw [nI_toInt h] at this
  have e : (-13 : Int32).toInt = -13 := by decide
  omega
theorem depth_nums : ∀ d : Nat, d ≤ 5 → (nI d < 5 ↔ d < 5) ∧ (nI d = 5 ↔ d = 5) := by decide
theorem g_part (hC : CX Z N T P sg tp ln so pl va wf) (hd : d ≤ 5) (ih0 : d < 5 → GS T P Z N sg ln stk so pl va wf th ta sz m1 m2 on un we ro gg GC GM 0 (d + 1)) (ih4 : d < 5 → GS T P Z N sg ln stk so pl va wf th ta sz m1 m2 on un we ro gg GC GM 4 (d + 1)) (hh : h ≤ 4 * d + 4) (hL : LWP T P Z N n y h st size op ar codes pc be sc nu le wd fa at_ fm) : OT (m_X3_readPart GC st stk size sg ln pc be sc nu le wd fa (nI d)) (m_X12_takePart GM th ta sz so pl va at_ fm wf op ar codes m1 m2 on un we ro gg (nI d)) (LE T P Z N n y (h + 1) d fa op ar) := by
  have hN := hC.bnd
  have hP := hL.1
  have h27 := hP.wd27
  have hpos := hP.pos
  have hf := hP.1
  have hn := hP.2.1
  have ha := hP.2.2.1
  have hcod := hL.2.1
  have hy := hL.2.2.1
  obtain ⟨d5, d5'⟩ := depth_nums d hd
  obtain ⟨b1, e1, f1, i1, g1⟩ := a_word hC hP (j := 19) (by omega)
  obtain ⟨b2, e2, f2, g2⟩ := a_sign hC hP (c := 40) (by omega)
  obtain ⟨w1, w2, w3⟩ := wH_neg (a := 22) (b := 22 + 4) h27
  have hw := q_wordHere hC hP (a := 22) (m := 4) (by omega)
  have bad : ∀ k : Nat, 1 ≤ k → k ≤ 5 → OT (Option.bind (m_X7_refuse pc sc wd fa (nI k)) (fun r26 => some (size, st, pc, be, r26.1, nu, le, r26.2.1, r26.2.2))) (Option.bind (m_X12_wrong pl at_ fm (nI k)) (fun r => some (at_, r, codes, op, ar))) (LE T P Z N n y (h + 1) d fa op ar) := by
    intro k k1 k5
    refine OT.bd (a_bad hC hP k1 k5) (fun R R' hR => OT.ret ⟨n, y, by omega, by omega, fun z => absurd z (ne0_of_pos hR.1), ⟨hR.2, hcod, hy, fun z => absurd z (ne0_of_pos hR.1)⟩, fun k _ => ⟨rfl, rfl⟩⟩)
  unfold m_X3_readPart m_X12_takePart
  by_cases h0 : fa = 0
  · have hfm : fm = 0 := by rw [← hf]; exact h0
    have hfm' : fm ≤ 0 := by rw [hfm]; decide
    obtain ⟨hsz, hSQ⟩ := hL.2.2.2 h0
    have stop : ∀ k : Nat, 1 ≤ k → k ≤ 5 → ∀ x2 x3 : Int32, OT (Option.bind (m_X7_refuse pc sc wd fa (nI k)) (fun r26 => some (size, st, pc, be, r26.1, nu, le, r26.2.1, r26.2.2))) (Option.bind (m_X12_wrong pl at_ fm (nI k)) (fun r => m_X12_takePart_79 GM th ta sz so pl va wf m1 m2 on un we ro gg (nI d) x2 x3 at_ r codes op ar)) (LE T P Z N n y (h + 1) d fa op ar) := by
      intro k k1 k5 x2 x3
      obtain ⟨R, R', r1, r2, r3, r4⟩ := a_bad hC hP k1 k5
      have q1 : ¬ R' ≤ 0 := fun z => by rw [← r4.1] at z; exact ne0_of_pos r3 (r4.pos.1.mp z)
      have := bad k k1 k5
      rw [r2, Option.bind_some] at this ⊢
      unfold m_X12_takePart_79
      rw [if_neg q1]
      exact this
    refine OT.posR hfm' ?_
    rw [ha, nI_clamp (show n < 2 ^ 31 by omega), ← ha]
    refine OT.posR (show ¬ (at_ < 0 ∨ 1002 ≤ n) from by rw [ha]; exact pn_in2 (by omega) (by omega)) ?_
    -- a value: number or fact
    have value : ∀ (v o : Int32) (x2 x3 : Int32) , n < N → b1 = false → b2 = false → (d < 5 → LStep v (if x2 = 0 then 2 else 1) (if x2 = 0 then x3 else (va n).toInt32) h (h + 1)) → OT (m_X3_readPart_67 GC stk sg ln (nI d) v 0 size st pc be sc nu le wd fa) (m_X12_takePart_69 GM th ta sz so pl va wf m1 m2 on un we ro gg (nI d) x2 x3 at_ fm codes op ar) (LE T P Z N n y (h + 1) d fa op ar) := by
      intro v o x2 x3 hn' z1 z2 hl
      unfold m_X3_readPart_67 m_X12_takePart_69
      by_cases y5 : d < 5
      · rw [if_pos (d5.mpr y5), if_neg (show ¬ nI d = 5 from fun z => by have := d5'.mp z; omega)]
        unfold m_X12_takePart_79
        rw [if_pos hfm', show m_X7_atWord wd 20 = _ from e1, show m_X12_hasWord so va at_ fm wf 19 = _ from q_hasWord f1, Option.bind_some, Option.bind_some, z1]
        simp only [chF0, if_true, Bool.false_eq_true, if_false]
        rw [show m_X12_hasSign so va at_ fm 40 = _ from q_hasSign f2, Option.bind_some, z2]
        simp only [chF0, if_true, Bool.false_eq_true, if_false]
        unfold m_X12_takePart_147 m_X12_takePart_165
        rw [ha, nI_clamp (show n < 2 ^ 31 by omega), ← ha]
        have hin : ¬ (at_ < 0 ∨ 1002 ≤ n) := by rw [ha]; exact pn_in2 (by omega) (by omega)
        have key := e_both (fa := fa) (s := v) (o := if x2 = 0 then 2 else 1) (a := if x2 = 0 then x3 else (va n).toInt32) (h' := h + 1) (show y < 1000 by omega) hcod hL.2.2.2 (fun _ => hl y5)
        by_cases x0 : x2 = 0
        · rw [if_pos x0, if_pos x0]
          rw [if_pos x0, if_pos x0] at key
          refine OT.bd key (fun R R' hR => OT.bdL (a_adv hC hP h0 hn') (fun S hS => OT.ret ⟨n + 1, y + 1, by omega, by omega, fun _ => ⟨h0, y5⟩, ⟨hS, hR.1, by omega, hR.2.1⟩, hR.2.2⟩))
        · rw [if_neg x0, if_neg x0, if_pos hin]
          rw [if_neg x0, if_neg x0] at key
          refine OT.bd key (fun R R' hR => OT.bdL (a_adv hC hP h0 hn') (fun S hS => OT.ret ⟨n + 1, y + 1, by omega, by omega, fun _ => ⟨h0, y5⟩, ⟨hS, hR.1, by omega, hR.2.1⟩, hR.2.2⟩))
      · rw [if_neg (show ¬ nI d < 5 from fun z => y5 (d5.mp z)), if_pos (show nI d = 5 from d5'.mpr (by omega))]
        exact stop 5 (by omega) (by omega) _ _
    -- not, or a part in brackets
    have deep : ∀ (x2 x3 v : Int32), n < N → (b1 = true ∨ (b1 = false ∧ b2 = true)) → OT (m_X3_readPart_67 GC stk sg ln (nI d) v 1 size st pc be sc nu le wd fa) (m_X12_takePart_69 GM th ta sz so pl va wf m1 m2 on un we ro gg (nI d) x2 x3 at_ fm codes op ar) (LE T P Z N n y (h + 1) d fa op ar) := by
      intro x2 x3 v hn' hb
      unfold m_X3_readPart_67 m_X12_takePart_69
      by_cases y5 : d < 5
      · rw [if_pos (d5.mpr y5), if_neg (show ¬ nI d = 5 from fun z => by have := d5'.mp z; omega)]
        unfold m_X12_takePart_79
        rw [if_pos hfm', show m_X7_atWord wd 20 = _ from e1, show m_X12_hasWord so va at_ fm wf 19 = _ from q_hasWord f1, Option.bind_some, Option.bind_some]
        rcases hb with rfl | ⟨rfl, rfl⟩
        · simp only [chT0, if_false, if_true]
          rw [nI_1]
          refine OT.bdL (a_adv hC hP h0 hn') (fun R hR => OT.bd (ih4 y5 (n + 1) y h st op ar size codes _ _ _ _ _ _ _ _ _ ⟨hR, hcod, by omega, hL.2.2.2⟩ (by omega)) (fun S S' hS => ?_))
          obtain ⟨n', y', k1, k2, k3, ⟨p1, p2, p3, p4⟩, k5⟩ := hS
          have hn2 := p1.2.1
          refine OT.bd (e_both (s := -5) (o := 3) (a := 0) (h' := h + 1) (show y' < 1000 by omega) p2 p4 (fun z => Or.inr (Or.inr (Or.inl ⟨rfl, rfl, by omega, by have := (k3 z).2; omega, rfl⟩)))) (fun U U' hU => OT.ret ⟨n', y' + 1, by omega, by omega, fun z => ⟨h0, y5⟩, ⟨p1, hU.1, by omega, hU.2.1⟩, fun k hk => ⟨(hU.2.2 k hk).1.trans (k5 k hk).1, (hU.2.2 k hk).2.trans (k5 k hk).2⟩⟩)
        · simp only [chF0, if_true, Bool.false_eq_true, if_false]
          rw [show m_X12_hasSign so va at_ fm 40 = _ from q_hasSign f2, Option.bind_some, if_neg (show ¬ (1 : Int32) = 0 by decide)]
          simp only [chT0, if_false, if_true]
          rw [nI_1]
          refine OT.bdL (a_adv hC hP h0 hn') (fun R hR => OT.bd (ih0 y5 (n + 1) y h st op ar size codes _ _ _ _ _ _ _ _ _ ⟨hR, hcod, by omega, hL.2.2.2⟩ (by omega)) (fun S S' hS => ?_))
          obtain ⟨n', y', k1, k2, k3, ⟨p1, p2, p3, p4⟩, k5⟩ := hS
          refine OT.bd (a_takeSign (c := 41) hC p1 (by omega)) (fun U U' hU => ?_)
          obtain ⟨n2, u1, u2, u3⟩ := hU
          exact OT.ret ⟨n2, y', by omega, by omega, fun z => ⟨h0, y5⟩, ⟨u3, p2, by omega, fun z => p4 (u2 z).1⟩, k5⟩
      · rw [if_neg (show ¬ nI d < 5 from fun z => y5 (d5.mp z)), if_pos (show nI d = 5 from d5'.mpr (by omega))]
        exact stop 5 (by omega) (by omega) _ _
    rcases a_num hC hP with ⟨z1, -, hn', z2, z3, z4, v, hv, v1, v2⟩ | ⟨z1, z2⟩
    · -- a number
      have b1f : b1 = false := by
        cases b1 with
        | false => rfl
        | true => have := i1.mp rfl; omega
      have b2f : b2 = false := by
        cases b2 with
        | false => rfl
        | true => have := (g2 rfl).2.2; rw [z3] at this; exact absurd this (by decide)
      refine OT.eqL z1 (OT.negL (by decide) (OT.posR z2 ?_))
      unfold m_X3_readPart_21 m_X12_takePart_26
      refine OT.eqL e1 (OT.posL (by rw [b1f]; rfl) (OT.eqL e2 (OT.posL (by rw [b2f]; rfl) (OT.eqR hw (OT.negR (fun z => by have := w1.mp z; omega) (OT.negR (by decide) ?_))))))
      unfold m_X3_readPart_46
      refine OT.negL (by rw [v1]; exact num_13 (by omega)) (value nu 0 1 _ hn' b1f b2f (fun y5 => Or.inl ⟨v, by omega, v1, rfl, ?_, by omega, rfl⟩))
      rw [if_neg (by decide), v2, lN_i]
    · -- no number
      refine OT.eqL z1 (OT.posL rfl (OT.eqL (k_fact wd h27) (OT.negR (z2 h0) ?_)))
      unfold m_X3_readPart_21 m_X3_readPart_41 m_X12_takePart_26
      by_cases q : 22 < wd
      · obtain ⟨n1, n2⟩ := fact_nums wd h27 q
        have b1f : b1 = false := by
          cases b1 with
          | false => rfl
          | true => have := i1.mp rfl; omega
        have b2f : b2 = false := by
          cases b2 with
          | false => rfl
          | true => have := hP.wd0 (by rw [(g2 rfl).2.2]; decide); omega
        obtain ⟨bb, -, -, j3, j4⟩ := a_word hC hP (j := wd - 1) (by omega)
        have hn' : n < N := (j4 (j3.mpr (by omega))).2
        refine OT.eqL e1 (OT.posL (by rw [b1f]; rfl) (OT.eqL e2 (OT.posL (by rw [b2f]; rfl) (OT.eqR hw (OT.posR (w1.mpr (by omega)) ?_)))))
        unfold m_X3_readPart_46
        rw [if_pos q]
        refine OT.negL n1 (value _ 0 0 _ hn' b1f b2f (fun y5 => Or.inr (Or.inl ⟨wd - 23, by omega, n2, rfl, ?_, by omega, rfl⟩)))
        rw [if_pos rfl]
        unfold wH
        rw [if_pos (by omega)]
        congr 1
      · rw [if_neg q]
        have nw : ¬ 0 ≤ wH wd 22 (22 + 4) := fun z => by have := w1.mp z; omega
        unfold m_X3_readPart_46
        rw [if_pos (show (-13 : Int32) = -13 from rfl), if_pos (show (-13 : Int32) = -13 from rfl), if_neg (show ¬ (1 : Int32) = 0 by decide), if_pos (show (0 : Int32) = 0 from rfl)]
        refine OT.eqL e1 (OT.eqR hw (OT.negR nw (OT.posR rfl (OT.eqR f2 ?_))))
        cases hb1 : b1 with
        | true =>
          obtain ⟨-, hn'⟩ := g1 hb1
          refine OT.negL (by decide) ?_
          have dd := deep 0 (wH wd 22 (22 + 4)) (-13) hn' (Or.inl hb1)
          rw [show m_X12_isWord so va at_ fm wf 19 = _ from f1, Option.bind_some, hb1]
          rw [if_neg (show ¬ chI true = 0 by decide), same_ite (fun _ => rfl)]
          exact dd
        | false =>
          refine OT.posL rfl (OT.eqL e2 ?_)
          cases hb2 : b2 with
          | true =>
            obtain ⟨-, hn', -⟩ := g2 hb2
            exact OT.negL (by decide) (OT.negR (by decide) (deep 0 (wH wd 22 (22 + 4)) (-13) hn' (Or.inr ⟨hb1, hb2⟩)))
          | false =>
            refine OT.posL rfl (OT.posR rfl (OT.eqR f1 (OT.posR (by rw [hb1]; rfl) ?_)))
            exact stop 1 (by omega) (by omega) _ _
  · have b1f : b1 = false := by
      cases b1 with
      | false => rfl
      | true => exact absurd (g1 rfl).1 h0
    have b2f : b2 = false := by
      cases b2 with
      | false => rfl
      | true => exact absurd (g2 rfl).1 h0
    have wd0 : wd = 0 := by
      rcases hP.2.2.2 with ⟨z, -⟩ | ⟨-, -, z⟩
      · exact absurd z h0
      · exact z
    have hfm : ¬ fm = 0 := by rw [← hf]; exact h0
    have z1 : m_X7_atNumber sc = some 0 := by
      rcases a_num hC hP with ⟨-, z, -⟩ | ⟨z1, -⟩
      · exact absurd z h0
      · exact z1
    have e3 : m_X12_wrong pl at_ fm 1 = some fm := by unfold m_X12_wrong; rw [if_neg hfm]
    have key := bad 1 (by omega) (by omega)
    rw [show m_X12_wrong pl at_ fm (nI 1) = some fm from e3, Option.bind_some] at key
    refine OT.eqL z1 (OT.posL rfl (OT.eqL (k_fact wd h27) (OT.negR (fun z => h0 (by rw [← hf] at z; exact hpos.1.mp z)) ?_)))
    unfold m_X3_readPart_21
    rw [if_neg (show ¬ 22 < wd by omega)]
    refine OT.eqL e1 (OT.posL (by rw [b1f]; rfl) (OT.eqL e2 (OT.posL (by rw [b2f]; rfl) ?_)))
    unfold m_X3_readPart_46
    exact OT.posL rfl (OT.posL rfl key)
/-- the whole group -/
theorem g_all (hC : CX Z N T P sg tp ln so pl va wf) : ∀ (fu t d : Nat), d ≤ 5 → t ≤ 4 → 5 * (6 - d) ≤ fu + t → GS T P Z N sg ln stk so pl va wf th ta sz m1 m2 on un we ro gg (mG_X3 fu) (mG_X12 fu) t d
  | 0, t, d, h1, h2, h3 => by omega
  | fu + 1, t, d, h1, h2, h3 => by
    intro n y h st op ar size codes pc be sc nu le wd fa at_ fm hL hh
    unfold mG_X3 mG_X12
    rcases (show t = 0 ∨ t = 1 ∨ t = 2 ∨ t = 3 ∨ t = 4 by omega) with rfl | rfl | rfl | rfl | rfl
    · exact g_whole hC (g_all hC fu 1 d h1 (by omega) (by omega)) (by omega) hL
    · exact g_test hC (g_all hC fu 2 d h1 (by omega) (by omega)) (by omega) hL
    · exact g_sum hC (g_all hC fu 3 d h1 (by omega) (by omega)) (by omega) hL
    · exact g_prod hC (g_all hC fu 4 d h1 (by omega) (by omega)) (by omega) hL
    · exact g_part hC h1 (fun z => g_all hC fu 0 (d + 1) (by omega) (by omega) (by omega)) (fun z => g_all hC fu 4 (d + 1) (by omega) (by omega) (by omega)) (by omega) hL
end PART
