/-! PURE: a town read, line by line -/
section TOWN
variable {Z N : Nat} {T P : Nat → Nat} {sg tp so pl stk : Nat → Int32} {ln : Int32} {va wf nm : Nat → Int64} {bd th ta sz m1 un we ro : Int32} {gg : Int64} {yl sf im : Nat → Int32}
abbrev CT21 := Int32 × Int32 × Int32 × Int32 × Int32 × Int32 × (Nat → Int64) × (Nat → Int32) × Int32 × (Nat → Int32) × (Nat → Int32) × Int32 × (Nat → Int32) × Int32 × Int32 × Int32 × Int32 × Int32 × Int64 × Nat × Int32
abbrev QT24 := Int32 × Int32 × Int32 × Int32 × Int32 × Int32 × Int32 × Int32 × Int32 × Int32 × Int32 × Int32 × Int32 × (Nat → Int32) × (Nat → Int32) × (Nat → Int64) × (Nat → Int32) × (Nat → Int32) × (Nat → Int32) × (Nat → Int64) × (Nat → Int64) × (Nat → Int32) × (Nat → Int32) × (Nat → Int32)
theorem town_loop (hC : CX Z N T P sg tp ln so pl va wf) {tf0 op0 ar0 : Nat → Int32} {Q : CT21 → QT24 → Prop}
   (hQ : ∀ (n : Nat) (ps mast wv rv on : Int32) (nf : Nat → Int64) (kf bl bf : Nat → Int32) (size : Int32) (st : Nat → Int32) (pc be sc nu : Int32) (le : Int64) (wd : Nat) (fa at_ fm codes rm onc : Int32) (tf op ar : Nat → Int32) (rn : Nat → Int64), PA T P Z N n pc be sc nu le wd fa at_ fm → (fa = 0 → DS ps rm nf rn kf bl bf tf mast wv rv on onc st size op ar codes) → (∀ k, k < 1100 → op k = op0 k ∧ ar k = ar0 k) → (∀ k, k < 30 → tf k = tf0 k) → OT (m_X8_read_41 stk sg ps mast wv rv on nf kf bd bl bf size st ln pc be sc nu le wd fa) (m_X12_town_62 tp wf gg th ta sz at_ fm codes m1 rm onc un we ro so pl va tf op ar nm rn yl sf im) Q) :
   ∀ (c fu fv n i : Nat) (ps mast wv rv on : Int32) (nf : Nat → Int64) (kf bl bf : Nat → Int32) (size : Int32) (st : Nat → Int32) (pc be sc nu : Int32) (le : Int64) (wd : Nat) (fa at_ fm codes rm onc : Int32) (tf op ar : Nat → Int32) (rn : Nat → Int64), (fa = 0 → N - n < c) → c < fu → c < fv → (fa = 0 → i ≤ n) → PA T P Z N n pc be sc nu le wd fa at_ fm → (fa = 0 → DS ps rm nf rn kf bl bf tf mast wv rv on onc st size op ar codes) → (∀ k, k < 1100 → op k = op0 k ∧ ar k = ar0 k) → (∀ k, k < 30 → tf k = tf0 k) → OT (m_X8_read_10 stk sg fu (nI i) ps mast wv rv on nf kf bd bl bf size st ln pc be sc nu le wd fa) (m_X12_town_30 tp wf gg fv th ta sz at_ fm codes m1 rm onc un we ro so pl va tf op ar nm rn yl sf im) Q
  | c, fu + 1, fv + 1, n, i, ps, mast, wv, rv, on, nf, kf, bl, bf, size, st, pc, be, sc, nu, le, wd, fa, at_, fm, codes, rm, onc, tf, op, ar, rn, hc, hu, hv, hi, h, hD, hfr, hft => by
    have hN := hC.bnd
    have hf := h.1
    have hn := h.2.1
    have ha := h.2.2.1
    have hend := hQ n ps mast wv rv on nf kf bl bf size st pc be sc nu le wd fa at_ fm codes rm onc tf op ar rn h hD hfr hft
    rw [m_X8_read_10, m_X12_town_30]
    unfold m_X7_goesOn
    rcases h.2.2.2 with ⟨h0, hp⟩ | ⟨h1, h2, h3⟩
    · have hfm : fm = 0 := by rw [← hf]; exact h0
      obtain ⟨s, e, t1, t2, t3, t4, t5, t6, t7, t8, t9, -⟩ := tk hC hn hp
      rw [if_pos h0, if_pos hfm, ha, nI_clamp (show n < 2 ^ 31 by omega), ← ha, t5]
      by_cases e0 : n = N
      · have s0 := t9.mpr e0
        have sc0 : sc = 0 := by rw [t4, s0]; rfl
        rw [if_pos sc0, Option.bind_some, if_pos rfl, same_ite (fun _ => rfl)]
        refine OT.posR (show ¬ (at_ < 0 ∨ 1002 ≤ n) from by rw [ha]; exact pn_in2 (by omega) (by omega)) (OT.posR (by rw [s0]; rfl) hend)
      · have s0 : ¬ s = 0 := fun z => e0 (t9.mp z)
        have s0' : ¬ nI s = 0 := fun z => s0 ((nI_eq (b := 0) (by omega) (by omega)).mp z)
        have sc0 : ¬ sc = 0 := by rw [t4]; exact s0'
        rw [if_neg sc0, if_neg s0', Option.bind_some, if_neg (show ¬ (1 : Int32) = 0 by decide)]
        refine OT.negL (show ¬ (1000 : Int32) ≤ nI i from nI_ge (b := 1000) (by have := hi h0; omega) (by omega)) (OT.posR (show ¬ (at_ < 0 ∨ 1002 ≤ n) from by rw [ha]; exact pn_in2 (by omega) (by omega)) ?_)
        obtain ⟨k, K, L, F, M, w, r, o, d1, d2, d3⟩ := hD h0
        refine OT.bd (t_line hC d1 d2 d3 h h0 (by omega)) (fun R R' hR => ?_)
        obtain ⟨n', a1, a2, a3, a4, a5⟩ := hR
        refine OT.bd (a_takeSign (c := 59) hC a2 (by omega)) (fun S S' hS => ?_)
        obtain ⟨n'', r1, r2, r3⟩ := hS
        rw [nI_1]
        cases c with
        | zero => have := hc h0; omega
        | succ c =>
          refine town_loop hC hQ c fu fv n'' (i + 1) _ _ _ _ _ _ _ _ _ _ _ _ _ _ _ _ _ _ _ _ _ _ _ _ _ _ _ (fun z => ?_) (by omega) (by omega) (fun z => ?_) r3 (fun z => a3 (r2 z).1) (fun q hq => ⟨(a4 q hq).1.trans (hfr q hq).1, (a4 q hq).2.trans (hfr q hq).2⟩) (fun q hq => (a5 q hq).trans (hft q hq))
          · have := hc h0
            have := (r2 z).2
            omega
          · have := hi h0
            have := (r2 z).2
            omega
    · have h1' := ne0_of_pos h1
      have hfm : ¬ fm = 0 := by rw [← hf]; exact h1'
      rw [if_neg h1', if_neg hfm, Option.bind_some, if_pos rfl, same_ite (fun _ => rfl)]
      exact hend
end TOWN
