/-! PURE: what joins in the law: whole, test, sum, product -/
section JOINS
variable {Z N n y h d : Nat} {T P : Nat → Nat} {sg tp so pl st stk op ar : Nat → Int32} {ln : Int32} {va wf : Nat → Int64} {pc be sc nu fa at_ fm size codes : Int32} {le : Int64} {wd : Nat} {th ta sz m1 m2 on un we ro : Int32} {gg : Int64} {GC : GCt} {GM : GMt}
theorem chT0 : (chI true = 0) = False := eq_false (by decide)
theorem chF0 : (chI false = 0) = True := eq_true rfl
theorem same_ite {α : Type} {c : Prop} [Decidable c] {X Y : α} (h : ¬ c → Y = X) : (if c then X else Y) = X := by
  by_cases k : c
  · rw [if_pos k]
  · rw [if_neg k]; exact h k
theorem LE.tr {n1 y1 : Nat} {fa1 : Int32} {op1 ar1 : Nat → Int32} {R : CR9} {R' : QR5} (h1 : n ≤ n1) (h2 : y1 + n ≤ y + n1) (h3 : fa1 = 0 → fa = 0) (h4 : ∀ k, k < 1100 → op1 k = op k ∧ ar1 k = ar k) (hE : LE T P Z N n1 y1 h d fa1 op1 ar1 R R') : LE T P Z N n y h d fa op ar R R' := by
  obtain ⟨n', y', k1, k2, k3, k4, k5⟩ := hE
  exact ⟨n', y', by omega, by omega, fun z => ⟨h3 (k3 z).1, (k3 z).2⟩, k4, fun k hk => ⟨(k5 k hk).1.trans (h4 k hk).1, (k5 k hk).2.trans (h4 k hk).2⟩⟩
theorem LE.here (hL : LWP T P Z N n y h st size op ar codes pc be sc nu le wd fa at_ fm) (hd : fa = 0 → d < 5) : LE T P Z N n y h d fa op ar (size, st, pc, be, sc, nu, le, wd, fa) (at_, fm, codes, op, ar) := ⟨n, y, by omega, by omega, fun z => ⟨z, hd z⟩, hL, fun k _ => ⟨rfl, rfl⟩⟩
theorem whole_loop (hC : CX Z N T P sg tp ln so pl va wf) (ih : GS T P Z N sg ln stk so pl va wf th ta sz m1 m2 on un we ro gg GC GM 1 d) (hh : h ≤ 4 * d) : ∀ (c fu fv n y i : Nat) (st op ar : Nat → Int32) (size codes pc be sc nu : Int32) (le : Int64) (wd : Nat) (fa at_ fm : Int32), N - n ≤ c → c < fu → c < fv → i ≤ n → LWP T P Z N n y (h + 1) st size op ar codes pc be sc nu le wd fa at_ fm → (fa = 0 → d < 5) → OT (m_X3_readWhole_8 GC stk sg ln (nI d) fu (nI i) size st pc be sc nu le wd fa) (m_X12_whole_5 GM th ta sz so pl va wf m1 m2 on un we ro gg (nI d) fv at_ fm codes op ar) (LE T P Z N n y (h + 1) d fa op ar)
  | c, fu + 1, fv + 1, n, y, i, st, op, ar, size, codes, pc, be, sc, nu, le, wd, fa, at_, fm, hc, hu, hv, hi, hL, hd => by
    have hN := hC.bnd
    have hP := hL.1
    obtain ⟨b1, e1, f1, -, g1⟩ := a_word hC hP (j := 20) (by omega)
    obtain ⟨b2, e2, f2, -, g2⟩ := a_word hC hP (j := 21) (by omega)
    rw [m_X3_readWhole_8, m_X12_whole_5, show m_X7_atWord wd 21 = _ from e1, show m_X7_atWord wd 22 = _ from e2, show m_X12_isWord so va at_ fm wf 20 = _ from f1, show m_X12_isWord so va at_ fm wf 21 = _ from f2, Option.bind_some, Option.bind_some, Option.bind_some, Option.bind_some]
    unfold m_X3_readWhole_35 m_X3_readWhole_52 m_X12_whole_23 m_X12_whole_57
    rw [show m_X7_atWord wd 21 = _ from e1, show m_X12_isWord so va at_ fm wf 20 = _ from f1, Option.bind_some, Option.bind_some]
    have go : ∀ (b : Bool) (s o : Int32), fa = 0 → n < N → ((s = -10 ∧ o = 4) ∨ (s = -11 ∧ o = 5) ∨ (s = -12 ∧ o = 6) ∨ (s = -8 ∧ o = 7) ∨ (s = -9 ∧ o = 8) ∨ (s = -6 ∧ o = 9) ∨ (s = -7 ∧ o = 10)) → _ := fun b s o h0 hn hso => g_step (KC := fun R => m_X3_readWhole_8 GC stk sg ln (nI d) fu (nI i + 1) R.1 R.2.1 R.2.2.1 R.2.2.2.1 R.2.2.2.2.1 R.2.2.2.2.2.1 R.2.2.2.2.2.2.1 R.2.2.2.2.2.2.2.1 R.2.2.2.2.2.2.2.2) (KM := fun R => m_X12_whole_5 GM th ta sz so pl va wf m1 m2 on un we ro gg (nI d) fv R.1 R.2.1 R.2.2.1 R.2.2.2.1 R.2.2.2.2) (Q := LE T P Z N n y (h + 1) d fa op ar) hC ih hL h0 hn (show h + 1 ≤ 4 * d + 1 by omega) (by omega) (by omega) hso (fun R R' hR => by
      obtain ⟨n', y', k1, k2, k3, k4, k5⟩ := hR
      show OT (m_X3_readWhole_8 GC stk sg ln (nI d) fu (nI i + 1) _ _ _ _ _ _ _ _ _) _ _
      rw [nI_1]
      cases c with
      | zero => omega
      | succ c => exact OT.imp (whole_loop hC ih hh c fu fv n' y' (i + 1) _ _ _ _ _ _ _ _ _ _ _ _ _ _ (by omega) (by omega) (by omega) (by omega) k4 k3) (fun U U' hU => LE.tr (by omega) k2 (fun _ => h0) k5 hU))
    cases b1 with
    | true =>
      obtain ⟨h0, hn⟩ := g1 rfl
      simp only [chT0, if_false]
      refine OT.negL (show ¬ (1000 : Int32) ≤ nI i from nI_ge (b := 1000) (by omega) (by omega)) ?_
      exact go true (-6) 9 h0 hn (by simp)
    | false =>
      cases b2 with
      | true =>
        obtain ⟨h0, hn⟩ := g2 rfl
        simp only [chT0, chF0, if_false, if_true]
        refine OT.negL (show ¬ (1000 : Int32) ≤ nI i from nI_ge (b := 1000) (by omega) (by omega)) ?_
        exact go true (-7) 10 h0 hn (by simp)
      | false =>
        simp only [chF0, if_true]
        rw [same_ite (fun _ => rfl)]
        exact OT.ret (LE.here hL hd)
theorem sum_loop (hC : CX Z N T P sg tp ln so pl va wf) (ih : GS T P Z N sg ln stk so pl va wf th ta sz m1 m2 on un we ro gg GC GM 3 d) (hh : h ≤ 4 * d + 2) : ∀ (c fu fv n y i : Nat) (st op ar : Nat → Int32) (size codes pc be sc nu : Int32) (le : Int64) (wd : Nat) (fa at_ fm : Int32), N - n ≤ c → c < fu → c < fv → i ≤ n → LWP T P Z N n y (h + 1) st size op ar codes pc be sc nu le wd fa at_ fm → (fa = 0 → d < 5) → OT (m_X3_readSum_8 GC stk sg ln (nI d) fu (nI i) size st pc be sc nu le wd fa) (m_X12_sums_5 GM th ta sz so pl va wf m1 m2 on un we ro gg (nI d) fv at_ fm codes op ar) (LE T P Z N n y (h + 1) d fa op ar)
  | c, fu + 1, fv + 1, n, y, i, st, op, ar, size, codes, pc, be, sc, nu, le, wd, fa, at_, fm, hc, hu, hv, hi, hL, hd => by
    have hN := hC.bnd
    have hP := hL.1
    obtain ⟨b1, e1, f1, g1⟩ := a_sign hC hP (c := 43) (by omega)
    obtain ⟨b2, e2, f2, g2⟩ := a_sign hC hP (c := 45) (by omega)
    rw [m_X3_readSum_8, m_X12_sums_5, show m_X7_atSign sg ln pc sc 43 = _ from e1, show m_X7_atSign sg ln pc sc 45 = _ from e2, show m_X12_isSign so va at_ fm 43 = _ from f1, show m_X12_isSign so va at_ fm 45 = _ from f2, Option.bind_some, Option.bind_some, Option.bind_some, Option.bind_some]
    unfold m_X3_readSum_33 m_X3_readSum_49 m_X12_sums_23 m_X12_sums_55
    rw [show m_X7_atSign sg ln pc sc 43 = _ from e1, show m_X12_isSign so va at_ fm 43 = _ from f1, Option.bind_some, Option.bind_some]
    have go : ∀ (b : Bool) (s o : Int32), fa = 0 → n < N → ((s = -10 ∧ o = 4) ∨ (s = -11 ∧ o = 5) ∨ (s = -12 ∧ o = 6) ∨ (s = -8 ∧ o = 7) ∨ (s = -9 ∧ o = 8) ∨ (s = -6 ∧ o = 9) ∨ (s = -7 ∧ o = 10)) → _ := fun b s o h0 hn hso => g_step (KC := fun R => m_X3_readSum_8 GC stk sg ln (nI d) fu (nI i + 1) R.1 R.2.1 R.2.2.1 R.2.2.2.1 R.2.2.2.2.1 R.2.2.2.2.2.1 R.2.2.2.2.2.2.1 R.2.2.2.2.2.2.2.1 R.2.2.2.2.2.2.2.2) (KM := fun R => m_X12_sums_5 GM th ta sz so pl va wf m1 m2 on un we ro gg (nI d) fv R.1 R.2.1 R.2.2.1 R.2.2.2.1 R.2.2.2.2) (Q := LE T P Z N n y (h + 1) d fa op ar) hC ih hL h0 hn (show h + 1 ≤ 4 * d + 3 by omega) (by omega) (by omega) hso (fun R R' hR => by
      obtain ⟨n', y', k1, k2, k3, k4, k5⟩ := hR
      show OT (m_X3_readSum_8 GC stk sg ln (nI d) fu (nI i + 1) _ _ _ _ _ _ _ _ _) _ _
      rw [nI_1]
      cases c with
      | zero => omega
      | succ c => exact OT.imp (sum_loop hC ih hh c fu fv n' y' (i + 1) _ _ _ _ _ _ _ _ _ _ _ _ _ _ (by omega) (by omega) (by omega) (by omega) k4 k3) (fun U U' hU => LE.tr (by omega) k2 (fun _ => h0) k5 hU))
    cases b1 with
    | true =>
      obtain ⟨h0, hn, -⟩ := g1 rfl
      simp only [chT0, if_false]
      refine OT.negL (show ¬ (1000 : Int32) ≤ nI i from nI_ge (b := 1000) (by omega) (by omega)) ?_
      exact go true (-10) 4 h0 hn (by simp)
    | false =>
      cases b2 with
      | true =>
        obtain ⟨h0, hn, -⟩ := g2 rfl
        simp only [chT0, chF0, if_false, if_true]
        refine OT.negL (show ¬ (1000 : Int32) ≤ nI i from nI_ge (b := 1000) (by omega) (by omega)) ?_
        exact go true (-11) 5 h0 hn (by simp)
      | false =>
        simp only [chF0, if_true]
        rw [same_ite (fun _ => rfl)]
        exact OT.ret (LE.here hL hd)
theorem prod_loop (hC : CX Z N T P sg tp ln so pl va wf) (ih : GS T P Z N sg ln stk so pl va wf th ta sz m1 m2 on un we ro gg GC GM 4 d) (hh : h ≤ 4 * d + 3) : ∀ (c fu fv n y i : Nat) (st op ar : Nat → Int32) (size codes pc be sc nu : Int32) (le : Int64) (wd : Nat) (fa at_ fm : Int32), N - n ≤ c → c < fu → c < fv → i ≤ n → LWP T P Z N n y (h + 1) st size op ar codes pc be sc nu le wd fa at_ fm → (fa = 0 → d < 5) → OT (m_X3_readProduct_8 GC stk sg ln (nI d) fu (nI i) size st pc be sc nu le wd fa) (m_X12_products_5 GM th ta sz so pl va wf m1 m2 on un we ro gg (nI d) fv at_ fm codes op ar) (LE T P Z N n y (h + 1) d fa op ar)
  | c, fu + 1, fv + 1, n, y, i, st, op, ar, size, codes, pc, be, sc, nu, le, wd, fa, at_, fm, hc, hu, hv, hi, hL, hd => by
    have hN := hC.bnd
    have hP := hL.1
    obtain ⟨b1, e1, f1, g1⟩ := a_sign hC hP (c := 42) (by omega)
    rw [m_X3_readProduct_8, m_X12_products_5, show m_X7_atSign sg ln pc sc 42 = _ from e1, show m_X12_hasSign so va at_ fm 42 = _ from q_hasSign f1, Option.bind_some, Option.bind_some]
    cases b1 with
    | true =>
      obtain ⟨h0, hn, -⟩ := g1 rfl
      simp only [chT0, if_false, if_true]
      refine OT.negL (show ¬ (1000 : Int32) ≤ nI i from nI_ge (b := 1000) (by omega) (by omega)) ?_
      exact g_step (s := -12) (o := 6) (KC := fun R => m_X3_readProduct_8 GC stk sg ln (nI d) fu (nI i + 1) R.1 R.2.1 R.2.2.1 R.2.2.2.1 R.2.2.2.2.1 R.2.2.2.2.2.1 R.2.2.2.2.2.2.1 R.2.2.2.2.2.2.2.1 R.2.2.2.2.2.2.2.2) (KM := fun R => m_X12_products_5 GM th ta sz so pl va wf m1 m2 on un we ro gg (nI d) fv R.1 R.2.1 R.2.2.1 R.2.2.2.1 R.2.2.2.2) (Q := LE T P Z N n y (h + 1) d fa op ar) hC ih hL h0 hn (show h + 1 ≤ 4 * d + 4 by omega) (by omega) (by omega) (by simp) (fun R R' hR => by
        obtain ⟨n', y', k1, k2, k3, k4, k5⟩ := hR
        show OT (m_X3_readProduct_8 GC stk sg ln (nI d) fu (nI i + 1) _ _ _ _ _ _ _ _ _) _ _
        rw [nI_1]
        cases c with
        | zero => omega
        | succ c => exact OT.imp (prod_loop hC ih hh c fu fv n' y' (i + 1) _ _ _ _ _ _ _ _ _ _ _ _ _ _ (by omega) (by omega) (by omega) (by omega) k4 k3) (fun U U' hU => LE.tr (by omega) k2 (fun _ => h0) k5 hU))
    | false =>
      simp only [chF0, if_true]
      rw [same_ite (fun _ => rfl)]
      exact OT.ret (LE.here hL hd)
theorem g_whole (hC : CX Z N T P sg tp ln so pl va wf) (ih : GS T P Z N sg ln stk so pl va wf th ta sz m1 m2 on un we ro gg GC GM 1 d) (hh : h ≤ 4 * d) (hL : LWP T P Z N n y h st size op ar codes pc be sc nu le wd fa at_ fm) : OT (m_X3_readWhole GC st stk size sg ln pc be sc nu le wd fa (nI d)) (m_X12_whole GM th ta sz so pl va at_ fm wf op ar codes m1 m2 on un we ro gg (nI d)) (LE T P Z N n y (h + 1) d fa op ar) := by
  have hN := hC.bnd
  unfold m_X3_readWhole m_X12_whole
  refine OT.bd (ih n y h st op ar size codes pc be sc nu le wd fa at_ fm hL (by omega)) (fun R R' hR => ?_)
  obtain ⟨n', y', k1, k2, k3, k4, k5⟩ := hR
  have hFU := FU_ge
  revert hFU; generalize FU = fu; intro hFU
  exact OT.imp (whole_loop hC ih hh N fu fu n' y' 0 _ _ _ _ _ _ _ _ _ _ _ _ _ _ (by omega) (by omega) (by omega) (by omega) k4 (fun z => (k3 z).2)) (fun U U' hU => LE.tr k1 k2 (fun z => (k3 z).1) k5 hU)
theorem g_sum (hC : CX Z N T P sg tp ln so pl va wf) (ih : GS T P Z N sg ln stk so pl va wf th ta sz m1 m2 on un we ro gg GC GM 3 d) (hh : h ≤ 4 * d + 2) (hL : LWP T P Z N n y h st size op ar codes pc be sc nu le wd fa at_ fm) : OT (m_X3_readSum GC st stk size sg ln pc be sc nu le wd fa (nI d)) (m_X12_sums GM th ta sz so pl va at_ fm wf op ar codes m1 m2 on un we ro gg (nI d)) (LE T P Z N n y (h + 1) d fa op ar) := by
  have hN := hC.bnd
  unfold m_X3_readSum m_X12_sums
  refine OT.bd (ih n y h st op ar size codes pc be sc nu le wd fa at_ fm hL (by omega)) (fun R R' hR => ?_)
  obtain ⟨n', y', k1, k2, k3, k4, k5⟩ := hR
  have hFU := FU_ge
  revert hFU; generalize FU = fu; intro hFU
  exact OT.imp (sum_loop hC ih hh N fu fu n' y' 0 _ _ _ _ _ _ _ _ _ _ _ _ _ _ (by omega) (by omega) (by omega) (by omega) k4 (fun z => (k3 z).2)) (fun U U' hU => LE.tr k1 k2 (fun z => (k3 z).1) k5 hU)
theorem g_prod (hC : CX Z N T P sg tp ln so pl va wf) (ih : GS T P Z N sg ln stk so pl va wf th ta sz m1 m2 on un we ro gg GC GM 4 d) (hh : h ≤ 4 * d + 3) (hL : LWP T P Z N n y h st size op ar codes pc be sc nu le wd fa at_ fm) : OT (m_X3_readProduct GC st stk size sg ln pc be sc nu le wd fa (nI d)) (m_X12_products GM th ta sz so pl va at_ fm wf op ar codes m1 m2 on un we ro gg (nI d)) (LE T P Z N n y (h + 1) d fa op ar) := by
  have hN := hC.bnd
  unfold m_X3_readProduct m_X12_products
  refine OT.bd (ih n y h st op ar size codes pc be sc nu le wd fa at_ fm hL (by omega)) (fun R R' hR => ?_)
  obtain ⟨n', y', k1, k2, k3, k4, k5⟩ := hR
  have hFU := FU_ge
  revert hFU; generalize FU = fu; intro hFU
  exact OT.imp (prod_loop hC ih hh N fu fu n' y' 0 _ _ _ _ _ _ _ _ _ _ _ _ _ _ (by omega) (by omega) (by omega) (by omega) k4 (fun z => (k3 z).2)) (fun U U' hU => LE.tr k1 k2 (fun z => (k3 z).1) k5 hU)
theorem g_test (hC : CX Z N T P sg tp ln so pl va wf) (ih : GS T P Z N sg ln stk so pl va wf th ta sz m1 m2 on un we ro gg GC GM 2 d) (hh : h ≤ 4 * d + 1) (hL : LWP T P Z N n y h st size op ar codes pc be sc nu le wd fa at_ fm) : OT (m_X3_readTest GC st stk size sg ln pc be sc nu le wd fa (nI d)) (m_X12_test GM th ta sz so pl va at_ fm wf op ar codes m1 m2 on un we ro gg (nI d)) (LE T P Z N n y (h + 1) d fa op ar) := by
  have hN := hC.bnd
  unfold m_X3_readTest m_X12_test
  refine OT.bd (ih n y h st op ar size codes pc be sc nu le wd fa at_ fm hL (by omega)) (fun R R' hR => ?_)
  obtain ⟨n', y', k1, k2, k3, k4, k5⟩ := hR
  obtain ⟨b1, e1, f1, g1⟩ := a_sign hC k4.1 (c := 60) (by omega)
  obtain ⟨b2, e2, f2, g2⟩ := a_sign hC k4.1 (c := 61) (by omega)
  rw [show m_X7_atSign sg ln R.2.2.1 R.2.2.2.2.1 60 = _ from e1, show m_X7_atSign sg ln R.2.2.1 R.2.2.2.2.1 61 = _ from e2, show m_X12_isSign so va R'.1 R'.2.1 60 = _ from f1, show m_X12_hasSign so va R'.1 R'.2.1 60 = _ from q_hasSign f1, Option.bind_some, Option.bind_some, Option.bind_some, Option.bind_some]
  unfold m_X3_readTest_24 m_X3_readTest_40 m_X12_test_30 m_X12_test_47
  rw [show m_X7_atSign sg ln R.2.2.1 R.2.2.2.2.1 60 = _ from e1, Option.bind_some]
  have go : ∀ (s o : Int32), R.2.2.2.2.2.2.2.2 = 0 → n' < N → ((s = -10 ∧ o = 4) ∨ (s = -11 ∧ o = 5) ∨ (s = -12 ∧ o = 6) ∨ (s = -8 ∧ o = 7) ∨ (s = -9 ∧ o = 8) ∨ (s = -6 ∧ o = 9) ∨ (s = -7 ∧ o = 10)) → _ := fun s o h0 hn hso => g_step (KC := fun R => some R) (KM := fun R => some R) (Q := LE T P Z N n y (h + 1) d fa op ar) hC ih k4 h0 hn (show h + 1 ≤ 4 * d + 2 by omega) (by omega) (by omega) hso (fun U U' hU => by
      obtain ⟨n2, y2, j1, j2, j3, j4, j5⟩ := hU
      exact OT.ret ⟨n2, y2, by omega, by omega, fun z => k3 h0, j4, fun k hk => ⟨(j5 k hk).1.trans (k5 k hk).1, (j5 k hk).2.trans (k5 k hk).2⟩⟩)
  cases b1 with
  | true =>
    obtain ⟨h0, hn, -⟩ := g1 rfl
    simp only [chT0, if_false, if_true]
    exact go (-8) 7 h0 hn (by simp)
  | false =>
    simp only [chF0, if_true, Bool.false_eq_true, if_false]
    rw [show m_X12_hasSign so va R'.1 R'.2.1 61 = _ from q_hasSign f2, Option.bind_some]
    cases b2 with
    | true =>
      obtain ⟨h0, hn, -⟩ := g2 rfl
      simp only [chT0, if_false, if_true]
      exact go (-9) 8 h0 hn (by simp)
    | false =>
      simp only [chF0, if_true, Bool.false_eq_true, if_false]
      exact OT.ret ⟨n', y', k1, k2, k3, k4, k5⟩
end JOINS
