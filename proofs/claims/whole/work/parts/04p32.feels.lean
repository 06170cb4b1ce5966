/-! PURE: a line that tells what one feels -/
section FEELS
variable {Z N n k : Nat} {T P : Nat → Nat} {K L F : Nat → Nat} {sg tp so pl kf bl bf tf op ar : Nat → Int32} {ln : Int32} {va wf nf rn nm : Nat → Int64} {pc be sc nu fa at_ fm ps rm m1 codes onc : Int32} {le : Int64} {wd : Nat} {th ta sz un we ro : Int32} {gg : Int64}
theorem hitF {f a j : Nat} (hf : f < 64) (ha : a < 6) (hj : j < 6) : hit (nI f ||| (1 <<< (nI a &&& 31))) j ↔ (f.testBit j = true ∨ j = a) := by
  have key : ∀ f : Nat, f < 64 → ∀ a : Nat, a < 6 → ∀ j : Nat, j < 6 → ((((nI f ||| (1 <<< (nI a &&& 31))) >>> (nI j &&& 31)) &&& 1 = 1) ↔ (f.testBit j = true ∨ j = a)) := by decide +kernel
  exact key f hf a ha j hj
def FE (T P : Nat → Nat) (Z N n k : Nat) (K L : Nat → Nat) (ps rm : Int32) (nf rn : Nat → Int64) (kf bl tf op ar : Nat → Int32) (codes onc : Int32) (R : (Nat → Int32) × Int32 × Int32 × Int32 × Int32 × Int64 × Nat × Int32) (R' : QL9) : Prop := ∃ n', n ≤ n' ∧ PA T P Z N n' R.2.1 R.2.2.1 R.2.2.2.1 R.2.2.2.2.1 R.2.2.2.2.2.1 R.2.2.2.2.2.2.1 R.2.2.2.2.2.2.2 R'.1 R'.2.1 ∧ (R.2.2.2.2.2.2.2 = 0 → ∃ F', DP k K L F' ps rm nf rn kf bl R.1 R'.2.2.2.2.2.1) ∧ R'.2.2.1 = codes ∧ R'.2.2.2.1 = rm ∧ R'.2.2.2.2.1 = onc ∧ R'.2.2.2.2.2.2.1 = op ∧ R'.2.2.2.2.2.2.2.1 = ar ∧ R'.2.2.2.2.2.2.2.2 = rn ∧ ∀ i, i < 37 → R'.2.2.2.2.2.1 i = tf i
theorem t_feels (hC : CX Z N T P sg tp ln so pl va wf) (hD : DP k K L F ps rm nf rn kf bl bf tf) (h : PA T P Z N n pc be sc nu le wd fa at_ fm) (h0 : fa = 0) (hn : n < N) {X : Option QL9}
    (hX : X = Option.bind (m_X12_takeTold so pl va (at_ + 1) fm wf nm rn m1 rm 1 0) (fun r10 => if ¬ (((35 + (3 * r10.1)) + 2) < 0 ∨ 60 ≤ ((35 + (3 * r10.1)) + 2).toNatClampNeg) then (Option.bind (m_X12_takeTold so pl va r10.2.1 r10.2.2 wf nm rn m1 rm 1 ((tf ((35 + (3 * r10.1)) + 2).toNatClampNeg) ||| (1 <<< (r10.1 &&& 31)))) (fun r11 => if ¬ (((35 + (3 * r10.1)) + 2) < 0 ∨ 60 ≤ ((35 + (3 * r10.1)) + 2).toNatClampNeg) then (if r11.2.2 ≤ 0 then (m_X12_readLine_86 th ta sz so pl va wf nm m1 un we ro gg (1 <<< (r11.1 &&& 31)) (tf ((35 + (3 * r10.1)) + 2).toNatClampNeg) ((35 + (3 * r10.1)) + 2) r11.2.1 r11.2.2 codes rm onc tf op ar rn) else (m_X12_readLine_86 th ta sz so pl va wf nm m1 un we ro gg 0 (tf ((35 + (3 * r10.1)) + 2).toNatClampNeg) ((35 + (3 * r10.1)) + 2) r11.2.1 r11.2.2 codes rm onc tf op ar rn)) else none)) else none)) :
    OT (m_X8_readFeels nf bf ps sg ln pc be sc nu le wd fa) X (FE T P Z N n k K L ps rm nf rn kf bl tf op ar codes onc) := by
  have hN := hC.bnd
  have hNM := hD.2.2.2.1
  have hk6 := hNM.1
  have hrm := hD.2.1
  have hps := hD.1
  have fk : ∀ j, j < 6 → F j < 64 := fun j hj => Nat.lt_of_lt_of_le (hD.2.2.2.2.2.2 j hj).1 (Nat.pow_le_pow_right (n := 2) (by omega) hk6)
  subst hX
  subst hps
  unfold m_X8_readFeels
  refine OT.bdL (a_adv hC h h0 hn) (fun R hR => ?_)
  refine OT.bd (a_takePerson (q := 1) (g := rn) hC hR hNM (Or.inr ⟨rfl, hrm, rfl⟩)) (fun S S' hS => ?_)
  obtain ⟨n2, r1, r2, r3, r4⟩ := hS
  have hSa : ∃ a, a < 6 ∧ S'.1 = nI a ∧ (S.2.2.2.2.2.2.2 = 0 → a < k ∧ S.1 = nI a) := by
    by_cases z : S.2.2.2.2.2.2.2 = 0
    · obtain ⟨-, -, j, j1, j2, j3⟩ := r2 z
      exact ⟨j, by omega, j3, fun _ => ⟨j1, j2⟩⟩
    · exact ⟨0, by omega, r3 z, fun y => absurd y z⟩
  obtain ⟨a, ha6, hSa', hSa⟩ := hSa
  have e37 : (35 : Int32) + 3 * S'.1 + 2 = nI (37 + 3 * a) := by
    rw [hSa']
    show nI 35 + 3 * nI a + 2 = _
    rw [i3 35 a]
    show nI (35 + 3 * a) + nI 2 = _
    rw [nI_add]; congr 1; omega
  have hix : ¬ (nI (37 + 3 * a) < 0 ∨ 60 ≤ 37 + 3 * a) := pn_in2 (by omega) (by omega)
  have tfa := (hD.2.2.2.2.2.2 a ha6).2.2
  rw [e37, nI_clamp (show 37 + 3 * a < 2 ^ 31 by omega), tfa, hSa']
  refine OT.posR hix (OT.bd (a_told (q2 := nI (F a) ||| (1 <<< (nI a &&& 31))) (q := 1) (g := rn) hC r4 hNM (Or.inr ⟨rfl, hrm, rfl⟩)) (fun U U' hU => OT.posR hix ?_))
  unfold m_X12_readLine_86 m_X8_readFeels_38 m_X8_readFeels_43
  -- a fault is told
  have bad : ∀ (f s4 : Int32) (w0 : Nat) (x y at' fm' v : Int32), ¬ f = 0 → PA T P Z N n2 S.2.1 S.2.2.1 s4 S.2.2.2.2.1 S.2.2.2.2.2.1 w0 f at' fm' → OT (Option.bind (m_X7_advance sg ln S.2.1 S.2.2.1 s4 S.2.2.2.2.1 S.2.2.2.2.2.1 w0 f) (fun r8 => Option.bind (m_X6_turnFeeling bf x y) (fun r9 => some (r9, r8.1, r8.2.1, r8.2.2.1, r8.2.2.2.1, r8.2.2.2.2.1, r8.2.2.2.2.2, f)))) (if ¬ (nI (37 + 3 * a) < 0 ∨ 60 ≤ (nI (37 + 3 * a)).toNatClampNeg) then some (at', fm', codes, rm, onc, upd tf (nI (37 + 3 * a)).toNatClampNeg v, op, ar, rn) else none) (FE T P Z N n k K L (nI k) rm nf rn kf bl tf op ar codes onc) := by
    intro f s4 w0 x y at' fm' v hf hP
    rw [a_stay hf, Option.bind_some, nI_clamp (show 37 + 3 * a < 2 ^ 31 by omega)]
    refine OT.posR hix (OT.bdL turn_any (fun V _ => OT.ret ⟨n2, by omega, hP, fun z => absurd z hf, rfl, rfl, rfl, rfl, rfl, rfl, fun i hi => ?_⟩))
    show upd tf (37 + 3 * a) v i = tf i
    unfold upd; rw [if_neg (by omega)]
  rcases hU with ⟨g1, g2, g3, g4⟩ | ⟨j, hj, rfl, z0, zn, y⟩
  · have q1 : ¬ U'.2.2 ≤ 0 := fun z => by rw [← g4.1] at z; exact ne0_of_pos g2 (g4.pos.1.mp z)
    exact OT.posL g1 (OT.negR q1 (bad _ _ _ _ _ _ _ _ (ne0_of_pos g2) g4))
  · obtain ⟨hak, hSe⟩ := hSa z0
    have hfm2 : S'.2.2 = 0 := by rw [← r4.1]; exact z0
    have fe : m_X6_feels bf (nI a) (nI j) = some (if (F a).testBit j then 1 else 0) := by
      unfold m_X6_feels
      rw [p_at ha6 (by omega), (hD.2.2.2.2.2.2 a ha6).2.1, Option.bind_some, b_holds (F a) (fk a ha6) j (by omega), Option.bind_some]
      split
      · rw [if_pos (Or.inr rfl)]
      · rw [if_pos (Or.inl rfl)]
    refine OT.negL (nn1 (by omega)) ?_
    rw [hSe]
    show OT (if nI j = nI a then _ else _) _ _
    rcases y with ⟨y1, y2, y3, y4⟩ | ⟨y1, rfl⟩
    · have hh := (hitF (fk a ha6) ha6 (by omega)).mp y1
      obtain ⟨V, V', v1, v2, v3, v4⟩ := a_bad hC r4 (k := 3) (by omega) (by omega)
      have eV : V' = U'.2.2 := Option.some.inj (v2.symm.trans y4)
      subst eV
      have q1 : ¬ U'.2.2 ≤ 0 := fun z => by rw [← v4.1] at z; exact ne0_of_pos v3 (v4.pos.1.mp z)
      have key : ∀ x y : Int32, OT (Option.bind (m_X7_refuse S.2.1 S.2.2.2.1 S.2.2.2.2.2.2.1 S.2.2.2.2.2.2.2 3) (fun r10 => Option.bind (m_X7_advance sg ln S.2.1 S.2.2.1 r10.1 S.2.2.2.2.1 S.2.2.2.2.2.1 r10.2.1 r10.2.2) (fun r8 => Option.bind (m_X6_turnFeeling bf x y) (fun r9 => some (r9, r8.1, r8.2.1, r8.2.2.1, r8.2.2.2.1, r8.2.2.2.2.1, r8.2.2.2.2.2, r10.2.2))))) (if U'.2.2 ≤ 0 then (if ¬ (nI (37 + 3 * a) < 0 ∨ 60 ≤ (nI (37 + 3 * a)).toNatClampNeg) then some (U'.2.1, U'.2.2, codes, rm, onc, upd tf (nI (37 + 3 * a)).toNatClampNeg (nI (F a) ||| 1 <<< (U'.1 &&& 31)), op, ar, rn) else none) else (if ¬ (nI (37 + 3 * a) < 0 ∨ 60 ≤ (nI (37 + 3 * a)).toNatClampNeg) then some (U'.2.1, U'.2.2, codes, rm, onc, upd tf (nI (37 + 3 * a)).toNatClampNeg (nI (F a) ||| 0), op, ar, rn) else none)) (FE T P Z N n k K L (nI k) rm nf rn kf bl tf op ar codes onc) := by
        intro x y
        refine OT.negR q1 (OT.eqL v1 (bad _ _ _ _ _ _ _ _ (ne0_of_pos v3) ?_))
        rw [y3]
        exact v4
      by_cases ej : j = a
      · exact OT.posL (by rw [ej]) (key _ _)
      · refine OT.negL (fun z => ej ((nI_eq (by omega) (by omega)).mp z)) (OT.eqL fe ?_)
        have tb := hh.resolve_right ej
        rw [if_pos tb]
        exact OT.negL (by decide) (key _ _)
    · have hh : ¬ ((F a).testBit j = true ∨ j = a) := fun z => y1 ((hitF (fk a ha6) ha6 (by omega)).mpr z)
      have tb : (F a).testBit j = false := by
        cases e : (F a).testBit j with
        | false => rfl
        | true => exact absurd (Or.inl e) hh
      obtain ⟨bf', f1, f2⟩ := hD.feel hak hj tb
      refine OT.negL (fun z => hh (Or.inr ((nI_eq (by omega) (by omega)).mp z))) (OT.eqL fe ?_)
      rw [if_neg (show ¬ (F a).testBit j = true by rw [tb]; decide), nI_clamp (show 37 + 3 * a < 2 ^ 31 by omega)]
      refine OT.posL rfl (OT.posR (show S'.2.2 ≤ 0 by rw [hfm2]; decide) (OT.posR hix (OT.bdL (a_adv hC r4 z0 zn) (fun V hV => OT.eqL f1 (OT.ret ⟨n2 + 1, by omega, hV, fun _ => ⟨_, f2⟩, rfl, rfl, rfl, rfl, rfl, rfl, fun i hi => ?_⟩)))))
      show upd tf (37 + 3 * a) _ i = tf i
      unfold upd; rw [if_neg (by omega)]
end FEELS
