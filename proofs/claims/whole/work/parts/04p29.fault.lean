/-! PURE: a fault told: the class reads on and nothing moves -/
section FAULT
variable {sg ln_ st stk ff : Nat → Int32} {ln pc be nu fa size dp lo hi : Int32} {le : Int64} {GC : GCt} {nf : Nat → Int64} {ps : Int32}
theorem f_refuse {sc k : Int32} {wd : Nat} (h1 : ¬ fa = 0) : m_X7_refuse pc sc wd fa k = some (4, 0, fa) := by
  unfold m_X7_refuse m_X7_refuse_20
  rw [if_neg h1]
theorem f_sign {c : Int32} : m_X7_atSign sg ln pc 4 c = some 0 := by
  unfold m_X7_atSign
  rw [if_neg (by decide)]
theorem f_word {j : Nat} (h : j < 26) : m_X7_atWord 0 (j + 1) = some 0 := by
  unfold m_X7_atWord
  rw [if_pos (by omega), if_neg (by omega)]
theorem f_num : m_X7_atNumber 4 = some 0 := by
  unfold m_X7_atNumber
  rw [if_neg (by decide)]
theorem f_takeNumber (h1 : ¬ fa = 0) : m_X7_takeNumber sg ln pc be 4 nu le 0 fa lo hi = some (nu, pc, be, 4, nu, le, 0, fa) := by
  unfold m_X7_takeNumber m_X7_takeNumber_34
  rw [f_num, Option.bind_some, if_pos rfl, f_refuse h1, Option.bind_some, a_stay h1, Option.bind_some]
theorem f_takeWord (h1 : ¬ fa = 0) {j : Nat} (h : j < 26) : m_X7_takeWord sg ln pc be 4 nu le 0 fa (j + 1) = some (pc, be, 4, nu, le, 0, fa) := by
  unfold m_X7_takeWord
  rw [f_word h, Option.bind_some, if_pos rfl, f_refuse h1, Option.bind_some]
theorem f_takeKind (h1 : ¬ fa = 0) : m_X8_takeKind sg ln pc be 4 nu le 0 fa = some (-1, pc, be, 4, nu, le, 0, fa) := by
  unfold m_X8_takeKind m_X8_takeKind_18
  rw [k_kind 0 (by omega), Option.bind_some, show wH 0 15 19 = -1 from rfl, if_pos rfl, f_refuse h1, Option.bind_some, a_stay h1, Option.bind_some]
theorem f_takeRounding (h1 : ¬ fa = 0) : m_X8_takeRounding sg ln pc be 4 nu le 0 fa = some (-1, pc, be, 4, nu, le, 0, fa) := by
  unfold m_X8_takeRounding m_X8_takeRounding_18
  rw [k_round 0 (by omega), Option.bind_some, show wH 0 7 10 = -1 from rfl, if_pos rfl, f_refuse h1, Option.bind_some, a_stay h1, Option.bind_some]
theorem f_part (h1 : ¬ fa = 0) : m_X3_readPart GC st stk size sg ln pc be 4 nu le 0 fa dp = some (size, st, pc, be, 4, nu, le, 0, fa) := by
  unfold m_X3_readPart m_X3_readPart_21 m_X3_readPart_46
  rw [f_num, Option.bind_some, if_pos rfl, k_fact 0 (by omega), Option.bind_some, if_neg (show ¬ 22 < 0 by omega), show m_X7_atWord 0 20 = some 0 from f_word (j := 19) (by omega), Option.bind_some, if_pos rfl, f_sign, Option.bind_some, if_pos rfl, if_pos rfl, if_pos rfl, f_refuse h1, Option.bind_some]
theorem f_prod (hG : GC 4 st stk size sg ln pc be 4 nu le 0 fa dp = some (size, st, pc, be, 4, nu, le, 0, fa)) : m_X3_readProduct GC st stk size sg ln pc be 4 nu le 0 fa dp = some (size, st, pc, be, 4, nu, le, 0, fa) := by
  have hFU := FU_ge
  unfold m_X3_readProduct
  rw [hG, Option.bind_some]
  revert hFU; generalize FU = fu; intro hFU
  cases fu with
  | zero => omega
  | succ fu =>
    unfold m_X3_readProduct_8
    rw [if_neg (by decide), f_sign, Option.bind_some, if_pos rfl]
theorem f_sum (hG : GC 3 st stk size sg ln pc be 4 nu le 0 fa dp = some (size, st, pc, be, 4, nu, le, 0, fa)) : m_X3_readSum GC st stk size sg ln pc be 4 nu le 0 fa dp = some (size, st, pc, be, 4, nu, le, 0, fa) := by
  have hFU := FU_ge
  unfold m_X3_readSum
  rw [hG, Option.bind_some]
  revert hFU; generalize FU = fu; intro hFU
  cases fu with
  | zero => omega
  | succ fu =>
    unfold m_X3_readSum_8
    rw [if_neg (by decide), f_sign, Option.bind_some, if_pos rfl, f_sign, Option.bind_some, if_pos rfl]
theorem f_test (hG : GC 2 st stk size sg ln pc be 4 nu le 0 fa dp = some (size, st, pc, be, 4, nu, le, 0, fa)) : m_X3_readTest GC st stk size sg ln pc be 4 nu le 0 fa dp = some (size, st, pc, be, 4, nu, le, 0, fa) := by
  unfold m_X3_readTest
  rw [hG, Option.bind_some, f_sign, Option.bind_some, if_pos rfl, f_sign, Option.bind_some, if_pos rfl]
theorem f_whole (hG : GC 1 st stk size sg ln pc be 4 nu le 0 fa dp = some (size, st, pc, be, 4, nu, le, 0, fa)) : m_X3_readWhole GC st stk size sg ln pc be 4 nu le 0 fa dp = some (size, st, pc, be, 4, nu, le, 0, fa) := by
  have hFU := FU_ge
  unfold m_X3_readWhole
  rw [hG, Option.bind_some]
  revert hFU; generalize FU = fu; intro hFU
  cases fu with
  | zero => omega
  | succ fu =>
    unfold m_X3_readWhole_8
    rw [if_neg (by decide), show m_X7_atWord 0 21 = some 0 from f_word (j := 20) (by omega), Option.bind_some, if_pos rfl, show m_X7_atWord 0 22 = some 0 from f_word (j := 21) (by omega), Option.bind_some, if_pos rfl]
theorem f_group (h1 : ¬ fa = 0) (k : Nat) : mG_X3 (k + 5) 0 st stk size sg ln pc be 4 nu le 0 fa dp = some (size, st, pc, be, 4, nu, le, 0, fa) := by
  have e4 : mG_X3 (k + 1) 4 st stk size sg ln pc be 4 nu le 0 fa dp = some (size, st, pc, be, 4, nu, le, 0, fa) := f_part (GC := mG_X3 k) (sg := sg) (ln := ln) (stk := stk) (dp := dp) h1
  have e3 : mG_X3 (k + 2) 3 st stk size sg ln pc be 4 nu le 0 fa dp = some (size, st, pc, be, 4, nu, le, 0, fa) := by rw [mG_X3]; exact f_prod e4
  have e2 : mG_X3 (k + 3) 2 st stk size sg ln pc be 4 nu le 0 fa dp = some (size, st, pc, be, 4, nu, le, 0, fa) := by rw [mG_X3]; exact f_sum e3
  have e1 : mG_X3 (k + 4) 1 st stk size sg ln pc be 4 nu le 0 fa dp = some (size, st, pc, be, 4, nu, le, 0, fa) := by rw [mG_X3]; exact f_test e2
  rw [mG_X3]
  exact f_whole e1
theorem at_any {K : Nat} {f : Nat → Int32} {i : Int32} (hK : K < 2 ^ 31) : OK (m_X11_at K f i) (fun _ => True) := by
  unfold m_X11_at
  refine OK.ite (fun _ => OK.ret trivial) (fun h1 => OK.ite (fun _ => OK.ret trivial) (fun h2 => OK.pos ?_ (OK.ret trivial)))
  intro z
  rcases z with z | z
  · exact h1 z
  · refine h2 ?_
    have e0 : (0 : Int32).toInt = 0 := by decide
    have h1' : ¬ i.toInt < 0 := fun z => h1 (by rw [Int32.lt_iff_toInt_lt, e0]; exact z)
    rw [Int32.le_iff_toInt_le]
    have : (Int32.ofNat K).toInt = K := nI_toInt hK
    rw [this]
    have e2 : i.toNatClampNeg = i.toInt.toNat := rfl
    rw [e2] at z
    omega
theorem turn_any {x y : Int32} : OK (m_X6_turnFeeling ff x y) (fun _ => True) := by
  unfold m_X6_turnFeeling m_X11_bit
  exact OK.bd (at_any (by omega)) (fun _ _ => OK.eq rfl (OK.bd (put_any (by omega)) (fun _ _ => OK.ret trivial)))
end FAULT
