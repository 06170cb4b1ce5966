/-! PURE: numbers -/
theorem pn_mul (a b : Nat) : nI a * nI b = nI (a * b) := (Int32.ofNat_mul a b).symm
theorem pn_inj {x y : Int32} (h : x.toInt = y.toInt) : x = y := Int32.toInt_inj.mp h
theorem pn_sub {a b : Nat} (h : b ≤ a) : nI a - nI b = nI (a - b) := by
  have : nI (a - b) + nI b = nI a := by rw [nI_add, Nat.sub_add_cancel h]
  rw [← this, Int32.add_sub_cancel]
theorem pn_div {a b : Nat} (ha : a < 2 ^ 31) (hb : b < 2 ^ 31) : nI a / nI b = nI (a / b) := by
  have hq : a / b < 2 ^ 31 := Nat.lt_of_le_of_lt (Nat.div_le_self a b) ha
  refine pn_inj ?_
  rw [Int32.toInt_div, nI_toInt ha, nI_toInt hb, nI_toInt hq]
  rw [show ((a : Int).tdiv (b : Int)) = ((a / b : Nat) : Int) from rfl]
  generalize a / b = x at hq ⊢
  rw [Int.bmod_eq_of_le] <;> omega
theorem pn_nn {j : Nat} (h : j < 2 ^ 31) : ¬ nI j < 0 := nI_pos h
/-- the index of a row, as the mirrors ask for it -/
theorem pn_ok {j N : Nat} (h : j < N) (hN : N < 2 ^ 31) : ¬ (nI j < 0 ∨ N ≤ (nI j).toNatClampNeg) := nI_in h hN
theorem p_at {N j : Nat} {f : Nat → Int32} (h : j < N) (hN : N < 2 ^ 31) : m_X11_at N f (nI j) = some (f j) := by
  unfold m_X11_at
  rw [if_neg (nI_pos (by omega)), if_neg (show ¬ Int32.ofNat N ≤ nI j from nI_ge h hN), if_pos (nI_in h hN), nI_clamp (by omega)]
theorem p_put {N j : Nat} {f : Nat → Int32} {v : Int32} (h : j < N) (hN : N < 2 ^ 31) : m_X11_put N f (nI j) v = some (upd f j v) := by
  unfold m_X11_put
  rw [if_neg (nI_pos (by omega)), if_neg (show ¬ Int32.ofNat N ≤ nI j from nI_ge h hN), if_pos (nI_in h hN), nI_clamp (by omega)]
/-! what one weighs -/
def wtN (K L : Nat) : Nat := if K = 1 then (if L = 0 then 0 else L + 10) else if K = 2 then 2 * L else if K = 3 then L / 2 else L
theorem wtN_le {K L : Nat} (h : L ≤ 60) : wtN K L ≤ 120 := by
  unfold wtN
  repeat' split
  all_goals omega
/-- both sides' way to say it -/
def wtI (k v : Int32) : Int32 := if k = 1 then (if v ≤ 0 then 0 else v + 10) else if k = 2 then 2 * v else if k = 3 then v / 2 else v
theorem wtI_ok {K L : Nat} (hK : K ≤ 3) (hL : L ≤ 60) : wtI (nI K) (nI L) = nI (wtN K L) := by
  unfold wtI wtN
  have e1 : (nI K = 1) ↔ K = 1 := nI_eq (b := 1) (by omega) (by omega)
  have e2 : (nI K = 2) ↔ K = 2 := nI_eq (b := 2) (by omega) (by omega)
  have e3 : (nI K = 3) ↔ K = 3 := nI_eq (b := 3) (by omega) (by omega)
  have e0 : (nI L ≤ 0) ↔ L = 0 := (nI_leI (b := 0) (by omega) (by omega)).trans (by omega)
  simp only [e1, e2, e3, e0]
  repeat' split
  · rfl
  · exact nI_add L 10
  · exact pn_mul 2 L
  · exact pn_div (b := 2) (by omega) (by omega)
  · rfl
def sumW (K L : Nat → Nat) : Nat → Nat
  | 0 => 0
  | n + 1 => sumW K L n + wtN (K n) (L n)
theorem sumW_le {K L : Nat → Nat} : ∀ {n : Nat}, (∀ p, p < n → L p ≤ 60) → sumW K L n ≤ 120 * n
  | 0, _ => Nat.le_refl _
  | n + 1, h => by
    have h1 := sumW_le (K := K) (n := n) (fun p hp => h p (by omega))
    have h2 := wtN_le (K := K n) (h n (by omega))
    show sumW K L n + wtN (K n) (L n) ≤ 120 * (n + 1)
    omega
theorem sumW_cong {K L K' L' : Nat → Nat} : ∀ {n : Nat}, (∀ p, p < n → K p = K' p) → (∀ p, p < n → L p = L' p) → sumW K L n = sumW K' L' n
  | 0, _, _ => rfl
  | n + 1, h, h' => by
    show sumW K L n + wtN (K n) (L n) = sumW K' L' n + wtN (K' n) (L' n)
    rw [sumW_cong (n := n) (fun p hp => h p (by omega)) (fun p hp => h' p (by omega)), h n (by omega), h' n (by omega)]
theorem p_weight {K L j : Nat} {kf : Nat → Int32} (hj : j < 6) (hk : kf j = nI K) (hK : K ≤ 3) (hL : L ≤ 60) : m_X8_weight kf (nI j) (nI L) = some (nI (wtN K L)) := by
  unfold m_X8_weight
  rw [p_at hj (by omega), hk, ← wtI_ok hK hL]
  unfold wtI
  show (if nI K = 1 then (if nI L ≤ 0 then some 0 else some (nI L + 10)) else (if nI K = 2 then some (2 * nI L) else (if nI K = 3 then some (nI L / 2) else some (nI L)))) = _
  repeat' split
  all_goals rfl
theorem FU_big : ∃ f : Nat, FU = f + 10000 := ⟨FU - 10000, by decide⟩
theorem p_weightOfAll_loop {K L : Nat → Nat} {n : Nat} {kf lf : Nat → Int32} (hn : n ≤ 6) (hk : ∀ p, p < n → kf p = nI (K p) ∧ K p ≤ 3) (hl : ∀ p, p < n → lf p = nI (L p) ∧ L p ≤ 60) :
    ∀ (d i fu : Nat), i + d = n → d < fu → m_X8_weightOfAll_4 kf (nI n) lf fu (nI (sumW K L i)) (nI i) = some (nI (sumW K L n))
  | 0, i, fu + 1, h, _ => by
    have : i = n := by omega
    subst this
    unfold m_X8_weightOfAll_4
    rw [if_pos (nI_le (Nat.le_refl _) (by omega))]
  | d + 1, i, fu + 1, h, hf => by
    have hi : i < n := by omega
    unfold m_X8_weightOfAll_4
    rw [if_neg (nI_ge hi (by omega)), p_at (by omega) (by omega), (hl i hi).1]
    show Option.bind (m_X8_weight kf (nI i) (nI (L i))) _ = _
    rw [p_weight (by omega) (hk i hi).1 (hk i hi).2 (hl i hi).2]
    show m_X8_weightOfAll_4 kf (nI n) lf fu (nI (sumW K L i) + nI (wtN (K i) (L i))) (nI i + 1) = _
    rw [nI_add, nI_1]
    exact p_weightOfAll_loop hn hk hl d (i + 1) fu (by omega) (by omega)
theorem p_weightOfAll {K L : Nat → Nat} {n : Nat} {kf lf : Nat → Int32} (hn : n ≤ 6) (hk : ∀ p, p < n → kf p = nI (K p) ∧ K p ≤ 3) (hl : ∀ p, p < n → lf p = nI (L p) ∧ L p ≤ 60) : m_X8_weightOfAll kf (nI n) lf = some (nI (sumW K L n)) := by
  obtain ⟨f, hf⟩ := FU_big
  unfold m_X8_weightOfAll
  rw [hf]
  exact p_weightOfAll_loop hn hk hl n 0 _ (by omega) (by omega)
/-! how high it stands -/
theorem pn_subI {a b : Nat} (ha : a < 2 ^ 30) (hb : b < 2 ^ 30) : (nI a - nI b).toInt = (a : Int) - b := by
  rw [Int32.toInt_sub, nI_toInt (by omega), nI_toInt (by omega)]
  rw [Int.bmod_eq_of_le] <;> omega
def dnN (r w S : Nat) : Nat := if r = 1 then (S + w - 1) / w else if r = 2 then (2 * S + w) / (2 * w) else S / w
def flagN (M w r S : Nat) : Nat := M - dnN r w S
theorem dnN_le {r w S : Nat} (hw : 1 ≤ w) : dnN r w S ≤ S + w + S := by
  unfold dnN
  repeat' split
  · exact Nat.le_trans (Nat.div_le_self _ _) (by omega)
  · exact Nat.le_trans (Nat.div_le_self _ _) (by omega)
  · exact Nat.le_trans (Nat.div_le_self _ _) (by omega)
theorem p_inches {S w r : Nat} (hS : S ≤ 1000) (hw : 1 ≤ w) (hw2 : w ≤ 20) (hr : r ≤ 2) : m_X8_inches (nI S) (nI w) (nI r) = some (nI (dnN r w S)) := by
  unfold m_X8_inches dnN
  have e1 : (nI r = 1) ↔ r = 1 := nI_eq (b := 1) (by omega) (by omega)
  have e2 : (nI r = 2) ↔ r = 2 := nI_eq (b := 2) (by omega) (by omega)
  have z : ¬ nI w = 0 := nI_ne0 (by omega) (by omega)
  have z2 : ¬ (2 : Int32) * nI w = 0 := by
    show ¬ nI 2 * nI w = 0
    rw [pn_mul]; exact nI_ne0 (by omega) (by omega)
  rw [if_pos (show (1 : Int32) ≤ nI w from nI_le (a := 1) hw (by omega))]
  simp only [e1, e2, if_pos z, if_pos z2]
  repeat' split
  · show some ((nI S + nI w - nI 1) / nI w) = _
    rw [nI_add, pn_sub (by omega), pn_div (by omega) (by omega)]
  · show some ((nI 2 * nI S + nI w) / (nI 2 * nI w)) = _
    rw [pn_mul, pn_mul, nI_add, pn_div (by omega) (by omega)]
  · rw [pn_div (by omega) (by omega)]
theorem p_flag0 {M d : Nat} (hM : M ≤ 99) (hd : d ≤ 5000) : (if 0 < nI M - nI d then nI M - nI d else 0) = nI (M - d) := by
  by_cases h : d < M
  · rw [if_pos ?_, pn_sub (by omega)]
    rw [pn_sub (by omega)]; exact nI_lt (a := 0) (by omega) (by omega)
  · rw [if_neg ?_, show M - d = 0 by omega]
    · rfl
    · rw [Int32.lt_iff_toInt_lt, pn_subI (by omega) (by omega)]
      show ¬ (0 : Int) < (M : Int) - d
      omega
theorem p_flagUnder {M S w r : Nat} (hM : M ≤ 99) (hS : S ≤ 1000) (hw : 1 ≤ w) (hw2 : w ≤ 20) (hr : r ≤ 2) : m_X8_flagUnder (nI M) (nI S) (nI w) (nI r) = some (nI (flagN M w r S)) := by
  unfold m_X8_flagUnder
  rw [p_inches hS hw hw2 hr]
  have hd := dnN_le (r := r) (S := S) hw
  show some (if 0 < nI M - nI (dnN r w S) then nI M - nI (dnN r w S) else 0) = _
  rw [p_flag0 hM (by omega)]
  rfl
/-- the model's clamp -/
theorem q_kept {v lo hi : Int32} : m_X12_kept v lo hi = some (if lo ≤ v then (if v ≤ hi then v else hi) else lo) := by
  unfold m_X12_kept
  repeat' split
  all_goals rfl
theorem q_flag0 {M d : Nat} (hM : M ≤ 99) (hd : d ≤ 5000) : (if 0 ≤ nI M - nI d then (if nI M - nI d ≤ 99 then nI M - nI d else 99) else 0) = nI (M - d) := by
  by_cases h : d ≤ M
  · rw [pn_sub h, if_pos (nI_pos' (by omega)), if_pos (show nI (M - d) ≤ 99 from nI_le (b := 99) (by omega) (by omega))]
  · rw [if_neg ?_, show M - d = 0 by omega]
    · rfl
    · rw [Int32.le_iff_toInt_le, pn_subI (by omega) (by omega)]
      show ¬ (0 : Int) ≤ (M : Int) - d
      omega
theorem q_highBy {tf : Nat → Int32} {M S w r : Nat} (hm : tf 1 = nI M) (hM : M ≤ 99) (hS : S ≤ 1000) (hw : 1 ≤ w) (hw2 : w ≤ 20) (hr : r ≤ 2) : m_X12_highBy tf (nI w) (nI r) (nI S) = some (nI (flagN M w r S)) := by
  have hd := dnN_le (r := r) (S := S) hw
  have key : ∀ t, t = nI (dnN r w S) → m_X12_highBy_55 tf (nI w) (nI r) (nI S) t = some (nI (flagN M w r S)) := by
    intro t ht
    subst ht
    unfold m_X12_highBy_55
    rw [q_kept]
    show some (if 0 ≤ tf 1 - nI (dnN r w S) then (if tf 1 - nI (dnN r w S) ≤ 99 then tf 1 - nI (dnN r w S) else 99) else 0) = _
    rw [hm, q_flag0 hM (by omega)]
    rfl
  unfold m_X12_highBy
  have e0 : (nI r = 0) ↔ r = 0 := nI_eq (b := 0) (by omega) (by omega)
  have e1 : (nI r = 1) ↔ r = 1 := nI_eq (b := 1) (by omega) (by omega)
  have z : ¬ nI w = 0 := nI_ne0 (by omega) (by omega)
  have z2 : ¬ (2 : Int32) * nI w = 0 := by
    show ¬ nI 2 * nI w = 0
    rw [pn_mul]; exact nI_ne0 (by omega) (by omega)
  simp only [e0, e1, if_pos z, if_pos z2]
  by_cases h0 : r = 0
  · rw [if_pos h0]
    refine key _ ?_
    rw [pn_div (by omega) (by omega)]
    unfold dnN; rw [if_neg (by omega), if_neg (by omega)]
  · rw [if_neg h0]
    by_cases h1 : r = 1
    · rw [if_pos h1]
      refine key _ ?_
      show (nI S + nI w - nI 1) / nI w = _
      rw [nI_add, pn_sub (by omega), pn_div (by omega) (by omega)]
      unfold dnN; rw [if_pos h1]
    · rw [if_neg h1]
      refine key _ ?_
      show (nI 2 * nI S + nI w) / (nI 2 * nI w) = _
      rw [pn_mul, pn_mul, nI_add, pn_div (by omega) (by omega)]
      unfold dnN; rw [if_neg h1, if_pos (by omega)]
/-! the model's sum -/
theorem q_persons {tf : Nat → Int32} : m_X12_persons tf = some (tf 0) := rfl
theorem q_personOf {tf : Nat → Int32} {p c : Nat} (hp : p < 6) (hc : c < 3) : m_X12_personOf tf (nI p) (nI c) = some (tf (5 + 3 * p + c)) := by
  have e : (5 : Int32) + 3 * nI p + nI c = nI (5 + 3 * p + c) := by
    show nI 5 + nI 3 * nI p + nI c = _
    rw [pn_mul, nI_add, nI_add]
  unfold m_X12_personOf
  rw [e, if_pos (nI_in (by omega) (by omega)), nI_clamp (by omega)]
theorem q_weighsOf {tf sf : Nat → Int32} {b p K L : Nat} (hb : b ≤ 1056) (hp : p < 6) (hk : tf (5 + 3 * p) = nI K) (hK : K ≤ 3) (hl : sf (b + 1 + p) = nI L) (hL : L ≤ 60) : m_X12_weighsOf tf sf (nI b) (nI p) = some (nI (wtN K L)) := by
  have e : nI b + 1 + nI p = nI (b + 1 + p) := by rw [nI_1, nI_add]
  unfold m_X12_weighsOf
  rw [e, if_pos (nI_in (by omega) (by omega)), nI_clamp (by omega), hl]
  show Option.bind (m_X12_personOf tf (nI p) (nI 0)) _ = _
  rw [q_personOf hp (by omega), show 5 + 3 * p + 0 = 5 + 3 * p from rfl, hk, ← wtI_ok hK hL]
  unfold wtI
  show (if nI K = 1 then (if nI L ≤ 0 then some 0 else some (nI L + 10)) else (if nI K = 2 then some (2 * nI L) else (if nI K = 3 then some (nI L / 2) else some (nI L)))) = _
  repeat' split
  all_goals rfl
theorem q_weighsAll_loop {K L : Nat → Nat} {n b : Nat} {tf sf : Nat → Int32} (hn : n ≤ 6) (hb : b ≤ 1056) (h0 : tf 0 = nI n) (hk : ∀ p, p < n → tf (5 + 3 * p) = nI (K p) ∧ K p ≤ 3) (hl : ∀ p, p < n → sf (b + 1 + p) = nI (L p) ∧ L p ≤ 60) :
    ∀ (d i fu : Nat), i + d = n → d < fu → m_X12_weighsAll_4 tf sf (nI b) fu (nI (sumW K L i)) (nI i) = some (nI (sumW K L n))
  | 0, i, fu + 1, h, _ => by
    have : i = n := by omega
    subst this
    unfold m_X12_weighsAll_4
    rw [q_persons, h0]
    show (if nI i ≤ nI i then _ else _) = _
    rw [if_pos (nI_le (Nat.le_refl _) (by omega))]
  | d + 1, i, fu + 1, h, hf => by
    have hi : i < n := by omega
    unfold m_X12_weighsAll_4
    rw [q_persons, h0]
    show (if nI n ≤ nI i then _ else _) = _
    rw [if_neg (nI_ge hi (by omega)), q_weighsOf hb (by omega) (hk i hi).1 (hk i hi).2 (hl i hi).1 (hl i hi).2]
    show m_X12_weighsAll_4 tf sf (nI b) fu (nI (sumW K L i) + nI (wtN (K i) (L i))) (nI i + 1) = _
    rw [nI_add, nI_1]
    exact q_weighsAll_loop hn hb h0 hk hl d (i + 1) fu (by omega) (by omega)
theorem q_weighsAll {K L : Nat → Nat} {n b : Nat} {tf sf : Nat → Int32} (hn : n ≤ 6) (hb : b ≤ 1056) (h0 : tf 0 = nI n) (hk : ∀ p, p < n → tf (5 + 3 * p) = nI (K p) ∧ K p ≤ 3) (hl : ∀ p, p < n → sf (b + 1 + p) = nI (L p) ∧ L p ≤ 60) : m_X12_weighsAll tf sf (nI b) = some (nI (sumW K L n)) := by
  obtain ⟨f, hf⟩ := FU_big
  unfold m_X12_weighsAll
  rw [hf]
  exact q_weighsAll_loop hn hb h0 hk hl n 0 _ (by omega) (by omega)
theorem q_highOf {K L : Nat → Nat} {n b M w r : Nat} {tf sf : Nat → Int32} (hn : n ≤ 6) (hb : b ≤ 1056) (h0 : tf 0 = nI n) (hm : tf 1 = nI M) (hM : M ≤ 99) (hw : 1 ≤ w) (hw2 : w ≤ 20) (hr : r ≤ 2) (hk : ∀ p, p < n → tf (5 + 3 * p) = nI (K p) ∧ K p ≤ 3) (hl : ∀ p, p < n → sf (b + 1 + p) = nI (L p) ∧ L p ≤ 60) :
    m_X12_highOf tf sf (nI w) (nI r) (nI b) = some (nI (flagN M w r (sumW K L n))) := by
  have hs := sumW_le (K := K) (n := n) (fun p hp => (hl p hp).2)
  unfold m_X12_highOf
  rw [q_weighsAll hn hb h0 hk hl]
  show Option.bind (m_X12_highBy tf (nI w) (nI r) (nI (sumW K L n))) _ = _
  rw [q_highBy hm hM (by omega) hw hw2 hr]
  rfl
theorem p_setFlag {K L : Nat → Nat} {n M w r : Nat} {kf lf : Nat → Int32} (hn : n ≤ 6) (hM : M ≤ 99) (hw : 1 ≤ w) (hw2 : w ≤ 20) (hr : r ≤ 2) (hk : ∀ p, p < n → kf p = nI (K p) ∧ K p ≤ 3) (hl : ∀ p, p < n → lf p = nI (L p) ∧ L p ≤ 60) :
    m_X1_setFlag lf kf (nI n) (nI M) (nI w) (nI r) = some (nI (flagN M w r (sumW K L n))) := by
  have hs := sumW_le (K := K) (n := n) (fun p hp => (hl p hp).2)
  unfold m_X1_setFlag
  rw [p_weightOfAll hn hk hl]
  show Option.bind (m_X8_flagUnder (nI M) (nI (sumW K L n)) (nI w) (nI r)) _ = _
  rw [p_flagUnder hM (by omega) hw hw2 hr]
  rfl
