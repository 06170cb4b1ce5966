/-! PURE: a day of the model, for one -/
theorem q_felt {Lv : Int32 → Int32 → Int32 → Int32 → Int32} {tf op ar sf lk : Nat → Int32} {wt rd hi x3 : Int32} {K11 : Int32 → Int32 → Int32 → (Nat → Int32) → (Nat → Int32) → (Nat → Int32) → (Nat → Int32) → Option (Int32 × (Nat → Int32) × (Nat → Int32) × (Nat → Int32) × (Nat → Int32))} {b p n F Lp : Nat} {L : Nat → Nat}
    (hLv : QLaw tf op ar Lv) (hn : n ≤ 6) (hb : b ≤ 1056) (h0 : tf 0 = nI n) (hp : p < n) (hf : sf (b + 7 + p) = nI F) (hF : F < 64) (hLp : Lp ≤ 60) (hl : ∀ o, o < n → sf (b + 1 + o) = nI (L o) ∧ L o ≤ 60) :
    ∀ (d o fu : Nat) (fa pl : Nat → Int32), o + d = n → d < fu →
      ∃ fa' pl', m_X12_passes_39 tf op ar wt rd (nI b) K11 fu hi x3 (nI p) (nI Lp) (nI (cntF F Lp L o)) (nI o) fa pl sf lk = m_X12_passes_163 tf op ar wt rd (nI b) K11 hi x3 (nI p) (nI Lp) (Lv (nI Lp) hi (nI (cntF F Lp L n)) (sf b)) (nI Lp) (nI p) fa' pl' sf lk
  | 0, o, fu + 1, fa, pl, h, _ => by
    have : o = n := by omega
    subst this
    rw [m_X12_passes_39, q_persons, h0, Option.bind_some, if_pos (nI_le (Nat.le_refl _) (by omega)), Int32.add_zero, if_pos (nI_in (show b < 1104 by omega) (by omega)), nI_clamp (show b < 2 ^ 31 by omega)]
    by_cases h4 : 0 ≤ tf (4 : Int32).toNatClampNeg
    · rw [if_pos h4]
      obtain ⟨v', e⟩ := hLv.1 h4 (upd (upd (upd (upd fa (0 : Int32).toNatClampNeg (nI Lp)) (1 : Int32).toNatClampNeg hi) (2 : Int32).toNatClampNeg (nI (cntF F Lp L o))) (3 : Int32).toNatClampNeg (sf b)) pl
      rw [show tf (4 : Int32).toNatClampNeg = tf 4 from rfl, e, Option.bind_some]
      exact ⟨_, _, rfl⟩
    · rw [if_neg h4, hLv.2 h4]
      exact ⟨_, _, rfl⟩
  | d + 1, o, fu + 1, fa, pl, h, hf' => by
    have ho : o < n := by omega
    have es : cntF F Lp L (o + 1) = cntF F Lp L o + (if F.testBit o = true ∧ Lp < L o then 1 else 0) := rfl
    have e1 : nI b + 1 + nI o = nI (b + 1 + o) := by rw [nI_1, nI_add]
    rw [m_X12_passes_39, q_persons, h0, Option.bind_some, if_neg (nI_ge ho (by omega)), q_doesFeel hb (show p < 6 by omega) (show o < 6 by omega) hf hF, Option.bind_some, nI_1, Int32.add_zero, e1, nI_clamp (show b + 1 + o < 2 ^ 31 by omega), (hl o ho).1, nI_1]
    have ih := q_felt (wt := wt) (rd := rd) (hi := hi) (x3 := x3) (K11 := K11) (lk := lk) hLv hn hb h0 hp hf hF hLp hl d (o + 1) fu fa pl (by omega) (by omega)
    by_cases hb' : F.testBit o = true
    · rw [if_pos hb', if_neg (show ¬ (1 : Int32) = 0 by decide), if_pos (pn_in2 (show b + 1 + o < 1104 by omega) (by omega))]
      by_cases hg : Lp < L o
      · rw [if_pos ⟨hb', hg⟩] at es
        rw [if_neg (nI_ge hg (by have := (hl o ho).2; omega)), ← es]
        exact ih
      · rw [if_neg (fun z => hg z.2)] at es
        rw [if_pos (nI_le (by omega) (by omega))]
        rw [es] at ih
        exact ih
    · rw [if_neg hb', if_pos rfl]
      rw [if_neg (fun z => hb' z.1)] at es
      rw [es] at ih
      exact ih
theorem q_one {tf op ar sf lk fa pl : Nat → Int32} {wt rd hi q more : Int32} {c : Bool} {K11 : Int32 → Int32 → Int32 → (Nat → Int32) → (Nat → Int32) → (Nat → Int32) → (Nat → Int32) → Option (Int32 × (Nat → Int32) × (Nat → Int32) × (Nat → Int32) × (Nat → Int32))} {p T Lp : Nat} (hp : p < 6) (hT : clI (nI Lp + clI more (-9) 9) 0 60 = nI T) (hT2 : T ≤ 60) (hLp : Lp ≤ 60) :
    m_X12_passes_163 tf op ar wt rd q K11 hi (chI c) (nI p) (nI Lp) more (nI Lp) (nI p) fa pl sf lk = K11 hi (chI (c || !(T == Lp))) (nI (p + 1)) fa pl sf (upd lk p (nI T)) := by
  unfold m_X12_passes_163
  rw [q_kept', Option.bind_some, q_kept', Option.bind_some, hT, if_pos (nI_in hp (by omega)), nI_clamp (show p < 2 ^ 31 by omega), nI_1]
  have eu : upd lk p (nI T) p = nI T := by unfold upd; rw [if_pos rfl]
  rw [eu]
  cases c with
  | false =>
    rw [if_pos (show chI false = 0 from rfl), if_pos (pn_in2 hp (by omega))]
    by_cases e : T = Lp
    · rw [if_pos (by rw [e]), e]
      simp [chI]
    · rw [if_neg (fun z => e ((nI_eq (by omega) (by omega)).mp z))]
      have : (T == Lp) = false := by simpa using e
      rw [this]
      simp [chI]
  | true =>
    rw [if_neg (show ¬ chI true = 0 by decide)]
    simp [chI]
theorem cntF_6 {F Lp n : Nat} {L : Nat → Nat} (hn : n ≤ 6) (h : F < 2 ^ n) : cntF F Lp L n = cntF F Lp L 6 := by
  have := cntF_stop (Lp := Lp) (L := L) h (6 - n)
  rw [show n + (6 - n) = 6 by omega] at this
  exact this.symm
/-- the model's first loop of a day -/
theorem q_day1 {Lv : Int32 → Int32 → Int32 → Int32 → Int32} {tf op ar sf : Nat → Int32} {wt rd hi : Int32} {b n : Nat} {F L : Nat → Nat}
    (hLv : QLaw tf op ar Lv) (hn : n ≤ 6) (hb : b ≤ 1056) (h0 : tf 0 = nI n) (hf : ∀ p, p < n → sf (b + 7 + p) = nI (F p) ∧ F p < 2 ^ n) (hl : ∀ o, o < n → sf (b + 1 + o) = nI (L o) ∧ L o ≤ 60) :
    ∀ (d i fu : Nat) (fa pl lk : Nat → Int32), i + d = n → d < fu → (∀ j, j < i → lk j = nI (tmN Lv hi (sf b) F L j)) →
      ∃ fa' pl' lk', (∀ j, j < n → lk' j = nI (tmN Lv hi (sf b) F L j)) ∧ m_X12_passes_11 tf op ar wt rd (nI b) fu hi (chI (chg (tmN Lv hi (sf b) F L) L i)) (nI i) fa pl sf lk = m_X12_passes_209 tf op ar wt rd (nI b) FU (chI (chg (tmN Lv hi (sf b) F L) L n)) 0 fa' pl' sf lk'
  | 0, i, fu + 1, fa, pl, lk, h, _, hx => by
    have : i = n := by omega
    subst this
    refine ⟨fa, pl, lk, hx, ?_⟩
    rw [m_X12_passes_11, q_persons, h0, Option.bind_some, if_pos (nI_le (Nat.le_refl _) (by omega))]
  | d + 1, i, fu + 1, fa, pl, lk, h, hfu, hx => by
    have hi' : i < n := by omega
    have e1 : nI b + 1 + nI i = nI (b + 1 + i) := by rw [nI_1, nI_add]
    have h64 : F i < 64 := Nat.lt_of_lt_of_le (hf i hi').2 (Nat.pow_le_pow_right (n := 2) (by omega) (show n ≤ 6 from hn))
    obtain ⟨fa1, pl1, e2⟩ := q_felt (wt := wt) (rd := rd) (hi := hi) (x3 := chI (chg (tmN Lv hi (sf b) F L) L i)) (K11 := m_X12_passes_11 tf op ar wt rd (nI b) fu) (lk := lk) hLv hn hb h0 hi' (hf i hi').1 h64 (hl i hi').2 hl n 0 FU fa pl (by omega) (by have := FU_ge; omega)
    rw [m_X12_passes_11, q_persons, h0, Option.bind_some, if_neg (nI_ge hi' (by omega)), e1, if_pos (nI_in (show b + 1 + i < 1104 by omega) (by omega)), nI_clamp (show b + 1 + i < 2 ^ 31 by omega), Option.bind_some, (hl i hi').1]
    have e2' := e2
    rw [cntF_6 hn (hf i hi').2, q_one (T := tmN Lv hi (sf b) F L i) (show i < 6 by omega) tm_ok.1 tm_ok.2 (hl i hi').2] at e2'
    obtain ⟨fa', pl', lk', k1, k2⟩ := q_day1 (wt := wt) (rd := rd) (hi := hi) hLv hn hb h0 hf hl d (i + 1) fu fa1 pl1 (upd lk i (nI (tmN Lv hi (sf b) F L i))) (by omega) (by omega) (by
      intro j hj
      unfold upd
      by_cases e : j = i
      · rw [if_pos e, e]
      · rw [if_neg e]; exact hx j (by omega))
    exact ⟨fa', pl', lk', k1, e2'.trans k2⟩
/-- the model's second loop of a day -/
theorem q_day2 {tf op ar lk fa pl : Nat → Int32} {wt rd : Int32} {c : Bool} {b n : Nat} (hn : n ≤ 6) (hb : b ≤ 1056) (h0 : tf 0 = nI n) :
    ∀ (d i fu : Nat) (sf : Nat → Int32), i + d = n → d < fu →
      ∃ sf', (∀ j, j < n → i ≤ j → sf' (b + 1 + j) = lk j) ∧ sf' b = sf b + 1 ∧ (∀ k, k ≠ b → (∀ j, j < n → i ≤ j → k ≠ b + 1 + j) → sf' k = sf k) ∧
        m_X12_passes_209 tf op ar wt rd (nI b) fu (chI c) (nI i) fa pl sf lk = some (chI c, fa, pl, sf', lk)
  | 0, i, fu + 1, sf, h, _ => by
    have : i = n := by omega
    subst this
    refine ⟨upd sf b (sf b + 1), fun j h1 h2 => by omega, by unfold upd; rw [if_pos rfl], fun k hk _ => by unfold upd; rw [if_neg hk], ?_⟩
    rw [m_X12_passes_209, q_persons, h0, Option.bind_some, if_pos (nI_le (Nat.le_refl _) (by omega)), Int32.add_zero, if_pos (nI_in (show b < 1104 by omega) (by omega)), if_pos (nI_in (show b < 1104 by omega) (by omega)), if_pos (ch_01 c), nI_clamp (show b < 2 ^ 31 by omega)]
  | d + 1, i, fu + 1, sf, h, hf => by
    have hi : i < n := by omega
    have e1 : nI b + 1 + nI i = nI (b + 1 + i) := by rw [nI_1, nI_add]
    obtain ⟨sf', k1, k2, k3, k4⟩ := q_day2 (op := op) (ar := ar) (lk := lk) (fa := fa) (pl := pl) (wt := wt) (rd := rd) (c := c) hn hb h0 d (i + 1) fu (upd sf (b + 1 + i) (lk i)) (by omega) (by omega)
    refine ⟨sf', fun j hj hij => ?_, ?_, fun k hk hk2 => ?_, ?_⟩
    · by_cases e : j = i
      · subst e
        rw [k3 (b + 1 + j) (by omega) (fun j' h1 h2 => by omega)]
        unfold upd; rw [if_pos rfl]
      · exact k1 j hj (by omega)
    · rw [k2]; unfold upd; rw [if_neg (by omega)]
    · rw [k3 k hk (fun j hj hij => hk2 j hj (by omega))]
      unfold upd; rw [if_neg (hk2 i hi (Nat.le_refl _))]
    · rw [m_X12_passes_209, q_persons, h0, Option.bind_some, if_neg (nI_ge hi (by omega)), if_pos (nI_in (show i < 6 by omega) (by omega)), e1, if_pos (nI_in (show b + 1 + i < 1104 by omega) (by omega)), nI_clamp (show i < 2 ^ 31 by omega), nI_clamp (show b + 1 + i < 2 ^ 31 by omega), nI_1]
      exact k4
/-- the model's day -/
theorem q_day {Lv : Int32 → Int32 → Int32 → Int32 → Int32} {tf op ar sf fa pl lk : Nat → Int32} {b n M w r : Nat} {K F L : Nat → Nat}
    (hLv : QLaw tf op ar Lv) (hn : n ≤ 6) (hb : b ≤ 1056) (h0 : tf 0 = nI n) (hm : tf 1 = nI M) (hM : M ≤ 99) (hw : 1 ≤ w) (hw2 : w ≤ 20) (hr : r ≤ 2) (hk : ∀ p, p < n → tf (5 + 3 * p) = nI (K p) ∧ K p ≤ 3) (hf : ∀ p, p < n → sf (b + 7 + p) = nI (F p) ∧ F p < 2 ^ n) (hl : ∀ o, o < n → sf (b + 1 + o) = nI (L o) ∧ L o ≤ 60) :
    ∃ fa' pl' sf' lk', (∀ j, j < n → sf' (b + 1 + j) = nI (tmN Lv (nI (flagN M w r (sumW K L n))) (sf b) F L j)) ∧ sf' b = sf b + 1 ∧ (∀ k, k ≠ b → (∀ j, j < n → k ≠ b + 1 + j) → sf' k = sf k) ∧
      m_X12_passes tf op ar fa pl sf (nI w) (nI r) lk (nI b) = some (chI (chg (tmN Lv (nI (flagN M w r (sumW K L n))) (sf b) F L) L n), fa', pl', sf', lk') := by
  obtain ⟨fa', pl', lk', k1, k2⟩ := q_day1 (wt := nI w) (rd := nI r) (hi := nI (flagN M w r (sumW K L n))) hLv hn hb h0 hf hl n 0 FU fa pl lk (by omega) (by have := FU_ge; omega) (fun j hj => by omega)
  obtain ⟨sf', l1, l2, l3, l4⟩ := q_day2 (op := op) (ar := ar) (lk := lk') (fa := fa') (pl := pl') (wt := nI w) (rd := nI r) (c := chg (tmN Lv (nI (flagN M w r (sumW K L n))) (sf b) F L) L n) hn hb h0 n 0 FU sf (by omega) (by have := FU_ge; omega)
  refine ⟨fa', pl', sf', lk', fun j hj => (l1 j hj (Nat.zero_le _)).trans (k1 j hj), l2, fun k h1 h2 => l3 k h1 (fun j hj _ => h2 j hj), ?_⟩
  unfold m_X12_passes
  rw [q_highOf hn hb h0 hm hM hw hw2 hr hk hl, Option.bind_some]
  exact k2.trans l4
