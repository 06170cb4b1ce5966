/-! PURE: the model cuts all tokens ahead -/
def vOK (T : Nat → Nat) (q s e : Nat) (v : Int64) : Prop := (s = 1 → v = lN (cdT 37 T q (e - q))) ∧ (s = 2 → v = lN (nmT T q (e - q))) ∧ (s = 3 → v = lN (T q))
def QA (T : Nat → Nat) (Z N : Nat) (P : Nat → Nat) (so pl : Nat → Int32) (va : Nat → Int64) : Prop :=
  N ≤ Z ∧ Run blk T Z 0 (P 0) ∧ P N = Z ∧ pl N = nI Z ∧ so N = 0 ∧ ∀ n, n < N → P n < Z ∧ ∃ s e, Tok T Z (P n) s e ∧ pl n = nI (P n) ∧ so n = nI s ∧ vOK T (P n) s e (va n) ∧ Run blk T Z e (P (n + 1))
def CI (T : Nat → Nat) (Z n k : Nat) (so pl : Nat → Int32) (va : Nat → Int64) : Prop :=
  ∃ (P : Nat → Nat) (e0 : Nat), n ≤ e0 ∧ e0 ≤ k ∧ k ≤ Z ∧ (∀ j, e0 ≤ j → j < k → blk (T j)) ∧ (n = 0 → e0 = 0) ∧ (0 < n → Run blk T Z 0 (P 0)) ∧ ∀ i, i < n → P i < Z ∧ ∃ s e, Tok T Z (P i) s e ∧ pl i = nI (P i) ∧ so i = nI s ∧ vOK T (P i) s e (va i) ∧ (i + 1 = n → e = e0) ∧ (i + 1 < n → Run blk T Z e (P (i + 1)))
section CUT
variable {Z : Nat} {T : Nat → Nat} {sg tp : Nat → Int32} {ln tn : Int32}
theorem CI.skip {n k : Nat} {so pl : Nat → Int32} {va : Nat → Int64} (h : CI T Z n k so pl va) (hk : k < Z) (hb : blk (T k)) : CI T Z n (k + 1) so pl va := by
  obtain ⟨P, e0, h1, h2, h3, h4, h5, h6, h7⟩ := h
  exact ⟨P, e0, h1, by omega, by omega, fun j a b => by
    by_cases z : j = k
    · rw [z]; exact hb
    · exact h4 j a (by omega), h5, h6, h7⟩
theorem CI.step {n k s e : Nat} {so pl : Nat → Int32} {va : Nat → Int64} {v : Int64} (h : CI T Z n k so pl va) (hk : k < Z) (hb : ¬ blk (T k)) (ht : Tok T Z k s e) (hv : vOK T k s e v) : CI T Z (n + 1) e (upd so n (nI s)) (upd pl n (nI k)) (vp_updL va n v) := by
  obtain ⟨P, e0, h1, h2, h3, h4, h5, h6, h7⟩ := h
  have hr : Run blk T Z e0 k := ⟨h2, h3, h4, fun _ => hb⟩
  have hte := ht.ends
  refine ⟨setL P n k, e, by have := hte.2.2.2.1 hk; omega, by omega, hte.2.1, fun j a b => by omega, fun z => by omega, fun _ => ?_, fun i hi => ?_⟩
  · show Run blk T Z 0 (if 0 = n then k else P 0)
    by_cases z : 0 = n
    · rw [if_pos z, ← h5 z.symm]; exact hr
    · rw [if_neg z]; exact h6 (by omega)
  · have ePi : setL P n k i = (if i = n then k else P i) := rfl
    have ePj : setL P n k (i + 1) = (if i + 1 = n then k else P (i + 1)) := rfl
    rw [ePi, ePj]
    unfold upd vp_updL
    by_cases z : i = n
    · rw [if_pos z, if_pos z, if_pos z, if_pos z]
      exact ⟨hk, s, e, ht, rfl, rfl, hv, fun _ => rfl, fun y => by omega⟩
    · rw [if_neg z, if_neg z, if_neg z, if_neg z]
      obtain ⟨g1, s', e', g2, g3, g4, g5, g6, g7⟩ := h7 i (by omega)
      refine ⟨g1, s', e', g2, g3, g4, g5, fun y => by omega, fun y => ?_⟩
      by_cases y2 : i + 1 = n
      · rw [if_pos y2, g6 y2]; exact hr
      · rw [if_neg y2]; exact g7 (by omega)
theorem CI.done {n : Nat} {so pl : Nat → Int32} {va : Nat → Int64} (h : CI T Z n Z so pl va) : ∃ P, QA T Z n P (upd so n 0) (upd pl n (nI Z)) va := by
  obtain ⟨P, e0, h1, h2, h3, h4, h5, h6, h7⟩ := h
  have hr : Run blk T Z e0 Z := ⟨h2, h3, h4, fun z => by omega⟩
  refine ⟨setL P n Z, by omega, ?_, ?_, ?_, ?_, fun i hi => ?_⟩
  · show Run blk T Z 0 (if 0 = n then Z else P 0)
    by_cases z : 0 = n
    · rw [if_pos z, ← h5 z.symm]; exact hr
    · rw [if_neg z]; exact h6 (by omega)
  · show (if n = n then Z else P n) = Z
    rw [if_pos rfl]
  · unfold upd; rw [if_pos rfl]
  · unfold upd; rw [if_pos rfl]
  · have ePi : setL P n Z i = P i := by show (if i = n then Z else P i) = P i; rw [if_neg (by omega)]
    have ePj : setL P n Z (i + 1) = (if i + 1 = n then Z else P (i + 1)) := rfl
    rw [ePi, ePj]
    unfold upd
    rw [if_neg (by omega), if_neg (by omega)]
    obtain ⟨g1, s', e', g2, g3, g4, g5, g6, g7⟩ := h7 i hi
    refine ⟨g1, s', e', g2, g3, g4, g5, ?_⟩
    by_cases y2 : i + 1 = n
    · rw [if_pos y2, g6 y2]; exact hr
    · rw [if_neg y2]; exact g7 (by omega)
theorem rank_l {c : Nat} (hl : ltr c) (hc : c ≤ 126) : m_X12_rank (nI c) = some (nI (c - 96)) := by
  unfold m_X12_rank
  rcases is_l hc with ⟨-, -, e⟩ | ⟨z, -, -⟩
  · unfold ltr at hl
    rw [e, Option.bind_some, if_neg (by decide), show nI c - 96 = nI (c - 96) from pn_sub (b := 96) (by omega)]
  · exact absurd hl z
theorem q_word_loop (h : TP Z T sg tp ln tn) {q n : Nat} {tn' at0 fa0 : Int32} {so pl : Nat → Int32} {va : Nat → Int64} (hn : n < 1002) (hq : q < Z) (hlq : ltr (T q)) {K17 : Int32 → Int32 → Int32 → Int32 → Int32 → Int32 → (Nat → Int32) → (Nat → Int32) → (Nat → Int64) → Option (Int32 × Int32 × Int32 × Int32 × (Nat → Int32) × (Nat → Int32) × (Nat → Int64))} :
    ∀ (c k fu : Nat), q + k + c = Z → c < fu → (∀ j, j < k → ltr (T (q + j))) →
      ∃ s e v, Tok T Z q s e ∧ vOK T q s e v ∧ m_X12_cutAll_70 tp K17 fu (nI n) (nI (q + k)) (nI q) (lN (cdT 37 T q (if k ≤ 8 then k else 8))) tn' (nI Z) at0 fa0 so pl va = K17 (nI (n + 1)) (nI e) tn' (nI Z) at0 fa0 (upd so n (nI s)) pl (vp_updL va n v) := by
  have hZ := h.1
  have fin : ∀ k, q + k ≤ Z → (∀ j, j < k → ltr (T (q + j))) → (q + k < Z → ¬ ltr (T (q + k))) → ∃ s e v, Tok T Z q s e ∧ vOK T q s e v ∧ m_X12_cutAll_129 tp K17 (nI n) (nI (q + k)) (nI q) (lN (cdT 37 T q (if k ≤ 8 then k else 8))) tn' (nI Z) at0 fa0 so pl va = K17 (nI (n + 1)) (nI e) tn' (nI Z) at0 fa0 (upd so n (nI s)) pl (vp_updL va n v) := by
    intro k hk hl hnl
    have hr : Run ltr T Z q (q + k) := ⟨by omega, hk, fun j h1 h2 => by have := hl (j - q) (by omega); rw [show q + (j - q) = j by omega] at this; exact this, hnl⟩
    unfold m_X12_cutAll_129 m_X12_cutAll_148 m_X12_cutAll_265
    rw [pn_sub (show q ≤ q + k by omega), show q + k - q = k by omega, nI_clamp (show n < 2 ^ 31 by omega), nI_1]
    by_cases h8 : k ≤ 8
    · refine ⟨1, q + k, lN (cdT 37 T q k), Or.inr (Or.inl ⟨hq, hlq, hr, by rw [if_pos (by omega)]⟩), ⟨fun _ => by rw [show q + k - q = k by omega], fun z => by omega, fun z => by omega⟩, ?_⟩
      rw [if_pos (show nI k ≤ 8 from nI_le (b := 8) h8 (by omega)), if_pos h8, if_pos (pn_in2 hn (by omega)), if_pos (pn_in2 hn (by omega))]
      rfl
    · refine ⟨4, q + k, lN (cdT 37 T q 8), Or.inr (Or.inl ⟨hq, hlq, hr, by rw [if_neg (by omega)]⟩), ⟨fun z => by omega, fun z => by omega, fun z => by omega⟩, ?_⟩
      rw [if_neg (show ¬ nI k ≤ 8 from nI_ge (a := 8) (by omega) (by omega)), if_neg h8, if_pos (pn_in2 hn (by omega)), if_pos (pn_in2 hn (by omega))]
      rfl
  intro c
  induction c with
  | zero =>
    intro k fu hc hf hl
    obtain ⟨f, rfl⟩ : ∃ f, fu = f + 1 := ⟨fu - 1, by omega⟩
    rw [m_X12_cutAll_70, if_pos (nI_le (by omega) (by omega))]
    exact fin k (by omega) hl (fun z => by omega)
  | succ c ih =>
    intro k fu hc hf hl
    obtain ⟨f, rfl⟩ : ∃ f, fu = f + 1 := ⟨fu - 1, by omega⟩
    have hi : q + k < Z := by omega
    have et := (h.2.2.2 (q + k) hi).2.1
    rw [m_X12_cutAll_70, if_neg (nI_ge (by omega) (by omega)), nI_clamp (show q + k < 2 ^ 31 by omega), if_pos (pn_in2 (by omega) (by omega)), if_pos (pn_in2 (by omega) (by omega)), et]
    rcases is_l (chT h hi) with ⟨l1, -, l2⟩ | ⟨l1, -, l2⟩
    · have hl' : ∀ j, j < k + 1 → ltr (T (q + j)) := fun j hj => by
        by_cases z : j = k
        · rw [z]; exact l1
        · exact hl j (by omega)
      have ih' := ih (k + 1) f (by omega) (by omega) hl'
      rw [l2, Option.bind_some, if_neg (by decide), pn_sub (show q ≤ q + k by omega), show q + k - q = k by omega, nI_1, rank_l l1 (chT h hi), Option.bind_some]
      by_cases h8 : 8 ≤ k
      · rw [if_pos (show (8 : Int32) ≤ nI k from nI_le (a := 8) h8 (by omega)), show (if k ≤ 8 then k else 8) = 8 by split <;> omega]
        rw [show (if k + 1 ≤ 8 then k + 1 else 8) = 8 by rw [if_neg (by omega)]] at ih'
        exact ih'
      · rw [if_neg (show ¬ (8 : Int32) ≤ nI k from nI_ge (b := 8) (by omega) (by omega)), show (if k ≤ 8 then k else 8) = k by rw [if_pos (by omega)], nI_l (show T (q + k) - 96 < 2 ^ 31 by have := chT h hi; omega), show (37 : Int64) = lN 37 from rfl, lN_mul, lN_add, show 37 * cdT 37 T q k + (T (q + k) - 96) = cdT 37 T q (k + 1) by show _ = cdT 37 T q k * 37 + (T (q + k) - 96); rw [Nat.mul_comm]]
        rw [show (if k + 1 ≤ 8 then k + 1 else 8) = k + 1 by rw [if_pos (by omega)]] at ih'
        exact ih'
    · rw [l2, Option.bind_some, if_pos rfl]
      exact fin k (by omega) hl (fun _ => l1)
theorem q_num_loop (h : TP Z T sg tp ln tn) {q n : Nat} {tn' at0 fa0 : Int32} {so pl : Nat → Int32} {va : Nat → Int64} (hn : n < 1002) (hq : q < Z) (hlq : dgt (T q)) {K17 : Int32 → Int32 → Int32 → Int32 → Int32 → Int32 → (Nat → Int32) → (Nat → Int32) → (Nat → Int64) → Option (Int32 × Int32 × Int32 × Int32 × (Nat → Int32) × (Nat → Int32) × (Nat → Int64))} :
    ∀ (c k fu : Nat), q + k + c = Z → c < fu → (∀ j, j < k → dgt (T (q + j))) →
      ∃ s e v, Tok T Z q s e ∧ vOK T q s e v ∧ m_X12_cutAll_159 tp K17 fu (nI n) (nI (q + k)) (nI q) (lN (nmT T q (if k ≤ 4 then k else 4))) tn' (nI Z) at0 fa0 so pl va = K17 (nI (n + 1)) (nI e) tn' (nI Z) at0 fa0 (upd so n (nI s)) pl (vp_updL va n v) := by
  have hZ := h.1
  have fin : ∀ k, q + k ≤ Z → (∀ j, j < k → dgt (T (q + j))) → (q + k < Z → ¬ dgt (T (q + k))) → ∃ s e v, Tok T Z q s e ∧ vOK T q s e v ∧ m_X12_cutAll_218 tp K17 (nI n) (nI (q + k)) (nI q) (lN (nmT T q (if k ≤ 4 then k else 4))) tn' (nI Z) at0 fa0 so pl va = K17 (nI (n + 1)) (nI e) tn' (nI Z) at0 fa0 (upd so n (nI s)) pl (vp_updL va n v) := by
    intro k hk hl hnl
    have hr : Run dgt T Z q (q + k) := ⟨by omega, hk, fun j h1 h2 => by have := hl (j - q) (by omega); rw [show q + (j - q) = j by omega] at this; exact this, hnl⟩
    unfold m_X12_cutAll_218 m_X12_cutAll_236 m_X12_cutAll_265
    rw [pn_sub (show q ≤ q + k by omega), show q + k - q = k by omega, nI_clamp (show n < 2 ^ 31 by omega), nI_1]
    by_cases h8 : k ≤ 4
    · refine ⟨2, q + k, lN (nmT T q k), Or.inr (Or.inr (Or.inl ⟨hq, hlq, hr, by rw [if_pos (by omega)]⟩)), ⟨fun z => by omega, fun _ => by rw [show q + k - q = k by omega], fun z => by omega⟩, ?_⟩
      rw [if_pos (show nI k ≤ 4 from nI_le (b := 4) h8 (by omega)), if_pos h8, if_pos (pn_in2 hn (by omega)), if_pos (pn_in2 hn (by omega))]
      rfl
    · refine ⟨4, q + k, lN (nmT T q 4), Or.inr (Or.inr (Or.inl ⟨hq, hlq, hr, by rw [if_neg (by omega)]⟩)), ⟨fun z => by omega, fun z => by omega, fun z => by omega⟩, ?_⟩
      rw [if_neg (show ¬ nI k ≤ 4 from nI_ge (a := 4) (by omega) (by omega)), if_neg h8, if_pos (pn_in2 hn (by omega)), if_pos (pn_in2 hn (by omega))]
      rfl
  intro c
  induction c with
  | zero =>
    intro k fu hc hf hl
    obtain ⟨f, rfl⟩ : ∃ f, fu = f + 1 := ⟨fu - 1, by omega⟩
    rw [m_X12_cutAll_159, if_pos (nI_le (by omega) (by omega))]
    exact fin k (by omega) hl (fun z => by omega)
  | succ c ih =>
    intro k fu hc hf hl
    obtain ⟨f, rfl⟩ : ∃ f, fu = f + 1 := ⟨fu - 1, by omega⟩
    have hi : q + k < Z := by omega
    have et := (h.2.2.2 (q + k) hi).2.1
    rw [m_X12_cutAll_159, if_neg (nI_ge (by omega) (by omega)), nI_clamp (show q + k < 2 ^ 31 by omega), if_pos (pn_in2 (by omega) (by omega)), if_pos (pn_in2 (by omega) (by omega)), et]
    rcases is_d (chT h hi) with ⟨l1, -, l2⟩ | ⟨l1, -, l2⟩
    · have hl' : ∀ j, j < k + 1 → dgt (T (q + j)) := fun j hj => by
        by_cases z : j = k
        · rw [z]; exact l1
        · exact hl j (by omega)
      have ih' := ih (k + 1) f (by omega) (by omega) hl'
      rw [l2, Option.bind_some, if_neg (by decide), pn_sub (show q ≤ q + k by omega), show q + k - q = k by omega, nI_1, Option.bind_some]
      by_cases h8 : 4 ≤ k
      · rw [if_pos (show (4 : Int32) ≤ nI k from nI_le (a := 4) h8 (by omega)), show (if k ≤ 4 then k else 4) = 4 by split <;> omega]
        rw [show (if k + 1 ≤ 4 then k + 1 else 4) = 4 by rw [if_neg (by omega)]] at ih'
        exact ih'
      · rw [if_neg (show ¬ (4 : Int32) ≤ nI k from nI_ge (b := 4) (by omega) (by omega)), show (if k ≤ 4 then k else 4) = k by rw [if_pos (by omega)], nI_l (show T (q + k) < 2 ^ 31 by have := chT h hi; omega), show (10 : Int64) = lN 10 from rfl, lN_mul, lN_add, show (48 : Int64) = lN 48 from rfl, lN_sub (by unfold dgt at l1; omega), show 10 * nmT T q k + T (q + k) - 48 = nmT T q (k + 1) by show _ = nmT T q k * 10 + (T (q + k) - 48); unfold dgt at l1; omega]
        rw [show (if k + 1 ≤ 4 then k + 1 else 4) = k + 1 by rw [if_pos (by omega)]] at ih'
        exact ih'
    · rw [l2, Option.bind_some, if_pos rfl]
      exact fin k (by omega) hl (fun _ => l1)
theorem q_cut_loop (h : TP Z T sg tp ln tn) {tn' at0 fa0 : Int32} : ∀ (c n k fu : Nat) (so pl : Nat → Int32) (va : Nat → Int64), Z - k ≤ c → c < fu → CI T Z n k so pl va →
    OK (m_X12_cutAll_17 tp fu (nI n) (nI k) tn' (nI Z) at0 fa0 so pl va) (fun R => R.1 = tn' ∧ R.2.1 = nI Z ∧ R.2.2.1 = 0 ∧ R.2.2.2.1 = 0 ∧ ∃ N P, QA T Z N P R.2.2.2.2.1 R.2.2.2.2.2.1 R.2.2.2.2.2.2) := by
  have hZ := h.1
  intro c
  induction c with
  | zero =>
    intro n k fu so pl va hc hf hI
    obtain ⟨f, rfl⟩ : ∃ f, fu = f + 1 := ⟨fu - 1, by omega⟩
    have hk : k = Z := by obtain ⟨P, e0, h1, h2, h3, -⟩ := hI; omega
    have hn : n ≤ Z := by obtain ⟨P, e0, h1, h2, h3, -⟩ := hI; omega
    subst hk
    rw [m_X12_cutAll_17, nI_clamp (show n < 2 ^ 31 by omega)]
    exact OK.pos (nI_le (by omega) (by omega)) (OK.pos (pn_in2 (by omega) (by omega)) (OK.pos (pn_in2 (by omega) (by omega)) (OK.ret ⟨rfl, rfl, rfl, rfl, n, hI.done⟩)))
  | succ c ih =>
    intro n k fu so pl va hc hf hI
    obtain ⟨f, rfl⟩ : ∃ f, fu = f + 1 := ⟨fu - 1, by omega⟩
    have hb : n ≤ k ∧ k ≤ Z := by obtain ⟨P, e0, h1, h2, h3, -⟩ := hI; omega
    have hFU := FU_ge
    rw [m_X12_cutAll_17, nI_clamp (show n < 2 ^ 31 by omega)]
    by_cases hk : k = Z
    · subst hk
      exact OK.pos (nI_le (by omega) (by omega)) (OK.pos (pn_in2 (by omega) (by omega)) (OK.pos (pn_in2 (by omega) (by omega)) (OK.ret ⟨rfl, rfl, rfl, rfl, n, hI.done⟩)))
    · have hi : k < Z := by omega
      have et := (h.2.2.2 k hi).2.1
      have h126 := chT h hi
      rw [nI_clamp (show k < 2 ^ 31 by omega), et, nI_1]
      refine OK.neg (nI_ge (by omega) (by omega)) (OK.pos (pn_in2 (by omega) (by omega)) (OK.ite (fun z => ?_) (fun z => OK.ite (fun y => ?_) (fun y => OK.pos (pn_in2 (by omega) (by omega)) ?_))))
      · exact ih n (k + 1) f so pl va (by omega) (by omega) (hI.skip hi (Or.inr ((nI_eq (b := 10) (by omega) (by omega)).mp z)))
      · exact ih n (k + 1) f so pl va (by omega) (by omega) (hI.skip hi (Or.inl ((nI_eq (b := 32) (by omega) (by omega)).mp y)))
      · have nb : ¬ blk (T k) := by
          rintro (b | b)
          · exact y (by rw [b]; rfl)
          · exact z (by rw [b]; rfl)
        rcases is_l h126 with ⟨l1, -, l2⟩ | ⟨l1, -, l2⟩
        · refine OK.eq l2 (OK.neg (by decide) ?_)
          obtain ⟨s, e, v, t1, t2, t3⟩ := q_word_loop h (n := n) (tn' := tn') (at0 := at0) (fa0 := fa0) (so := so) (pl := upd pl n (nI k)) (va := va) (show n < 1002 by omega) hi l1 (K17 := m_X12_cutAll_17 tp f) (Z - k) 0 FU (by omega) (by omega) (fun j hj => by omega)
          have t3' : m_X12_cutAll_70 tp (m_X12_cutAll_17 tp f) FU (nI n) (nI k) (nI k) 0 tn' (nI Z) at0 fa0 so (upd pl n (nI k)) va = _ := t3
          rw [t3']
          have te := t1.ends
          exact ih (n + 1) e f _ _ _ (by have := te.2.2.2.1 hi; omega) (by omega) (hI.step hi nb t1 t2)
        · refine OK.eq l2 (OK.pos rfl ?_)
          rcases is_d h126 with ⟨d1, -, d2⟩ | ⟨d1, -, d2⟩
          · refine OK.eq d2 (OK.neg (by decide) ?_)
            obtain ⟨s, e, v, t1, t2, t3⟩ := q_num_loop h (n := n) (tn' := tn') (at0 := at0) (fa0 := fa0) (so := so) (pl := upd pl n (nI k)) (va := va) (show n < 1002 by omega) hi d1 (K17 := m_X12_cutAll_17 tp f) (Z - k) 0 FU (by omega) (by omega) (fun j hj => by omega)
            have t3' : m_X12_cutAll_159 tp (m_X12_cutAll_17 tp f) FU (nI n) (nI k) (nI k) 0 tn' (nI Z) at0 fa0 so (upd pl n (nI k)) va = _ := t3
            rw [t3']
            have te := t1.ends
            exact ih (n + 1) e f _ _ _ (by have := te.2.2.2.1 hi; omega) (by omega) (hI.step hi nb t1 t2)
          · refine OK.eq d2 (OK.pos rfl ?_)
            unfold m_X12_cutAll_261 m_X12_cutAll_265
            rw [sg_q _ h126, Option.bind_some, nI_clamp (show n < 2 ^ 31 by omega), nI_1, nI_1, nI_l (show T k < 2 ^ 31 by omega)]
            by_cases hs : sgnb (T k) = true
            · rw [if_pos hs]
              have t1 : Tok T Z k 3 (k + 1) := Or.inr (Or.inr (Or.inr ⟨hi, l1, d1, rfl, Or.inl ⟨sgnb_iff.mp hs, rfl⟩⟩))
              have v1 : vOK T k 3 (k + 1) (lN (T k)) := ⟨fun z => by omega, fun z => by omega, fun _ => rfl⟩
              exact OK.neg (by decide) (OK.pos (pn_in2 (by omega) (by omega)) (OK.pos (pn_in2 (by omega) (by omega)) (ih (n + 1) (k + 1) f _ _ _ (by omega) (by omega) (hI.step hi nb t1 v1))))
            · rw [if_neg hs]
              have t1 : Tok T Z k 4 (k + 1) := Or.inr (Or.inr (Or.inr ⟨hi, l1, d1, rfl, Or.inr ⟨fun y => hs (sgnb_iff.mpr y), rfl⟩⟩))
              have v1 : vOK T k 4 (k + 1) (lN (T k)) := ⟨fun z => by omega, fun z => by omega, fun z => by omega⟩
              exact OK.pos rfl (OK.pos (pn_in2 (by omega) (by omega)) (OK.pos (pn_in2 (by omega) (by omega)) (ih (n + 1) (k + 1) f _ _ _ (by omega) (by omega) (hI.step hi nb t1 v1))))
theorem q_cut (h : TP Z T sg tp ln tn) {at0 fa0 : Int32} {so pl : Nat → Int32} {va : Nat → Int64} : OK (m_X12_cutAll tp tn so pl va at0 fa0) (fun R => R.1 = 0 ∧ R.2.1 = nI Z ∧ R.2.2.1 = 0 ∧ R.2.2.2.1 = 0 ∧ ∃ N P, QA T Z N P R.2.2.2.2.1 R.2.2.2.2.2.1 R.2.2.2.2.2.2) := by
  have hFU := FU_ge
  have hZ := h.1
  unfold m_X12_cutAll
  rw [h.2.2.1]
  exact q_cut_loop h Z 0 0 FU so pl va (by omega) (by omega) ⟨fun _ => 0, 0, by omega, by omega, by omega, fun j a b => by omega, fun _ => rfl, fun z => by omega, fun i hi => by omega⟩
end CUT
