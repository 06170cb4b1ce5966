/-! PURE: a day, for one -/
def clI (v lo hi : Int32) : Int32 := if lo ≤ v then (if v ≤ hi then v else hi) else lo
theorem p_between {v lo hi : Int32} (h : lo ≤ hi) : m_X11_between v lo hi = some (clI v lo hi) := by
  unfold m_X11_between clI
  refine congrArg some (pn_inj ?_)
  simp only [Int32.lt_iff_toInt_lt, Int32.le_iff_toInt_le] at h ⊢
  repeat' split
  all_goals omega
theorem q_kept' {v lo hi : Int32} : m_X12_kept v lo hi = some (clI v lo hi) := q_kept
theorem cl_nat (x : Int32) : ∃ j : Nat, j ≤ 60 ∧ clI x 0 60 = nI j := by
  unfold clI
  by_cases h : (0 : Int32) ≤ x
  · rw [if_pos h]
    by_cases h2 : x ≤ 60
    · rw [if_pos h2]
      exact nI_of2 (M := 60) (n := 60) rfl (by rw [Int32.lt_iff_toInt_lt]; rw [Int32.le_iff_toInt_le] at h; omega) h2
    · rw [if_neg h2]; exact ⟨60, by omega, rfl⟩
  · rw [if_neg h]; exact ⟨0, by omega, rfl⟩
/-- how much one lacks tomorrow -/
def tmI (Lv : Int32 → Int32 → Int32 → Int32 → Int32) (fl dt : Int32) (F L : Nat → Nat) (p : Nat) : Int32 := clI (nI (L p) + clI (Lv (nI (L p)) fl (nI (cntF (F p) (L p) L 6)) dt) (-9) 9) 0 60
def tmN (Lv : Int32 → Int32 → Int32 → Int32 → Int32) (fl dt : Int32) (F L : Nat → Nat) (p : Nat) : Nat := (tmI Lv fl dt F L p).toNatClampNeg
theorem tm_ok {Lv : Int32 → Int32 → Int32 → Int32 → Int32} {fl dt : Int32} {F L : Nat → Nat} {p : Nat} : tmI Lv fl dt F L p = nI (tmN Lv fl dt F L p) ∧ tmN Lv fl dt F L p ≤ 60 := by
  obtain ⟨j, hj, e⟩ := cl_nat (nI (L p) + clI (Lv (nI (L p)) fl (nI (cntF (F p) (L p) L 6)) dt) (-9) 9)
  have e' : tmI Lv fl dt F L p = nI j := e
  have : tmN Lv fl dt F L p = j := by
    unfold tmN; rw [e', nI_clamp (by omega)]
  rw [this]; exact ⟨e', hj⟩
theorem p_tomorrow {Lv : Int32 → Int32 → Int32 → Int32 → Int32} {fl dt size : Int32} {F L : Nat → Nat} {lf ff st u : Nat → Int32} {p : Nat} (hLv : HasLaw st size Lv) (hp : p < 6) (hF : ff p = nI (F p) ∧ F p < 64) (hl : ∀ o, o < 6 → lf o = nI (L o) ∧ L o ≤ 60) :
    ∃ u', m_X1_lackingTomorrow lf ff dt st u size fl (nI p) = some (nI (tmN Lv fl dt F L p), u') := by
  unfold m_X1_lackingTomorrow m_X1_lacking
  rw [p_at hp (by omega), Option.bind_some, Option.bind_some, p_felt hp hF hl, Option.bind_some, (hl p hp).1]
  obtain ⟨u', e⟩ := hLv u (nI (L p)) fl (nI (cntF (F p) (L p) L 6)) dt
  rw [e, Option.bind_some]
  refine ⟨u', ?_⟩
  unfold m_X1_lackingTomorrow_47
  rw [p_between (by decide), Option.bind_some, p_between (by decide), Option.bind_some]
  show some (tmI Lv fl dt F L p, u') = _
  rw [tm_ok.1]
/-- the first loop: what each lacks tomorrow is laid aside -/
theorem p_day1 {Lv : Int32 → Int32 → Int32 → Int32 → Int32} {fl dt size mast w r : Int32} {F L : Nat → Nat} {lf ff st kf : Nat → Int32} {n : Nat} (hLv : HasLaw st size Lv) (hn : n ≤ 6) (hF : ∀ p, p < n → ff p = nI (F p) ∧ F p < 64) (hl : ∀ o, o < 6 → lf o = nI (L o) ∧ L o ≤ 60) :
    ∀ (d i fu : Nat) (nx u : Nat → Int32), i + d = n → d < fu → (∀ j, j < i → nx j = nI (tmN Lv fl dt F L j)) →
      ∃ nx' u', (∀ j, j < n → nx' j = nI (tmN Lv fl dt F L j)) ∧ m_X1_passDay_21 ff kf st size (nI n) mast w r fu (nI n) (nI i) fl dt lf nx u = m_X1_passDay_49 ff kf st size (nI n) mast w r FU (nI n) 0 0 fl dt lf nx' u'
  | 0, i, fu + 1, nx, u, h, _, hx => by
    have : i = n := by omega
    subst this
    refine ⟨nx, u, hx, ?_⟩
    rw [m_X1_passDay_21, if_pos (nI_le (Nat.le_refl _) (by omega))]
  | d + 1, i, fu + 1, nx, u, h, hf, hx => by
    have hi : i < n := by omega
    obtain ⟨u1, e⟩ := p_tomorrow (fl := fl) (dt := dt) (u := u) hLv (show i < 6 by omega) (hF i hi) hl
    obtain ⟨nx', u', h1, h2⟩ := p_day1 (mast := mast) (w := w) (r := r) (kf := kf) hLv hn hF hl d (i + 1) fu (upd nx i (nI (tmN Lv fl dt F L i))) u1 (by omega) (by omega) (by
      intro j hj
      unfold upd
      by_cases e : j = i
      · rw [if_pos e, e]
      · rw [if_neg e]; exact hx j (by omega))
    refine ⟨nx', u', h1, ?_⟩
    rw [m_X1_passDay_21, if_neg (nI_ge hi (by omega)), e, Option.bind_some, p_put (show i < 6 by omega) (by omega), Option.bind_some, nI_1]
    exact h2
/-- whether somebody lacks otherwise -/
def chg (T L : Nat → Nat) : Nat → Bool
  | 0 => false
  | n + 1 => chg T L n || !(T n == L n)
def chI (b : Bool) : Int32 := if b then 1 else 0
theorem ch_or0 (b : Bool) : chI b ||| 0 = chI b := by cases b <;> decide
theorem ch_or1 (b : Bool) : chI b ||| 1 = 1 := by cases b <;> decide
theorem ch_01 (b : Bool) : chI b = 0 ∨ chI b = 1 := by cases b <;> decide
/-- the second loop: all by what was ahead -/
theorem p_day2 {fl dt size mast w r : Int32} {T L : Nat → Nat} {ff st kf nx u : Nat → Int32} {n : Nat} (hn : n ≤ 6) (hT : ∀ p, p < n → nx p = nI (T p) ∧ T p ≤ 60) (hL : ∀ p, p < 6 → L p ≤ 60) :
    ∀ (d i fu : Nat) (lf : Nat → Int32), i + d = n → d < fu → (∀ j, j < i → lf j = nI (T j)) → (∀ j, i ≤ j → j < 6 → lf j = nI (L j)) →
      ∃ lf', (∀ j, j < n → lf' j = nI (T j)) ∧ (∀ j, n ≤ j → j < 6 → lf' j = nI (L j)) ∧
        m_X1_passDay_49 ff kf st size (nI n) mast w r fu (nI n) (chI (chg T L i)) (nI i) fl dt lf nx u = Option.bind (m_X1_setFlag lf' kf (nI n) mast w r) (fun r10 => some (chI (chg T L n), r10, dt + 1, lf', nx, u))
  | 0, i, fu + 1, lf, h, _, h1, h2 => by
    have : i = n := by omega
    subst this
    refine ⟨lf, h1, h2, ?_⟩
    rw [m_X1_passDay_49, if_pos (nI_le (Nat.le_refl _) (by omega))]
    simp only [if_pos (ch_01 (chg T L i))]
  | d + 1, i, fu + 1, lf, h, hf, h1, h2 => by
    have hi : i < n := by omega
    have ei := h2 i (Nat.le_refl _) (by omega)
    obtain ⟨lf', k1, k2, k3⟩ := p_day2 (fl := fl) (dt := dt) (size := size) (mast := mast) (w := w) (r := r) (ff := ff) (st := st) (kf := kf) (u := u) hn hT hL d (i + 1) fu (upd lf i (nI (T i))) (by omega) (by omega)
      (by intro j hj
          unfold upd
          by_cases e : j = i
          · rw [if_pos e, e]
          · rw [if_neg e]; exact h1 j (by omega))
      (by intro j hj hj'
          unfold upd
          rw [if_neg (by omega)]; exact h2 j (by omega) hj')
    refine ⟨lf', k1, k2, ?_⟩
    rw [← k3, m_X1_passDay_49, if_neg (nI_ge hi (by omega)), p_at (show i < 6 by omega) (by omega), Option.bind_some]
    unfold m_X1_lacking m_X1_passDay_76
    rw [p_at (show i < 6 by omega) (by omega), Option.bind_some, Option.bind_some, p_at (show i < 6 by omega) (by omega), (hT i hi).1, ei]
    simp only [Option.bind_some]
    rw [p_put (show i < 6 by omega) (by omega)]
    simp only [Option.bind_some]
    rw [nI_1, ch_or0, ch_or1]
    have es : chg T L (i + 1) = (chg T L i || !(T i == L i)) := rfl
    by_cases e : T i = L i
    · rw [if_pos (by rw [e]), es, e]
      simp
    · rw [if_neg (fun z => e ((nI_eq (by have := (hT i hi).2; omega) (by have := hL i (by omega); omega)).mp z)), es]
      have : (T i == L i) = false := by simpa using e
      rw [this]
      simp [chI]
/-- the class's day -/
theorem p_day {Lv : Int32 → Int32 → Int32 → Int32 → Int32} {fl dt size : Int32} {K F L : Nat → Nat} {lf ff st kf nx u : Nat → Int32} {n M w r : Nat} (hLv : HasLaw st size Lv) (hn : n ≤ 6) (hM : M ≤ 99) (hw : 1 ≤ w) (hw2 : w ≤ 20) (hr : r ≤ 2) (hk : ∀ p, p < n → kf p = nI (K p) ∧ K p ≤ 3)
    (hF : ∀ p, p < n → ff p = nI (F p) ∧ F p < 64) (hl : ∀ o, o < 6 → lf o = nI (L o) ∧ L o ≤ 60) :
    ∃ lf' nx' u', (∀ j, j < n → lf' j = nI (tmN Lv fl dt F L j)) ∧ (∀ j, n ≤ j → j < 6 → lf' j = nI (L j)) ∧
      m_X1_passDay lf ff dt nx kf st u size (nI n) (nI M) (nI w) (nI r) fl = some (chI (chg (tmN Lv fl dt F L) L n), nI (flagN M w r (sumW K (tmN Lv fl dt F L) n)), dt + 1, lf', nx', u') := by
  obtain ⟨nx', u', h1, h2⟩ := p_day1 (mast := nI M) (w := nI w) (r := nI r) (kf := kf) (fl := fl) (dt := dt) hLv hn hF hl n 0 FU nx u (by omega) (by have := FU_ge; omega) (fun j hj => by omega)
  obtain ⟨lf', k1, k2, k3⟩ := p_day2 (fl := fl) (dt := dt) (size := size) (mast := nI M) (w := nI w) (r := nI r) (ff := ff) (st := st) (kf := kf) (u := u') (L := L) hn (fun p hp => ⟨h1 p hp, tm_ok.2⟩) (fun p hp => (hl p hp).2) n 0 FU lf (by omega) (by have := FU_ge; omega) (fun j hj => by omega) (fun j _ hj => (hl j hj).1)
  refine ⟨lf', nx', u', k1, k2, ?_⟩
  have h2' : m_X1_passDay lf ff dt nx kf st u size (nI n) (nI M) (nI w) (nI r) fl = m_X1_passDay_49 ff kf st size (nI n) (nI M) (nI w) (nI r) FU (nI n) (chI (chg (tmN Lv fl dt F L) L 0)) (nI 0) fl dt lf nx' u' := h2
  rw [h2', k3, p_setFlag hn hM hw hw2 hr hk (fun p hp => ⟨k1 p hp, tm_ok.2⟩), Option.bind_some]
