/-! LAW: what holds at its entry: the enum, the texts, the classes -/
abbrev EW : String := "HalfMast$Word"
abbrev DW : String := "LHalfMast$Word;"
abbrev tAll : Term := .static EW "ALL" "[LHalfMast$Word;"
abbrev tSm : Term := .static "HalfMast$1" "$SwitchMap$HalfMast$Word" "[I"
abbrev tSg : Term := .string "HalfMast$Tape" 64
abbrev tSv : Term := .field (.string "HalfMast$Tape" 64) "java/lang/String" "value" "[B"
def FL : List Cond := flatC (Jvm.Cond.and given_1 narrow_1)
theorem fl_ex : ∀ i, i < 27 → Cond.exactly (.static EW (wNm.getD i "") DW) EW ∈ FL := by decide +kernel
theorem fl_or : ∀ i, i < 27 → Cond.eq (.field (.static EW (wNm.getD i "") DW) "java/lang/Enum" "ordinal" "I") (.int (wOrd.getD i 0)) ∈ FL := by decide +kernel
theorem fl_re : ∀ i, i < 27 → Cond.eq (.field (.static EW (wNm.getD i "") DW) "HalfMast$Word" "reserved" "Z") (.int (wResL.getD i 0)) ∈ FL := by decide +kernel
theorem fl_le : ∀ i, i < 27 → Cond.eq (.field (.static EW (wNm.getD i "") DW) "HalfMast$Word" "letters" "J") (.long (wLet i)) ∈ FL := by decide +kernel
theorem fl_all : ∀ i, i < 27 → Cond.eq (.elem tAll (.int (Int32.ofNat i))) (.static EW (wNm.getD i "") DW) ∈ FL := by decide +kernel
theorem fl_sm : ∀ i, i < 27 → Cond.eq (.elem tSm (.int (Int32.ofNat i))) (.int (wSm i)) ∈ FL := by decide +kernel
theorem fl_sg : ∀ i, i < 8 → Cond.eq (.elem tSv (.int (Int32.ofNat i))) (.int (wSg i)) ∈ FL := by decide +kernel
theorem tb_ls : ∀ i, i < 27 → Cond.laysStatic EW (wNm.getD i "") DW ∈ lw_tbl := by decide +kernel
theorem or_inj : ∀ i, i < 27 → ∀ j, j < 27 → wOrd.getD i 0 = wOrd.getD j 0 → i = j := by decide +kernel
theorem of_uniq {o n d : String} {v v' : Value} {t : Nat} {A : Nat → Prop} {U : State} {H : Heap} (h : va_OF o n d v t A U H) (h' : va_OF o n d v' t A U H) : v = v' := by
  obtain ⟨cf, k, i, f, cell, h1, h2, h3, h4, h5, h6⟩ := h
  obtain ⟨cf', k', i', f', cell', g1, g2, g3, g4, g5, g6⟩ := h'
  cases Option.some.inj (h1.symm.trans g1)
  cases Option.some.inj (h3.symm.trans g3)
  exact Option.some.inj (h5.symm.trans g5)
theorem va_T.ext {ty : FieldType} {t N : Nat} {f g : Nat → Value} {A : Nat → Prop} {U : State} {H : Heap} (h : va_T ty t N f A U H) (e : ∀ j, j < N → f j = g j) : va_T ty t N g A U H := by
  obtain ⟨cell, h1, h2, h3, h4, h5, h6, h7⟩ := h
  exact ⟨cell, h1, h2, h3, h4, h5, fun j hj => by rw [h6 j hj, e j hj], h7⟩
section ST
variable {args : Array Value} {s : State} {A : Nat → Prop}
theorem start_EN (hts : ∀ w ∈ lw_tbl, w.before args s = true) (hgv : (Jvm.Cond.and given_1 narrow_1).before args s = true) (hA : ∀ a : Nat, a < s.heap.size → ¬ A a) : ∃ w : Nat → Nat, EN w A s s.heap := by
  have hs : ∀ c ∈ FL, c.before args s = true := flat_of_before _ hgv
  have h0 : ∀ i : Nat, ∃ t : Nat, i < 27 → (Term.static EW (wNm.getD i "") DW).eval args s none [] s = some (.ref t) := by
    intro i
    by_cases hi : i < 27
    · obtain ⟨a, c, cell, k, q1, -⟩ := Cond.exactly_spec (hs _ (fl_ex i hi))
      exact ⟨a, fun _ => q1⟩
    · exact ⟨0, fun h => absurd h hi⟩
  obtain ⟨ad, had⟩ := Classical.axiomOfChoice h0
  obtain ⟨t7, e7, T7⟩ := va_Tof (tm := tAll) (ty := .object EW) (N := 27) (f := fun j => .ref (ad j)) (by decide) (hs (.arrayOf tAll (.object EW)) (by decide +kernel)) (va_eqt (hs (.eq (.length tAll) (.int (Int32.ofNat 27))) (by decide +kernel))) (fun j hj => va_eqv (hs _ (fl_all j hj)) (had j hj)) hA
  obtain ⟨t8, e8, T8⟩ := va_Tof (tm := tSm) (ty := .int) (N := 27) (f := fun j => .int (wSm j)) (by decide) (hs (.arrayOf tSm .int) (by decide +kernel)) (va_eqt (hs (.eq (.length tSm) (.int (Int32.ofNat 27))) (by decide +kernel))) (fun j hj => va_eqt (hs _ (fl_sm j hj))) hA
  obtain ⟨t30, e30, T30⟩ := va_Tof (tm := tSv) (ty := .byte) (N := 8) (f := fun j => .int (wSg j)) (by decide) (hs (.arrayOf tSv .byte) (by decide +kernel)) (va_eqt (hs (.eq (.length tSv) (.int (Int32.ofNat 8))) (by decide +kernel))) (fun j hj => va_eqt (hs _ (fl_sg j hj))) hA
  have hex29 : (Cond.exactly tSg "java/lang/String").before args s = true := hs _ (by decide +kernel)
  obtain ⟨t29, -, -, -, e29, -⟩ := Cond.exactly_spec hex29
  refine ⟨fun i => if i < 27 then ad i else if i = 27 then t7 else if i = 28 then t8 else if i = 29 then t29 else t30, ?_⟩
  generalize hw : (fun i => if i < 27 then ad i else if i = 27 then t7 else if i = 28 then t8 else if i = 29 then t29 else t30) = w
  have hwi : ∀ i, i < 27 → w i = ad i := fun i hi => by rw [← hw]; exact if_pos hi
  have w27 : w 27 = t7 := by rw [← hw]; rfl
  have w28 : w 28 = t8 := by rw [← hw]; rfl
  have w29 : w 29 = t29 := by rw [← hw]; rfl
  have w30 : w 30 = t30 := by rw [← hw]; rfl
  have hev : ∀ i, i < 27 → (Term.static EW (wNm.getD i "") DW).eval args s none [] s = some (.ref (w i)) := fun i hi => by rw [hwi i hi]; exact had i hi
  have hini : (Cond.initialized EW).before args s = true := hts _ (by decide +kernel)
  have ho : va_Ef 27 "java/lang/Enum" "ordinal" "I" (fun i => .int (wOrd.getD i 0)) w A s s.heap := va_Efof (tm := fun i => .int (wOrd.getD i 0)) hev (fun i hi => hs _ (fl_or i hi)) (fun i _ => rfl) hA
  have hre : va_Ef 27 "HalfMast$Word" "reserved" "Z" (fun i => .int (wResL.getD i 0)) w A s s.heap := va_Efof (tm := fun i => .int (wResL.getD i 0)) hev (fun i hi => hs _ (fl_re i hi)) (fun i _ => rfl) hA
  have hle : va_Ef 27 "HalfMast$Word" "letters" "J" (fun i => .long (wLet i)) w A s s.heap := va_Efof (tm := fun i => .long (wLet i)) hev (fun i hi => hs _ (fl_le i hi)) (fun i _ => rfl) hA
  refine ⟨⟨⟨fun i hi => ⟨va_Zref (hts _ (tb_ls i hi)) hini (hev i hi) hA, va_Oof (hs _ (fl_ex i hi)) (hev i hi) hA, fun q hq => ?_⟩, fun i j hi hj e => ?_⟩, hle, ⟨?_, ?_⟩, ?_, ?_⟩, ⟨?_, ?_, ?_, ?_, ?_⟩, ?_⟩
  · have hq : q = ("java/lang/Enum", "ordinal", "I", wOrd) ∨ q = ("HalfMast$Word", "reserved", "Z", wResL) := by
      simpa [wF] using hq
    rcases hq with rfl | rfl
    · exact ho i hi
    · exact hre i hi
  · have h1 := ho i hi
    have h2 := ho j hj
    rw [show w i = w j from e] at h1
    have h3 := of_uniq h1 h2
    exact or_inj i hi j hj (Value.int.inj h3)
  · rw [w27]; exact va_Zref (hts _ (by decide +kernel)) hini e7 hA
  · rw [w27]; exact T7.ext (fun j hj => by rw [hwi j hj])
  · rw [w28]; exact va_Zref (hts _ (by decide +kernel)) (hts _ (by decide +kernel)) e8 hA
  · rw [w28]; exact T8
  · rw [w29]; exact va_Oof hex29 e29 hA
  · rw [w29]; exact vk_OFof e29 (va_eqt (hs (.eq (.field tSg "java/lang/String" "coder" "B") (.int 0)) (by decide +kernel))) hA
  · rw [w29, w30]; exact vk_OFof e29 e30 hA
  · rw [w30]; exact T30
  · exact va_Zof (hts _ (by decide +kernel)) (hts _ (by decide +kernel)) (va_eqt (hs (.eq (.static "java/lang/String" "COMPACT_STRINGS" "Z") (.int 1)) (by decide +kernel))) hA
  · rw [w29]; exact vk_R.of (hts _ (by decide +kernel)) e29
theorem start_XF (hts : ∀ w ∈ lw_tbl, w.before args s = true) (hgv : (Jvm.Cond.and given_1 narrow_1).before args s = true) (hA : ∀ a : Nat, a < s.heap.size → ¬ A a) : ∃ sa sb : Nat, XF sa sb A s s.heap := by
  have hs : ∀ c ∈ FL, c.before args s = true := flat_of_before _ hgv
  obtain ⟨sa, -, -, -, e1, -⟩ := Cond.exactly_spec (hs (.exactly (.string RX11 291) "java/lang/String") (by decide +kernel))
  obtain ⟨sb, -, -, -, e2, -⟩ := Cond.exactly_spec (hs (.exactly (.string RX11 300) "java/lang/String") (by decide +kernel))
  refine ⟨sa, sb, vk_R.of (hts _ (by decide +kernel)) e1, vk_R.of (hts _ (by decide +kernel)) e2, ⟨va_Nw.of rfl (hts _ (by decide +kernel)), va_Nw.of rfl (hts _ (by decide +kernel)), va_Nw.of rfl (hts _ (by decide +kernel)), va_Nw.of rfl (hts _ (by decide +kernel))⟩, ?_, ?_⟩
  · exact vx_Zqof (hts _ (by decide +kernel)) (hts _ (by decide +kernel)) (hs _ (by decide +kernel)) hA
  · exact vx_Zqof (hts _ (by decide +kernel)) (hts _ (by decide +kernel)) (hs _ (by decide +kernel)) hA
theorem start_AO (hts : ∀ w ∈ lw_tbl, w.before args s = true) : AO s := ⟨va_AO.of (hts _ (by decide +kernel)), va_AO.of (hts _ (by decide +kernel))⟩
/-- a row's class, of numbers -/
theorem ka_n {ty : FieldType} (h : (Cond.arrayClass ty).before args s = true) : ∃ cA : ClassId, ArrOfT s cA ty ∧ s.vm.findClass ("[" ++ ty.toString) = some cA := by
  obtain ⟨c, k, comp, h1, h2, h3⟩ := Cond.arrayClass_spec h
  exact ⟨c, fun n z => ⟨fun k h => (by cases h), k, h2, comp, h3⟩, h1⟩
theorem ka_o {C : String} (h : (Cond.arrayOver (.object C)).before args s = true) : ∃ cA : ClassId, ArrOfT s cA (.object C) ∧ va_RA s cA (.object C) := by
  obtain ⟨comp, c, k, h1, h2, h3, h4, h5⟩ := Cond.arrayOver_spec h
  exact ⟨c, fun n z => ⟨fun k h => (by cases h), k, h3, comp, h4⟩, k, comp, h3, h4, h1, h5⟩
theorem nb_on {w : Cond} (h : nbW w = true) : w.onTables = true := by
  cases w <;> first | rfl | (simp [nbW] at h)
end ST
