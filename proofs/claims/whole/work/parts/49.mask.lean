/-! MACHINE: a call by a mask that makes cells -/
theorem cw_maskM {p : Program} {l : Launch} {e : Env} {R : Room} {s : State} {m : MethodId} {args : Array Value} {below : List Frame} {meth : Method} {c : Code} {H : Heap} {locs : List Loc} {cells slots mc ms : Nat} {Q : State → Prop}
    {D : va_G} {pc : Nat} {rest st0 : List Value} {ls : Array Slot} {rv : Option Value} {wc w1 ws ws' : va_W} {A : Nat → Prop} {H0 : Heap} {a : Array Value} (hr : va_Run p l e R s m args below meth c H locs cells slots mc ms (F0 m pc ls st0) rest (QW D rv wc w1 H.size a) (va_A wc H.size))
    (hP : va_P D vwCl ws H) (hD : va_D A ws) (hS : va_S A H0 H locs) (hA : ∀ q, H0.size ≤ q → A q) (bs : List Bool) (hC : pick bs ws = wc) (hadr : w1.map (fun q => q.1) = wc.map (fun q => q.1)) (hws : mrg bs ws w1 = ws')
    (kk : ∀ (H1 : Heap) (locs1 : List Loc), va_P D vwCl ws' H1 → va_D A ws' → va_S A H0 H1 locs1 → W p l e R s m args below meth c H1 locs1 (cells + mc) (slots + ms) Q (F0 m (pc + 3) ls (rv.toList ++ rest))) : W p l e R s m args below meth c H locs cells slots Q (F0 m pc ls st0) := by
  subst hC
  subst hws
  have hDD := D_iff.mp hD
  have hFc : ∀ q, va_A (pick bs ws) H.size q → A q := by
    intro q hq
    rcases hq with ⟨k, e, h⟩ | h
    · exact hDD.2 _ ((pick_sub bs ws).subset (List.mem_of_getElem? h))
    · exact hA q (Nat.le_trans hS.1 h)
  intro T hT X
  obtain ⟨v, st₀, t, T', L, h0, X', hL, e1, e2, ⟨hv, hP1, hD1, hz, hk⟩, st⟩ := hr T hT X
  cases hv
  rw [h0] at hz hk
  have hPj : va_P D vwCl (mrg bs ws w1) T'.heap := by
    intro k q hq
    rcases mrg_mem bs ws w1 q hadr hDD.1 (List.mem_of_getElem? hq) with g | ⟨g1, g2⟩
    · obtain ⟨j, hj⟩ := List.getElem?_of_mem g
      rw [e1]; exact hP1 j q hj
    · obtain ⟨j, hj⟩ := List.getElem?_of_mem g1
      have hl := (hP j q hj).lt
      refine (hP j q hj).kept ?_
      rw [e1]
      refine hk q.1 hl (fun z => ?_)
      rcases z with ⟨i, e, hz⟩ | hz
      · exact g2 (List.mem_map.mpr ⟨(q.1, e), List.mem_of_getElem? hz, rfl⟩)
      · omega
  have hDj : va_D A (mrg bs ws w1) := by
    have ha := mrg_addr bs ws w1 hadr
    refine D_iff.mpr ⟨by rw [ha]; exact hDD.1, fun q hq => ?_⟩
    have : q.1 ∈ ws.map (fun q => q.1) := by rw [← ha]; exact List.mem_map_of_mem hq
    obtain ⟨x, hx, ex⟩ := List.mem_map.mp this
    rw [← ex]; exact hDD.2 x hx
  obtain ⟨t2, a1, b1⟩ := kk T'.heap (locs ++ L) hPj hDj
    ⟨Nat.le_trans hS.1 (by rw [e1]; exact hz), fun q h1 h2 => by rw [e1, hk q (Nat.lt_of_lt_of_le h1 hS.1) (fun z => h2 (hFc q z))]; exact hS.2.1 q h1 h2, fun q hq => by
      rcases List.mem_append.mp hq with h | h
      · exact hS.2.2 q h
      · exact hFc _ (hL q h)⟩ T' rfl X'
  exact ⟨t2, st t2 a1, b1⟩
