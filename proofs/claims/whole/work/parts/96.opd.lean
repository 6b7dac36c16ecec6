/-! the other calls that change what is: the class's -/
theorem relC_by {A : Int → Int} {C C' : xCt} (h : relC A C) {t : Int} (ht : -1 ≤ t ∧ t < A 1) (c2 : C' 0 2 = C 0 2) (c3 : C' 0 3 = C 0 3) (c8 : C' 0 8 = C 0 8) (c9 : C' 0 9 = t) (ci : ∀ i, i ≠ 0 → C' i = C i) : relC (up A 2 t) C' := by
  obtain ⟨hc, hr, hn, hi, hl, hs⟩ := h
  have u : ∀ j, j ≠ 2 → up A 2 t j = A j := fun j hj => up_ne hj
  have q : ∀ i, i ≠ 0 → ∀ j, C' i j = C i j := fun i h1 j => by rw [ci i h1]
  have hm := hi.1
  obtain ⟨p0, p1, p2, p3, p4, p5, p6⟩ := hc
  obtain ⟨r1, r2, r3, rx, r4, r5, r6⟩ := hr
  refine ⟨⟨?_, ?_, ?_, ?_, ?_, ?_, ?_⟩, ⟨?_, ?_, ?_, ?_, ?_, ?_, ?_⟩, ?_, ?_, ?_, fun k k0 k1 => ?_⟩
  · rw [u 0 (by omega), ci 3 (by omega)]; exact p0
  · rw [u 1 (by omega), c8]; exact p1
  · rw [up_at, c9]
  · rw [u 3 (by omega), c2]; exact p3
  · rw [u 4 (by omega), ci 5 (by omega)]; exact p4
  · rw [u 5 (by omega), ci 7 (by omega)]; exact p5
  · rw [u 6 (by omega), ci 9 (by omega)]; exact p6
  · rw [u 1 (by omega)]; exact r1
  · rw [u 1 (by omega), up_at]; exact ht
  · rw [u 3 (by omega)]; exact r3
  · rw [c3]; exact rx
  · rw [u 4 (by omega)]; exact r4
  · rw [u 5 (by omega)]; exact r5
  · rw [u 6 (by omega)]; exact r6
  · rw [ci 1 (by omega)]
    exact relN_of hn (fun j _ _ => u j (by omega)) (fun j _ _ _ => u j (by omega)) (fun j _ _ _ => u j (by omega)) (fun j _ _ => rfl)
  · rw [ci 4 (by omega), u 0 (by omega)]
    exact inv_of hi (fun j _ _ => u j (by omega)) (fun j _ _ => u j (by omega)) (fun j _ _ => rfl)
  · exact tld_of hl ⟨r1, r2, r3, rx, r4, r5, r6⟩ (u 0 (by omega)) (u 4 (by omega)) (u 5 (by omega)) (u 6 (by omega)) (fun j _ _ => u j (by omega)) (fun j _ _ => q 6 (by omega) j) (fun j _ _ => q 8 (by omega) j) (fun j _ _ => q 10 (by omega) j)
  · rw [u 3 (by omega)] at k1
    exact stp_of (hs k k0 k1) k0 (by omega) hm (u 0 (by omega)) (by rw [u 17 (by omega)]; exact Int.le_refl _) (fun j _ _ _ => u j (by omega)) (fun j _ _ => u j (by omega)) (fun j _ _ _ => u j (by omega)) c2 c3 (fun j _ _ => q 2 (by omega) j) (fun j _ _ => q 4 (by omega) j)
theorem relC_rec {A : Int → Int} {C C' : xCt} (h : relC A C) {c q y : Int} (hc0 : 0 ≤ c ∧ c < A 0) (hq : 0 ≤ q ∧ q ≤ 3) (h8 : A 4 < 8) (hy : y = 0 ∨ y = 1) (d5 : C' 5 1 = C 5 1 + 1) (d6 : ∀ j, C' 6 j = if 4 * C 5 1 ≤ j ∧ j < 4 * C 5 1 + 4 then (if j = 4 * C 5 1 then c else if j = 4 * C 5 1 + 1 then y else if j = 4 * C 5 1 + 2 then q else 0) else C 6 j) (ci : ∀ i, i ≠ 5 → i ≠ 6 → C' i = C i) : relC (rRec A c q y) C' := by
  have h4 : A 4 = C 5 1 := h.1.2.2.2.2.1
  have h5 : A 5 = C 7 1 := h.1.2.2.2.2.2.1
  have h6 : A 6 = C 9 1 := h.1.2.2.2.2.2.2
  obtain ⟨_, _, _, _, g4, g5, g6⟩ := h.2.1
  obtain ⟨t1, t2, t3⟩ := h.2.2.2.2.1
  have u : ∀ j, j ≠ 4 → ¬ (76 + 3 * A 4 ≤ j ∧ j < 79 + 3 * A 4) → rRec A c q y j = A j := fun j j1 j2 => by
    unfold rRec
    rw [up_ne j1, up_ne (by omega), up_ne (by omega), up_ne (by omega)]
  have u4 : rRec A c q y 4 = A 4 + 1 := by unfold rRec; rw [up_at]
  refine relC_tld h (fun j j0 j1 j2 j3 => u j (by omega) (by omega)) (fun i hi => ci i (by omega) (by omega)) ⟨by rw [u4, d5, h4], by rw [u4]; omega, by rw [u4]; omega⟩ ⟨by rw [u 5 (by omega) (by omega), ci 7 (by omega) (by omega)]; exact h5, by rw [u 5 (by omega) (by omega)]; exact g5⟩ ⟨by rw [u 6 (by omega) (by omega), ci 9 (by omega) (by omega)]; exact h6, by rw [u 6 (by omega) (by omega)]; exact g6⟩ ⟨fun i i0 i1 => ?_, fun i i0 i1 => ?_, fun i i0 i1 => ?_⟩
  · rw [u4] at i1
    by_cases e : i = A 4
    · subst e
      have v0 : rRec A c q y (76 + 3 * A 4) = c := by unfold rRec; rw [up_ne (by omega), up_ne (by omega), up_ne (by omega), up_at]
      have v1 : rRec A c q y (76 + 3 * A 4 + 1) = q := by unfold rRec; rw [up_ne (by omega), up_ne (by omega), up_at]
      have v2 : rRec A c q y (76 + 3 * A 4 + 2) = y := by unfold rRec; rw [up_ne (by omega), up_at]
      have w0 : C' 6 (4 * A 4) = c := by rw [d6, if_pos (by omega), if_pos (by omega)]
      have w1 : C' 6 (4 * A 4 + 1) = y := by rw [d6, if_pos (by omega), if_neg (by omega), if_pos (by omega)]
      have w2 : C' 6 (4 * A 4 + 2) = q := by rw [d6, if_pos (by omega), if_neg (by omega), if_neg (by omega), if_pos (by omega)]
      unfold rcd
      rw [v0, v1, v2, w0, w1, w2, u 0 (by omega) (by omega)]
      exact ⟨⟨rfl, rfl, rfl⟩, hc0, by omega, hy⟩
    · have := t1 i i0 (by omega)
      unfold rcd at *
      rw [u _ (by omega) (by omega), u _ (by omega) (by omega), u _ (by omega) (by omega), u 0 (by omega) (by omega), d6, d6, d6, if_neg (by omega), if_neg (by omega), if_neg (by omega)]
      exact this
  · rw [u 5 (by omega) (by omega)] at i1
    have := t2 i i0 i1
    unfold lrn at *
    rw [u _ (by omega) (by omega), u _ (by omega) (by omega), u 0 (by omega) (by omega), ci 8 (by omega) (by omega)]
    exact this
  · rw [u 6 (by omega) (by omega)] at i1
    have := t3 i i0 i1
    unfold cns at *
    rw [u _ (by omega) (by omega), u _ (by omega) (by omega), ci 10 (by omega) (by omega)]
    exact this
theorem relC_learn {A : Int → Int} {C C' : xCt} (h : relC A C) {c y : Int} (hc0 : 0 ≤ c ∧ c < A 0) (h8 : A 5 < 8) (hy : y = 0 ∨ y = 1) (d5 : C' 7 1 = C 7 1 + 1) (d6 : ∀ j, C' 8 j = if 4 * C 7 1 ≤ j ∧ j < 4 * C 7 1 + 4 then (if j = 4 * C 7 1 then c else if j = 4 * C 7 1 + 1 then y else if j = 4 * C 7 1 + 2 then 0 else 0) else C 8 j) (ci : ∀ i, i ≠ 7 → i ≠ 8 → C' i = C i) : relC (rLearn A c y) C' := by
  have h4 : A 4 = C 5 1 := h.1.2.2.2.2.1
  have h5 : A 5 = C 7 1 := h.1.2.2.2.2.2.1
  have h6 : A 6 = C 9 1 := h.1.2.2.2.2.2.2
  obtain ⟨_, _, _, _, g4, g5, g6⟩ := h.2.1
  obtain ⟨t1, t2, t3⟩ := h.2.2.2.2.1
  have u : ∀ j, j ≠ 5 → ¬ (100 + 2 * A 5 ≤ j ∧ j < 102 + 2 * A 5) → rLearn A c y j = A j := fun j j1 j2 => by
    unfold rLearn
    rw [up_ne j1, up_ne (by omega), up_ne (by omega)]
  have u4 : rLearn A c y 5 = A 5 + 1 := by unfold rLearn; rw [up_at]
  refine relC_tld h (fun j j0 j1 j2 j3 => u j (by omega) (by omega)) (fun i hi => ci i (by omega) (by omega)) ⟨by rw [u 4 (by omega) (by omega), ci 5 (by omega) (by omega)]; exact h4, by rw [u 4 (by omega) (by omega)]; exact g4⟩ ⟨by rw [u4, d5, h5], by rw [u4]; omega, by rw [u4]; omega⟩ ⟨by rw [u 6 (by omega) (by omega), ci 9 (by omega) (by omega)]; exact h6, by rw [u 6 (by omega) (by omega)]; exact g6⟩ ⟨fun i i0 i1 => ?_, fun i i0 i1 => ?_, fun i i0 i1 => ?_⟩
  · rw [u 4 (by omega) (by omega)] at i1
    have := t1 i i0 i1
    unfold rcd at *
    rw [u _ (by omega) (by omega), u _ (by omega) (by omega), u _ (by omega) (by omega), u 0 (by omega) (by omega), ci 6 (by omega) (by omega)]
    exact this
  · rw [u4] at i1
    by_cases e : i = A 5
    · subst e
      have v0 : rLearn A c y (100 + 2 * A 5) = c := by unfold rLearn; rw [up_ne (by omega), up_ne (by omega), up_at]
      have v1 : rLearn A c y (100 + 2 * A 5 + 1) = y := by unfold rLearn; rw [up_ne (by omega), up_at]
      have w0 : C' 8 (4 * A 5) = c := by rw [d6, if_pos (by omega), if_pos (by omega)]
      have w1 : C' 8 (4 * A 5 + 1) = y := by rw [d6, if_pos (by omega), if_neg (by omega), if_pos (by omega)]
      unfold lrn
      rw [v0, v1, w0, w1, u 0 (by omega) (by omega)]
      exact ⟨⟨rfl, rfl⟩, hc0, hy⟩
    · have := t2 i i0 (by omega)
      unfold lrn at *
      rw [u _ (by omega) (by omega), u _ (by omega) (by omega), u 0 (by omega) (by omega), d6, d6, if_neg (by omega), if_neg (by omega)]
      exact this
  · rw [u 6 (by omega) (by omega)] at i1
    have := t3 i i0 i1
    unfold cns at *
    rw [u _ (by omega) (by omega), u _ (by omega) (by omega), ci 10 (by omega) (by omega)]
    exact this
theorem relC_couns {A : Int → Int} {C C' : xCt} (h : relC A C) {p s : Int} (hp : 1 ≤ p ∧ p ≤ 999) (hs : 0 ≤ s ∧ s ≤ 99) (h8 : A 6 < 8) (d5 : C' 9 1 = C 9 1 + 1) (d6 : ∀ j, C' 10 j = if 4 * C 9 1 ≤ j ∧ j < 4 * C 9 1 + 4 then (if j = 4 * C 9 1 then p else if j = 4 * C 9 1 + 1 then s else if j = 4 * C 9 1 + 2 then 0 else 0) else C 10 j) (ci : ∀ i, i ≠ 9 → i ≠ 10 → C' i = C i) : relC (rCouns A p s) C' := by
  have h4 : A 4 = C 5 1 := h.1.2.2.2.2.1
  have h5 : A 5 = C 7 1 := h.1.2.2.2.2.2.1
  have h6 : A 6 = C 9 1 := h.1.2.2.2.2.2.2
  obtain ⟨_, _, _, _, g4, g5, g6⟩ := h.2.1
  obtain ⟨t1, t2, t3⟩ := h.2.2.2.2.1
  have u : ∀ j, j ≠ 6 → ¬ (116 + 2 * A 6 ≤ j ∧ j < 118 + 2 * A 6) → rCouns A p s j = A j := fun j j1 j2 => by
    unfold rCouns
    rw [up_ne j1, up_ne (by omega), up_ne (by omega)]
  have u4 : rCouns A p s 6 = A 6 + 1 := by unfold rCouns; rw [up_at]
  refine relC_tld h (fun j j0 j1 j2 j3 => u j (by omega) (by omega)) (fun i hi => ci i (by omega) (by omega)) ⟨by rw [u 4 (by omega) (by omega), ci 5 (by omega) (by omega)]; exact h4, by rw [u 4 (by omega) (by omega)]; exact g4⟩ ⟨by rw [u 5 (by omega) (by omega), ci 7 (by omega) (by omega)]; exact h5, by rw [u 5 (by omega) (by omega)]; exact g5⟩ ⟨by rw [u4, d5, h6], by rw [u4]; omega, by rw [u4]; omega⟩ ⟨fun i i0 i1 => ?_, fun i i0 i1 => ?_, fun i i0 i1 => ?_⟩
  · rw [u 4 (by omega) (by omega)] at i1
    have := t1 i i0 i1
    unfold rcd at *
    rw [u _ (by omega) (by omega), u _ (by omega) (by omega), u _ (by omega) (by omega), u 0 (by omega) (by omega), ci 6 (by omega) (by omega)]
    exact this
  · rw [u 5 (by omega) (by omega)] at i1
    have := t2 i i0 i1
    unfold lrn at *
    rw [u _ (by omega) (by omega), u _ (by omega) (by omega), u 0 (by omega) (by omega), ci 8 (by omega) (by omega)]
    exact this
  · rw [u4] at i1
    by_cases e : i = A 6
    · subst e
      have v0 : rCouns A p s (116 + 2 * A 6) = p := by unfold rCouns; rw [up_ne (by omega), up_ne (by omega), up_at]
      have v1 : rCouns A p s (116 + 2 * A 6 + 1) = s := by unfold rCouns; rw [up_ne (by omega), up_at]
      have w0 : C' 10 (4 * A 6) = p := by rw [d6, if_pos (by omega), if_pos (by omega)]
      have w1 : C' 10 (4 * A 6 + 1) = s := by rw [d6, if_pos (by omega), if_neg (by omega), if_pos (by omega)]
      unfold cns
      rw [v0, v1, w0, w1]
      exact ⟨⟨rfl, rfl⟩, hp, hs⟩
    · have := t3 i i0 (by omega)
      unfold cns at *
      rw [u _ (by omega) (by omega), u _ (by omega) (by omega), d6, d6, if_neg (by omega), if_neg (by omega)]
      exact this
/-- one of the three rows emptied -/
theorem relC_empty {A : Int → Int} {C C' : xCt} (h : relC A C) {r : Int} (hr : r = 4 ∨ r = 5 ∨ r = 6) (d : C' (2 * r.toNat - 3) 1 = 0) (d' : ∀ j, C' (2 * r.toNat - 3 + 1) j = C (2 * r.toNat - 3 + 1) j) (ci : ∀ i, i ≠ 2 * r.toNat - 3 → C' i = C i) : relC (up A r 0) C' := by
  have h4 : A 4 = C 5 1 := h.1.2.2.2.2.1
  have h5 : A 5 = C 7 1 := h.1.2.2.2.2.2.1
  have h6 : A 6 = C 9 1 := h.1.2.2.2.2.2.2
  obtain ⟨_, _, _, _, g4, g5, g6⟩ := h.2.1
  obtain ⟨t1, t2, t3⟩ := h.2.2.2.2.1
  have u : ∀ j, j ≠ r → up A r 0 j = A j := fun j hj => up_ne hj
  have ur : up A r 0 r = 0 := up_at _ _ _
  have f4 : (up A r 0 4 = C' 5 1 ∧ 0 ≤ up A r 0 4 ∧ up A r 0 4 ≤ 8) ∧ (up A r 0 4 = A 4 ∨ up A r 0 4 = 0) := by
    rcases hr with rfl | rfl | rfl
    · rw [ur]; exact ⟨⟨d.symm, by decide, by decide⟩, Or.inr rfl⟩
    · rw [u 4 (by decide), ci 5 (by decide)]; exact ⟨⟨h4, g4⟩, Or.inl rfl⟩
    · rw [u 4 (by decide), ci 5 (by decide)]; exact ⟨⟨h4, g4⟩, Or.inl rfl⟩
  have f5 : (up A r 0 5 = C' 7 1 ∧ 0 ≤ up A r 0 5 ∧ up A r 0 5 ≤ 8) ∧ (up A r 0 5 = A 5 ∨ up A r 0 5 = 0) := by
    rcases hr with rfl | rfl | rfl
    · rw [u 5 (by decide), ci 7 (by decide)]; exact ⟨⟨h5, g5⟩, Or.inl rfl⟩
    · rw [ur]; exact ⟨⟨d.symm, by decide, by decide⟩, Or.inr rfl⟩
    · rw [u 5 (by decide), ci 7 (by decide)]; exact ⟨⟨h5, g5⟩, Or.inl rfl⟩
  have f6 : (up A r 0 6 = C' 9 1 ∧ 0 ≤ up A r 0 6 ∧ up A r 0 6 ≤ 8) ∧ (up A r 0 6 = A 6 ∨ up A r 0 6 = 0) := by
    rcases hr with rfl | rfl | rfl
    · rw [u 6 (by decide), ci 9 (by decide)]; exact ⟨⟨h6, g6⟩, Or.inl rfl⟩
    · rw [u 6 (by decide), ci 9 (by decide)]; exact ⟨⟨h6, g6⟩, Or.inl rfl⟩
    · rw [ur]; exact ⟨⟨d.symm, by decide, by decide⟩, Or.inr rfl⟩
  refine relC_tld h (fun j j0 j1 j2 j3 => u j (by omega)) (fun i hi => ci i (by omega)) f4.1 f5.1 f6.1 ⟨fun i i0 i1 => ?_, fun i i0 i1 => ?_, fun i i0 i1 => ?_⟩
  · have := t1 i i0 (by omega)
    unfold rcd at *
    rw [u _ (by omega), u _ (by omega), u _ (by omega), u 0 (by omega), ci 6 (by omega)]
    exact this
  · have := t2 i i0 (by omega)
    unfold lrn at *
    rw [u _ (by omega), u _ (by omega), u 0 (by omega), ci 8 (by omega)]
    exact this
  · have := t3 i i0 (by omega)
    unfold cns at *
    rw [u _ (by omega), u _ (by omega), ci 10 (by omega)]
    exact this
