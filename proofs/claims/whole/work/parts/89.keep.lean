/-! steps: kept and taken back, on both sides -/
theorem rKeep_3 {A : Int → Int} : rKeep A 3 = if A 3 = 30 then 30 else A 3 + 1 := by
  unfold rKeep rK2
  rw [if_pos rfl]
  unfold rK1
  by_cases h : A 3 = 30
  · rw [if_pos h, if_pos h, if_pos rfl]
    rfl
  · rw [if_neg h, if_neg h]
theorem rK1_3 {A : Int → Int} : rK1 A 3 = if A 3 = 30 then 29 else A 3 := by
  unfold rK1
  by_cases h : A 3 = 30
  · rw [if_pos h, if_pos h, if_pos rfl]
  · rw [if_neg h, if_neg h]
theorem rKeep_hi {A : Int → Int} (h : 0 ≤ A 3 ∧ A 3 ≤ 30) {j : Int} (hj : 1182 ≤ j) : rKeep A j = A j := by
  have h3 : 0 ≤ rK1 A 3 ∧ rK1 A 3 ≤ 29 := by
    rw [rK1_3]
    by_cases h : A 3 = 30
    · rw [if_pos h]; omega
    · rw [if_neg h]; omega
  unfold rKeep rK2
  rw [if_neg (by omega), if_neg (by omega), if_neg (by omega), if_neg (by omega)]
  unfold rK1
  by_cases h : A 3 = 30
  · rw [if_pos h, if_neg (by omega), if_neg (by omega)]
  · rw [if_neg h]
/-- the elder rows: moved down by one where thirty stood -/
theorem rKeep_row {A : Int → Int} (h : 0 ≤ A 3 ∧ A 3 ≤ 30) {k i : Int} (hk : 0 ≤ k ∧ k + 1 < rKeep A 3) (hi : 0 ≤ i ∧ i < 35) : rKeep A (132 + 35 * k + i) = A (132 + 35 * (if A 3 = 30 then k + 1 else k) + i) := by
  rw [rKeep_3] at hk
  unfold rKeep rK2
  rw [rK1_3]
  by_cases h3 : A 3 = 30
  · rw [if_pos h3] at hk
    rw [if_pos h3, if_pos h3, if_neg (by omega), if_neg (by omega), if_neg (by omega), if_neg (by omega)]
    unfold rK1
    rw [if_pos h3, if_neg (by omega), if_pos (by omega)]
    congr 1
    omega
  · rw [if_neg h3] at hk
    rw [if_neg h3, if_neg h3, if_neg (by omega), if_neg (by omega), if_neg (by omega), if_neg (by omega)]
    unfold rK1
    rw [if_neg h3]
/-- the new row -/
theorem rKeep_new {A : Int → Int} (h : 0 ≤ A 3 ∧ A 3 ≤ 30) {k i : Int} (hk : k + 1 = rKeep A 3) (hi : 0 ≤ i ∧ i < 35) : rKeep A (132 + 35 * k + i) = if i = 0 then A 0 else if i < 11 then A (8 + (i - 1)) else A (20 + 7 * ((i - 11) / 3) + (4 + (i - 11) % 3)) := by
  have e : ∀ j, j < 132 → j ≠ 3 → rK1 A j = A j := fun j j1 j2 => by
    unfold rK1
    by_cases h3 : A 3 = 30
    · rw [if_pos h3, if_neg j2, if_neg (by omega)]
    · rw [if_neg h3]
  have hx : rK1 A 3 = k := by
    rw [rKeep_3] at hk
    rw [rK1_3]
    by_cases h3 : A 3 = 30
    · rw [if_pos h3] at hk ⊢; omega
    · rw [if_neg h3] at hk ⊢; omega
  have hk0 : 0 ≤ k := by
    rw [← hx, rK1_3]
    by_cases h3 : A 3 = 30
    · rw [if_pos h3]; omega
    · rw [if_neg h3]; omega
  unfold rKeep rK2
  rw [hx, if_neg (by omega)]
  by_cases h0 : i = 0
  · rw [if_pos (by omega), if_pos h0, e 0 (by omega) (by omega)]
  · rw [if_neg (by omega), if_neg h0]
    by_cases h1 : i < 11
    · rw [if_pos (by omega), if_pos h1, e _ (by omega) (by omega)]
      congr 1
      omega
    · rw [if_neg (by omega), if_pos (by omega), if_neg h1, show 132 + 35 * k + i - (132 + 35 * k + 11) = i - 11 by omega]
      exact e _ (by omega) (by omega)
theorem stA_new {A : Int → Int} {K : Int → Int} (h : 0 ≤ A 3 ∧ A 3 ≤ 30) (hi : inv A K (A 0)) {k : Int} (hk : k + 1 = rKeep A 3) {j : Int} (hj : (8 ≤ j ∧ j < 18) ∨ (20 ≤ j ∧ j < 76) ∨ 1182 ≤ j) : stA (rKeep A) k j = A j := by
  have hm := hi.1
  by_cases h1 : 8 ≤ j ∧ j < 18
  · rw [stA_lo _ _ h1, show 132 + 35 * k + 1 + (j - 8) = 132 + 35 * k + (1 + (j - 8)) by omega, rKeep_new h hk (by omega), if_neg (by omega), if_pos (by omega)]
    congr 1
    omega
  · by_cases h2 : (24 ≤ j ∧ j < 76) ∧ 4 ≤ (j - 20) % 7
    · have e0 := rKeep_new h hk (i := 0) (by omega)
      rw [Int.add_zero, if_pos rfl] at e0
      rw [stA_sl _ _ h2, e0]
      by_cases hc : (j - 20) / 7 < A 0
      · rw [if_pos hc, show 132 + 35 * k + 11 + 3 * ((j - 20) / 7) + ((j - 20) % 7 - 4) = 132 + 35 * k + (11 + 3 * ((j - 20) / 7) + ((j - 20) % 7 - 4)) by omega, rKeep_new h hk (by omega), if_neg (by omega), if_neg (by omega)]
        congr 1
        omega
      · rw [if_neg hc]
        have sl := (hi.2.2.1 ((j - 20) / 7) (by omega) (by omega)).2.2.2.2.2 (by omega)
        have : j = 24 + 7 * ((j - 20) / 7) ∨ j = 25 + 7 * ((j - 20) / 7) ∨ j = 26 + 7 * ((j - 20) / 7) := by omega
        rcases this with e | e | e
        · rw [e]; exact sl.1.symm
        · rw [e]; exact sl.2.1.symm
        · rw [e]; exact sl.2.2.symm
    · rw [stA_el _ _ h1 h2]
      by_cases h3 : j < 132
      · exact rKeep_lo h h3 (by omega)
      · exact rKeep_hi h (by omega)
theorem relC_keep {A : Int → Int} {C C' : xCt} (h : relC A C) (c2 : C' 0 2 = if 30 ≤ C 0 2 then C 0 2 else C 0 2 + 1) (c3 : C' 0 3 = (C 0 3 + 1) % 30) (c8 : C' 0 8 = C 0 8) (c9 : C' 0 9 = C 0 9) (cs : ∀ j, C' 2 j = if 64 * C 0 3 ≤ j ∧ j < 64 * C 0 3 + 64 then C 1 (j - 64 * C 0 3) else C 2 j) (ci : ∀ i, i ≠ 0 → i ≠ 2 → C' i = C i) : relC (rKeep A) C' := by
  obtain ⟨hc, hr, hn, hi, ht, hs⟩ := h
  have h3 := hr.2.2.1
  have hx := hr.2.2.2.1
  have lo : ∀ j, j < 132 → j ≠ 3 → rKeep A j = A j := fun j q1 q2 => rKeep_lo h3 q1 q2
  have z0 := lo 0 (by omega) (by omega)
  have z17 := lo 17 (by omega) (by omega)
  have hc3 : A 3 = C 0 2 := hc.2.2.2.1
  have k3 : rKeep A 3 = C' 0 2 := by
    rw [rKeep_3, c2, ← hc3]
    by_cases e : A 3 = 30
    · rw [if_pos e, if_pos (by omega), e]
    · rw [if_neg e, if_neg (by omega)]
  have k3r : 1 ≤ rKeep A 3 ∧ rKeep A 3 ≤ 30 := by
    rw [rKeep_3]
    by_cases e : A 3 = 30
    · rw [if_pos e]; omega
    · rw [if_neg e]; omega
  -- an elder step, by its new place
  have old : ∀ k, 0 ≤ k → k + 1 < rKeep A 3 → (0 ≤ (if A 3 = 30 then k + 1 else k) ∧ (if A 3 = 30 then k + 1 else k) < A 3) ∧ (∀ j, (8 ≤ j ∧ j < 18) ∨ (20 ≤ j ∧ j < 76) ∨ 1182 ≤ j → stA (rKeep A) k j = stA A (if A 3 = 30 then k + 1 else k) j) ∧ (∀ j, 0 ≤ j → j < 64 → stN C' k j = stN C (if A 3 = 30 then k + 1 else k) j) ∧ rKeep A (132 + 35 * k) = A (132 + 35 * (if A 3 = 30 then k + 1 else k)) := by
    intro k k0 k1
    have hrow : ∀ i, 0 ≤ i → i < 35 → rKeep A (132 + 35 * k + i) = A (132 + 35 * (if A 3 = 30 then k + 1 else k) + i) := fun i i0 i1 => rKeep_row h3 ⟨k0, k1⟩ ⟨i0, i1⟩
    have hrow0 := hrow 0 (by omega) (by omega)
    rw [Int.add_zero, Int.add_zero] at hrow0
    rw [rKeep_3] at k1
    refine ⟨?_, fun j hj => ?_, fun j j0 j1 => ?_, hrow0⟩
    · by_cases e : A 3 = 30
      · rw [if_pos e] at k1 ⊢; omega
      · rw [if_neg e] at k1 ⊢; omega
    · refine stA_of hrow ?_
      rcases hj with hj | hj | hj
      · exact Or.inl hj
      · exact Or.inr (Or.inr (lo j (by omega) (by omega)))
      · exact Or.inr (Or.inr (rKeep_hi h3 hj))
    · unfold stN
      rw [cs, c3, c2, ← hc3]
      by_cases e : A 3 = 30
      · rw [if_pos e] at k1
        rw [if_pos e, if_pos (show 30 ≤ A 3 by omega), if_neg (by omega)]
        congr 1
        omega
      · rw [if_neg e] at k1
        rw [if_neg e, if_neg (show ¬ 30 ≤ A 3 by omega), if_neg (by omega)]
        congr 1
        omega
  have new : ∀ k, k + 1 = rKeep A 3 → (∀ j, (8 ≤ j ∧ j < 18) ∨ (20 ≤ j ∧ j < 76) ∨ 1182 ≤ j → stA (rKeep A) k j = A j) ∧ (∀ j, 0 ≤ j → j < 64 → stN C' k j = C 1 j) ∧ rKeep A (132 + 35 * k) = A 0 := by
    intro k hk
    have hrow0 := rKeep_new h3 hk (i := 0) (by omega)
    rw [Int.add_zero, if_pos rfl] at hrow0
    refine ⟨fun j hj => stA_new h3 hi hk hj, fun j j0 j1 => ?_, hrow0⟩
    rw [rKeep_3] at hk
    unfold stN
    rw [cs, c3, c2, ← hc3]
    by_cases e : A 3 = 30
    · rw [if_pos e] at hk
      rw [if_pos (show 30 ≤ A 3 by omega), if_pos (by omega)]
      congr 1
      omega
    · rw [if_neg e] at hk
      rw [if_neg (show ¬ 30 ≤ A 3 by omega), if_pos (by omega)]
      congr 1
      omega
  have w17 : ∀ k, 0 ≤ k → k < rKeep A 3 → (k + 1 < rKeep A 3 ∧ stA (rKeep A) k 17 = stA A (if A 3 = 30 then k + 1 else k) 17) ∨ (k + 1 = rKeep A 3 ∧ stA (rKeep A) k 17 = A 17) := by
    intro k k0 k1
    by_cases e : k + 1 = rKeep A 3
    · exact Or.inr ⟨e, (new k e).1 17 (by omega)⟩
    · exact Or.inl ⟨by omega, (old k k0 (by omega)).2.1 17 (by omega)⟩
  refine ⟨?_, ?_, ?_, ?_, ?_, fun k k0 k1 => ?_⟩
  · obtain ⟨q0, q1, q2, _, q4, q5, q6⟩ := hc
    refine ⟨?_, ?_, ?_, k3, ?_, ?_, ?_⟩
    · rw [z0, ci 3 (by omega) (by omega)]; exact q0
    · rw [lo 1 (by omega) (by omega), c8]; exact q1
    · rw [lo 2 (by omega) (by omega), c9]; exact q2
    · rw [lo 4 (by omega) (by omega), ci 5 (by omega) (by omega)]; exact q4
    · rw [lo 5 (by omega) (by omega), ci 7 (by omega) (by omega)]; exact q5
    · rw [lo 6 (by omega) (by omega), ci 9 (by omega) (by omega)]; exact q6
  · obtain ⟨q1, q2, _, _, q4, q5, q6⟩ := hr
    refine ⟨?_, ?_, by omega, by omega, ?_, ?_, ?_⟩
    · rw [lo 1 (by omega) (by omega)]; exact q1
    · rw [lo 1 (by omega) (by omega), lo 2 (by omega) (by omega)]; exact q2
    · rw [lo 4 (by omega) (by omega)]; exact q4
    · rw [lo 5 (by omega) (by omega)]; exact q5
    · rw [lo 6 (by omega) (by omega)]; exact q6
  · rw [ci 1 (by omega) (by omega)]
    exact relN_of hn (fun j j0 j1 => lo j (by omega) (by omega)) (fun j j0 j1 _ => lo j (by omega) (by omega)) (fun j j0 _ _ => rKeep_hi h3 j0) (fun j _ _ => rfl)
  · rw [ci 4 (by omega) (by omega), z0]
    exact inv_of hi (fun j j0 j1 => lo j (by omega) (by omega)) (fun j j0 j1 => lo j (by omega) (by omega)) (fun j _ _ => rfl)
  · have q : ∀ i, i ≠ 0 → i ≠ 2 → ∀ j, C' i j = C i j := fun i h1 h2 j => by rw [ci i h1 h2]
    exact tld_of ht hr z0 (lo 4 (by omega) (by omega)) (lo 5 (by omega) (by omega)) (lo 6 (by omega) (by omega)) (fun j j0 j1 => lo j (by omega) (by omega)) (fun j _ _ => q 6 (by omega) (by omega) j) (fun j _ _ => q 8 (by omega) (by omega) j) (fun j _ _ => q 10 (by omega) (by omega) j)
  · by_cases e : k + 1 = rKeep A 3
    · obtain ⟨n1, n2, n3⟩ := new k e
      have hm := hi.1
      refine ⟨by rw [n3, z0]; omega, ?_, ?_, ?_, fun k' k0' k1' => ?_⟩
      · exact relN_of hn (fun j j0 j1 => n1 j (by omega)) (fun j j0 j1 _ => n1 j (by omega)) (fun j j0 _ _ => n1 j (by omega)) n2
      · rw [ci 4 (by omega) (by omega), z0]
        exact inv_of hi (fun j j0 j1 => n1 j (by omega)) (fun j j0 j1 => n1 j (by omega)) (fun j _ _ => rfl)
      · rw [n1 17 (by omega), z17]
        exact Int.le_refl _
      · rw [n1 17 (by omega)]
        rcases w17 k' k0' (by omega) with ⟨e1, e2⟩ | ⟨e1, e2⟩
        · rw [e2]
          have o := (old k' k0' e1).1
          exact (hs _ o.1 o.2).2.2.2.1
        · rw [e2]
          exact Int.le_refl _
    · obtain ⟨o1, o2, o3, o4⟩ := old k k0 (by omega)
      obtain ⟨s1, s2, s3, s4, s5⟩ := hs _ o1.1 o1.2
      refine ⟨by rw [o4, z0]; exact s1, ?_, ?_, ?_, fun k' k0' k1' => ?_⟩
      · exact relN_of s2 (fun j j0 j1 => o2 j (by omega)) (fun j j0 j1 _ => o2 j (by omega)) (fun j j0 _ _ => o2 j (by omega)) o3
      · rw [ci 4 (by omega) (by omega), z0]
        exact inv_of s3 (fun j j0 j1 => o2 j (by omega)) (fun j j0 j1 => o2 j (by omega)) (fun j _ _ => rfl)
      · rw [o2 17 (by omega), z17]
        exact s4
      · rw [o2 17 (by omega), (old k' k0' (by omega)).2.1 17 (by omega)]
        have o' := (old k' k0' (by omega)).1
        refine s5 _ o'.1 ?_
        by_cases e3 : A 3 = 30
        · rw [if_pos e3, if_pos e3]; omega
        · rw [if_neg e3, if_neg e3]; omega
