/-! undo, image and back, what is told: the relation is kept -/
theorem stp_of {A A' : Int → Int} {C C' : xCt} {k : Int} (h : stp A C k) (k0 : 0 ≤ k) (k1 : k < 30) (h17 : 0 ≤ A 0 ∧ A 0 ≤ 8) (e0 : A' 0 = A 0) (e17 : A 17 ≤ A' 17) (eK : ∀ j, 20 ≤ j → j < 76 → (j - 20) % 7 < 4 → A' j = A j) (e1 : ∀ j, 132 ≤ j → j < 1182 → A' j = A j) (e2 : ∀ j, 1182 ≤ j → j < 1182 + 2 * A 17 → j < 1242 → A' j = A j)
    (c2 : C' 0 2 = C 0 2) (c3 : C' 0 3 = C 0 3) (cs : ∀ j, 0 ≤ j → j < 1920 → C' 2 j = C 2 j) (c4 : ∀ j, 0 ≤ j → j < 32 → C' 4 j = C 4 j) : stp A' C' k := by
  obtain ⟨s1, s2, s3, s4, s5⟩ := h
  have er : ∀ k, 0 ≤ k → k < 30 → ∀ i, 0 ≤ i → i < 35 → A' (132 + 35 * k + i) = A (132 + 35 * k + i) := fun k k0 k1 i i0 i1 => e1 _ (by omega) (by omega)
  have es : ∀ j, 0 ≤ j → j < 64 → stN C' k j = stN C k j := by
    intro j j0 j1
    unfold stN
    rw [c2, c3, cs _ (by omega) (by omega)]
  have ew : ∀ k, 0 ≤ k → k < 30 → stA A' k 17 = stA A k 17 := fun k k0 k1 => stA_of (er k k0 k1) (Or.inl (by omega))
  have eN9 : stN C k 9 = stA A k 17 := (rel_at s2 (i := 9) (j := 17) (by omega) rfl).symm
  refine ⟨?_, ?_, ?_, ?_, fun k' k0' k1' => ?_⟩
  · rw [e1 _ (by omega) (by omega), e0]
    exact s1
  · exact relN_of s2 (fun j j0 j1 => stA_of (er k k0 k1) (Or.inl ⟨j0, j1⟩)) (fun j j0 j1 j2 => stA_of (er k k0 k1) (Or.inr (Or.inl ⟨⟨j0, j1⟩, j2⟩))) (fun j j0 j1 j2 => stA_of (er k k0 k1) (Or.inr (Or.inr (e2 j j0 (by omega) j2)))) es
  · rw [e0]
    refine inv_of s3 (fun j j0 j1 => stA_of (er k k0 k1) (Or.inl ⟨j0, j1⟩)) (fun j j0 j1 => ?_) (fun j j0 j1 => c4 j j0 (by omega))
    by_cases hj : 4 ≤ (j - 20) % 7
    · exact stA_of (er k k0 k1) (Or.inr (Or.inl ⟨by omega, hj⟩))
    · exact stA_of (er k k0 k1) (Or.inr (Or.inr (eK j j0 j1 (by omega))))
  · rw [ew k k0 k1]
    omega
  · rw [ew k k0 k1, ew k' k0' (by omega)]
    exact s5 k' k0' k1'
theorem relC_undo {A : Int → Int} {C C' : xCt} (h : relC A C) (hne : A 3 ≠ 0) (c2 : C' 0 2 = C 0 2 - 1) (c3 : C' 0 3 = (C 0 3 + 29) % 30) (c8 : C' 0 8 = C 0 8) (c9 : C' 0 9 = C 0 9) (cn : ∀ j, 0 ≤ j → j < 64 → C' 1 j = C 2 (64 * ((C 0 3 + 29) % 30) + j)) (ci : ∀ i, i ≠ 0 → i ≠ 1 → C' i = C i) : relC (rUndo A) C' := by
  obtain ⟨hc, hr, hn, hi, ht, hs⟩ := h
  have h3 := hr.2.2.1
  have hx := hr.2.2.2.1
  have hm := hi.1
  have hc3 : A 3 = C 0 2 := hc.2.2.2.1
  obtain ⟨s1, s2, s3, s4, s5⟩ := hs (A 3 - 1) (by omega) (by omega)
  have u3 : rUndo A 3 = A 3 - 1 := if_pos rfl
  -- what comes back
  have ub : ∀ j, (8 ≤ j ∧ j < 18) ∨ (20 ≤ j ∧ j < 76) ∨ 1182 ≤ j → rUndo A j = stA A (A 3 - 1) j := by
    intro j hj
    unfold rUndo
    rw [if_neg (by omega)]
    by_cases h1 : 8 ≤ j ∧ j < 18
    · rw [if_pos h1, stA_lo _ _ h1]
    · rw [if_neg h1]
      by_cases h2 : (24 ≤ j ∧ j < 76) ∧ 4 ≤ (j - 20) % 7
      · rw [stA_sl _ _ h2]
        by_cases hb : j < 24 + 7 * A 0
        · rw [if_pos ⟨h2.1.1, h2.2, hb⟩]
        · rw [if_neg (fun z => hb z.2.2), if_neg (by omega)]
          have sl := (hi.2.2.1 ((j - 20) / 7) (by omega) (by omega)).2.2.2.2.2 (by omega)
          have : j = 24 + 7 * ((j - 20) / 7) ∨ j = 25 + 7 * ((j - 20) / 7) ∨ j = 26 + 7 * ((j - 20) / 7) := by omega
          rcases this with e | e | e
          · rw [e]; exact sl.1
          · rw [e]; exact sl.2.1
          · rw [e]; exact sl.2.2
      · rw [if_neg (by omega), stA_el _ _ h1 h2]
  have ue : ∀ j, j ≠ 3 → j < 8 ∨ (20 ≤ j ∧ (j - 20) % 7 < 4) ∨ 76 ≤ j → rUndo A j = A j := by
    intro j q1 q2
    unfold rUndo
    rw [if_neg q1, if_neg (by omega), if_neg (by omega)]
  have z0 := ue 0 (by omega) (by omega)
  have sN : ∀ j, 0 ≤ j → j < 64 → C' 1 j = stN C (A 3 - 1) j := fun j j0 j1 => by
    rw [cn j j0 j1]
    unfold stN
    congr 1
    omega
  refine ⟨?_, ?_, ?_, ?_, ?_, fun k k0 k1 => ?_⟩
  · obtain ⟨q0, q1, q2, _, q4, q5, q6⟩ := hc
    refine ⟨?_, ?_, ?_, by rw [u3, c2]; omega, ?_, ?_, ?_⟩
    · rw [z0, ci 3 (by omega) (by omega)]; exact q0
    · rw [ue 1 (by omega) (by omega), c8]; exact q1
    · rw [ue 2 (by omega) (by omega), c9]; exact q2
    · rw [ue 4 (by omega) (by omega), ci 5 (by omega) (by omega)]; exact q4
    · rw [ue 5 (by omega) (by omega), ci 7 (by omega) (by omega)]; exact q5
    · rw [ue 6 (by omega) (by omega), ci 9 (by omega) (by omega)]; exact q6
  · obtain ⟨q1, q2, _, _, q4, q5, q6⟩ := hr
    refine ⟨?_, ?_, by omega, by omega, ?_, ?_, ?_⟩
    · rw [ue 1 (by omega) (by omega)]; exact q1
    · rw [ue 1 (by omega) (by omega), ue 2 (by omega) (by omega)]; exact q2
    · rw [ue 4 (by omega) (by omega)]; exact q4
    · rw [ue 5 (by omega) (by omega)]; exact q5
    · rw [ue 6 (by omega) (by omega)]; exact q6
  · exact relN_of s2 (fun j j0 j1 => ub j (by omega)) (fun j j0 j1 _ => ub j (by omega)) (fun j j0 _ _ => ub j (by omega)) sN
  · rw [ci 4 (by omega) (by omega), z0]
    exact inv_of s3 (fun j j0 j1 => ub j (by omega)) (fun j j0 j1 => ub j (by omega)) (fun j _ _ => rfl)
  · have q : ∀ i, i ≠ 0 → i ≠ 1 → ∀ j, C' i j = C i j := fun i h1 h2 j => by rw [ci i h1 h2]
    exact tld_of ht hr z0 (ue 4 (by omega) (by omega)) (ue 5 (by omega) (by omega)) (ue 6 (by omega) (by omega)) (fun j j0 j1 => ue j (by omega) (by omega)) (fun j _ _ => q 6 (by omega) (by omega) j) (fun j _ _ => q 8 (by omega) (by omega) j) (fun j _ _ => q 10 (by omega) (by omega) j)
  · rw [u3] at k1
    obtain ⟨t1, t2, t3, t4, t5⟩ := hs k k0 (by omega)
    have er : ∀ k, 0 ≤ k → k < 30 → ∀ i, 0 ≤ i → i < 35 → rUndo A (132 + 35 * k + i) = A (132 + 35 * k + i) := fun k k0 k1 i i0 i1 => ue _ (by omega) (by omega)
    have es : stN C' k = stN C k := by
      funext j
      unfold stN
      rw [ci 2 (by omega) (by omega), c2, c3]
      congr 1
      omega
    have ew : ∀ k, 0 ≤ k → k < 30 → stA (rUndo A) k 17 = stA A k 17 := fun k k0 k1 => stA_of (er k k0 k1) (Or.inl (by omega))
    refine ⟨?_, ?_, ?_, ?_, fun k' k0' k1' => ?_⟩
    · rw [ue _ (by omega) (by omega), z0]
      exact t1
    · rw [es]
      exact relN_of t2 (fun j j0 j1 => stA_of (er k k0 (by omega)) (Or.inl ⟨j0, j1⟩)) (fun j j0 j1 j2 => stA_of (er k k0 (by omega)) (Or.inr (Or.inl ⟨⟨j0, j1⟩, j2⟩))) (fun j j0 j1 j2 => stA_of (er k k0 (by omega)) (Or.inr (Or.inr (ue j (by omega) (by omega))))) (fun j _ _ => rfl)
    · rw [z0, ci 4 (by omega) (by omega)]
      refine inv_of t3 (fun j j0 j1 => stA_of (er k k0 (by omega)) (Or.inl ⟨j0, j1⟩)) (fun j j0 j1 => ?_) (fun j _ _ => rfl)
      by_cases hj : 4 ≤ (j - 20) % 7
      · exact stA_of (er k k0 (by omega)) (Or.inr (Or.inl ⟨by omega, hj⟩))
      · exact stA_of (er k k0 (by omega)) (Or.inr (Or.inr (ue j (by omega) (by omega))))
    · rw [ew k k0 (by omega), ub 17 (by omega)]
      exact s5 k k0 (by omega)
    · rw [ew k k0 (by omega), ew k' k0' (by omega)]
      exact t5 k' k0' k1'
/-- a whole court like another -/
theorem relC_of {A A' : Int → Int} {C C' : xCt} (h : relC A C) (e : ∀ j, 0 ≤ j → j < 3642 → A' j = A j) (c2 : C' 0 2 = C 0 2) (c3 : C' 0 3 = C 0 3) (c8 : C' 0 8 = C 0 8) (c9 : C' 0 9 = C 0 9) (d1 : ∀ j, 0 ≤ j → j < 64 → C' 1 j = C 1 j) (d2 : ∀ j, 0 ≤ j → j < 1920 → C' 2 j = C 2 j)
    (d3 : C' 3 1 = C 3 1) (d4 : ∀ j, 0 ≤ j → j < 32 → C' 4 j = C 4 j) (d5 : C' 5 1 = C 5 1) (d6 : ∀ j, 0 ≤ j → j < 32 → C' 6 j = C 6 j) (d7 : C' 7 1 = C 7 1) (d8 : ∀ j, 0 ≤ j → j < 32 → C' 8 j = C 8 j) (d9 : C' 9 1 = C 9 1) (d10 : ∀ j, 0 ≤ j → j < 32 → C' 10 j = C 10 j) : relC A' C' := by
  obtain ⟨hc, hr, hn, hi, ht, hs⟩ := h
  have hm := hi.1
  have e9 : A 17 = C 1 9 := rel_at hn (by omega) rfl
  have h17 := inv_17 hi
  have z17 := e 17 (by omega) (by omega)
  refine ⟨?_, ?_, ?_, ?_, ?_, fun k k0 k1 => ?_⟩
  · unfold cts at *
    rw [e 0 (by omega) (by omega), e 1 (by omega) (by omega), e 2 (by omega) (by omega), e 3 (by omega) (by omega), e 4 (by omega) (by omega), e 5 (by omega) (by omega), e 6 (by omega) (by omega), c2, c8, c9, d3, d5, d7, d9]
    exact hc
  · unfold rgs at *
    rw [e 1 (by omega) (by omega), e 2 (by omega) (by omega), e 3 (by omega) (by omega), e 4 (by omega) (by omega), e 5 (by omega) (by omega), e 6 (by omega) (by omega), c3]
    exact hr
  · exact relN_of hn (fun j j0 j1 => e j (by omega) (by omega)) (fun j j0 j1 _ => e j (by omega) (by omega)) (fun j j0 _ j1 => e j (by omega) (by omega)) d1
  · rw [e 0 (by omega) (by omega)]
    exact inv_of hi (fun j j0 j1 => e j (by omega) (by omega)) (fun j j0 j1 => e j (by omega) (by omega)) (fun j j0 j1 => d4 j j0 (by omega))
  · exact tld_of ht hr (e 0 (by omega) (by omega)) (e 4 (by omega) (by omega)) (e 5 (by omega) (by omega)) (e 6 (by omega) (by omega)) (fun j j0 j1 => e j (by omega) (by omega)) d6 d8 d10
  · rw [e 3 (by omega) (by omega)] at k1
    have r3 := hr.2.2.1
    exact stp_of (hs k k0 k1) k0 (by omega) hm (e 0 (by omega) (by omega)) (by omega) (fun j j0 j1 _ => e j (by omega) (by omega)) (fun j j0 j1 => e j (by omega) (by omega)) (fun j j0 j1 _ => e j (by omega) (by omega)) c2 c3 d2 d4
/-- only what was told besides cases changes -/
theorem relC_tld {A A' : Int → Int} {C C' : xCt} (h : relC A C) (e : ∀ j, 0 ≤ j → j < 3642 → ¬ (4 ≤ j ∧ j < 7) → ¬ (76 ≤ j ∧ j < 132) → A' j = A j) (ec : ∀ i, i < 5 → C' i = C i) (q4 : A' 4 = C' 5 1 ∧ 0 ≤ A' 4 ∧ A' 4 ≤ 8) (q5 : A' 5 = C' 7 1 ∧ 0 ≤ A' 5 ∧ A' 5 ≤ 8) (q6 : A' 6 = C' 9 1 ∧ 0 ≤ A' 6 ∧ A' 6 ≤ 8) (ht : tld A' C') : relC A' C' := by
  obtain ⟨hc, hr, hn, hi, _, hs⟩ := h
  have hm := hi.1
  have h17 := inv_17 hi
  have z17 := e 17 (by omega) (by omega) (by omega) (by omega)
  obtain ⟨p0, p1, p2, p3, _, _, _⟩ := hc
  obtain ⟨r1, r2, r3, rx, _, _, _⟩ := hr
  have z0 := e 0 (by omega) (by omega) (by omega) (by omega)
  have z1 := e 1 (by omega) (by omega) (by omega) (by omega)
  have z2 := e 2 (by omega) (by omega) (by omega) (by omega)
  have z3 := e 3 (by omega) (by omega) (by omega) (by omega)
  refine ⟨⟨?_, ?_, ?_, ?_, q4.1, q5.1, q6.1⟩, ⟨by omega, by omega, by omega, ?_, q4.2, q5.2, q6.2⟩, ?_, ?_, ht, fun k k0 k1 => ?_⟩
  · rw [z0, ec 3 (by omega)]; exact p0
  · rw [z1, ec 0 (by omega)]; exact p1
  · rw [z2, ec 0 (by omega)]; exact p2
  · rw [z3, ec 0 (by omega)]; exact p3
  · rw [ec 0 (by omega)]; exact rx
  · rw [ec 1 (by omega)]
    exact relN_of hn (fun j j0 j1 => e j (by omega) (by omega) (by omega) (by omega)) (fun j j0 j1 _ => e j (by omega) (by omega) (by omega) (by omega)) (fun j j0 _ j1 => e j (by omega) (by omega) (by omega) (by omega)) (fun j _ _ => rfl)
  · rw [z0, ec 4 (by omega)]
    exact inv_of hi (fun j j0 j1 => e j (by omega) (by omega) (by omega) (by omega)) (fun j j0 j1 => e j (by omega) (by omega) (by omega) (by omega)) (fun j _ _ => rfl)
  · rw [z3] at k1
    exact stp_of (hs k k0 k1) k0 (by omega) hm z0 (by omega) (fun j j0 j1 _ => e j (by omega) (by omega) (by omega) (by omega)) (fun j j0 j1 => e j (by omega) (by omega) (by omega) (by omega)) (fun j j0 j1 _ => e j (by omega) (by omega) (by omega) (by omega)) (by rw [ec 0 (by omega)]) (by rw [ec 0 (by omega)]) (fun j _ _ => by rw [ec 2 (by omega)]) (fun j _ _ => by rw [ec 4 (by omega)])
theorem inv_case {A A' K K' : Int → Int} {m : Int} (h : inv A K m) (hm8 : m < 8) (e1 : ∀ j, 8 ≤ j → j < 18 → A' j = A j) (e2 : ∀ j, 20 ≤ j → j < 76 → ¬ (20 + 7 * m ≤ j ∧ j < 24 + 7 * m) → A' j = A j) (eK : ∀ j, 0 ≤ j → j < 4 * m → K' j = K j) (ht' : told K' m) (hk' : relK A' K' m) : inv A' K' (m + 1) := by
  obtain ⟨hm, ⟨a8, a9, a10, a11, a12, a14, a15, a16, a17⟩, hs, ht, hc, hp⟩ := h
  have q8 := e1 8 (by omega) (by omega)
  have q9 := e1 9 (by omega) (by omega)
  have q10 := e1 10 (by omega) (by omega)
  have q11 := e1 11 (by omega) (by omega)
  have q12 := e1 12 (by omega) (by omega)
  have q13 := e1 13 (by omega) (by omega)
  have q14 := e1 14 (by omega) (by omega)
  have q15 := e1 15 (by omega) (by omega)
  have q16 := e1 16 (by omega) (by omega)
  have q17 := e1 17 (by omega) (by omega)
  refine ⟨by omega, ⟨by omega, by omega, by omega, by omega, by omega, by omega, by omega, by omega, by omega⟩, fun c c0 c1 => ?_, fun c c0 c1 => ?_, ?_, ?_⟩
  · have s := hs c c0 c1
    have s' := slot_of s (e2 _ (by omega) (by omega) (by omega)) (e2 _ (by omega) (by omega) (by omega)) (e2 _ (by omega) (by omega) (by omega)) (fun z => by rw [q13]; exact s.2.2.2.2.1 z)
    exact ⟨s'.1, s'.2.1, s'.2.2.1, s'.2.2.2.1, s'.2.2.2.2.1, fun z => s'.2.2.2.2.2 (by omega)⟩
  · by_cases hcm : c = m
    · subst hcm
      exact ⟨ht', hk'⟩
    · have t := ht c c0 (by omega)
      refine ⟨?_, fun j j0 j1 => ?_⟩
      · unfold told at *
        rw [eK _ (by omega) (by omega), eK _ (by omega) (by omega), eK _ (by omega) (by omega), eK _ (by omega) (by omega)]
        exact t.1
      · rw [e2 _ (by omega) (by omega) (by omega), eK _ (by omega) (by omega)]
        exact t.2 j j0 j1
  · unfold court at *
    rw [q13, q14, q15, q16]
    rcases hc with hc | ⟨c1, c2, c3⟩
    · exact Or.inl hc
    · refine Or.inr ⟨by omega, ?_, ?_⟩
      · rw [e2 _ (by omega) (by omega) (by omega)]
        exact c2
      · rw [eK _ (by omega) (by omega)]
        exact c3
  · rw [q17]
    have pe : ∀ c, 0 ≤ c → c < 8 → pt A' c = pt A c := fun c c0 c1 => pt_of (e2 _ (by omega) (by omega) (by omega)) (e2 _ (by omega) (by omega) (by omega))
    have : pts A' = pts A := by
      unfold pts
      rw [pe 0 (by omega) (by omega), pe 1 (by omega) (by omega), pe 2 (by omega) (by omega), pe 3 (by omega) (by omega), pe 4 (by omega) (by omega), pe 5 (by omega) (by omega), pe 6 (by omega) (by omega), pe 7 (by omega) (by omega)]
    rw [this]
    exact hp
theorem relC_case {A : Int → Int} {C C' : xCt} (h : relC A C) {k g e s : Int} (hk : 0 ≤ k ∧ k ≤ 5) (hg : 1 ≤ g ∧ g ≤ 9) (he : 1 ≤ e ∧ e ≤ 9) (hs8 : 0 ≤ s ∧ s ≤ 255) (hm8 : A 0 ≠ 8) (d3 : C' 3 1 = C 3 1 + 1) (d4 : ∀ j, C' 4 j = if 4 * C 3 1 ≤ j ∧ j < 4 * C 3 1 + 4 then (if j = 4 * C 3 1 then k else if j = 4 * C 3 1 + 1 then g else if j = 4 * C 3 1 + 2 then e else s) else C 4 j) (ci : ∀ i, i ≠ 3 → i ≠ 4 → C' i = C i) : relC (rCase A k g e s) C' := by
  obtain ⟨hc, hr, hn, hi, ht, hs⟩ := h
  have hm := hi.1
  have h17 := inv_17 hi
  have c0 : A 0 = C 3 1 := hc.1
  have u : ∀ j, j ≠ 0 → ¬ (20 + 7 * A 0 ≤ j ∧ j < 27 + 7 * A 0) → rCase A k g e s j = A j := fun j q1 q2 => by
    unfold rCase
    rw [if_neg q1, if_neg (by omega), if_neg (by omega), if_neg (by omega), if_neg (by omega), if_neg (by omega)]
  have us : ∀ j, 20 ≤ j → j < 76 → ¬ (20 + 7 * A 0 ≤ j ∧ j < 24 + 7 * A 0) → rCase A k g e s j = A j := fun j q0 q1 q2 => by
    by_cases q3 : 20 + 7 * A 0 ≤ j ∧ j < 27 + 7 * A 0
    · unfold rCase
      rw [if_neg (by omega), if_neg (by omega), if_neg (by omega), if_neg (by omega), if_neg (by omega), if_pos (by omega)]
      have sl := (hi.2.2.1 (A 0) (by omega) (by omega)).2.2.2.2.2 (by omega)
      have : j = 24 + 7 * A 0 ∨ j = 25 + 7 * A 0 ∨ j = 26 + 7 * A 0 := by omega
      rcases this with e | e | e
      · rw [e]; exact sl.1.symm
      · rw [e]; exact sl.2.1.symm
      · rw [e]; exact sl.2.2.symm
    · exact u j (by omega) q3
  have u0 : rCase A k g e s 0 = A 0 + 1 := if_pos rfl
  have d4' : ∀ j, j < 4 * A 0 → C' 4 j = C 4 j := fun j q => by rw [d4, if_neg (by omega)]
  have v0 : C' 4 (4 * A 0 + 0) = k := by rw [d4, if_pos (by omega), if_pos (by omega)]
  have v1 : C' 4 (4 * A 0 + 1) = g := by rw [d4, if_pos (by omega), if_neg (by omega), if_pos (by omega)]
  have v2 : C' 4 (4 * A 0 + 2) = e := by rw [d4, if_pos (by omega), if_neg (by omega), if_neg (by omega), if_pos (by omega)]
  have v3 : C' 4 (4 * A 0 + 3) = s := by rw [d4, if_pos (by omega), if_neg (by omega), if_neg (by omega), if_neg (by omega)]
  have ht' : told (C' 4) (A 0) := ⟨by rw [v0]; exact hk, by rw [v1]; exact hg, by rw [v2]; exact he, by rw [v3]; omega⟩
  have r0 : rCase A k g e s (20 + 7 * A 0 + 0) = k := by unfold rCase; rw [if_neg (by omega), if_pos (by omega)]
  have r1 : rCase A k g e s (20 + 7 * A 0 + 1) = g := by unfold rCase; rw [if_neg (by omega), if_neg (by omega), if_pos (by omega)]
  have r2 : rCase A k g e s (20 + 7 * A 0 + 2) = e := by unfold rCase; rw [if_neg (by omega), if_neg (by omega), if_neg (by omega), if_pos (by omega)]
  have r3 : rCase A k g e s (20 + 7 * A 0 + 3) = s := by unfold rCase; rw [if_neg (by omega), if_neg (by omega), if_neg (by omega), if_neg (by omega), if_pos (by omega)]
  have j4 : ∀ j : Int, 0 ≤ j → j < 4 → j = 0 ∨ j = 1 ∨ j = 2 ∨ j = 3 := fun j _ _ => by omega
  have hk' : relK (rCase A k g e s) (C' 4) (A 0) := fun j j0 j1 => by
    rcases j4 j j0 j1 with rfl | rfl | rfl | rfl
    · rw [r0, v0]
    · rw [r1, v1]
    · rw [r2, v2]
    · rw [r3, v3]
  generalize hB : rCase A k g e s = B at *
  refine ⟨?_, ?_, ?_, ?_, ?_, fun q q0 q1 => ?_⟩
  · obtain ⟨_, p1, p2, p3, p4, p5, p6⟩ := hc
    refine ⟨by rw [u0, d3, c0], ?_, ?_, ?_, ?_, ?_, ?_⟩
    · rw [u 1 (by omega) (by omega), ci 0 (by omega) (by omega)]; exact p1
    · rw [u 2 (by omega) (by omega), ci 0 (by omega) (by omega)]; exact p2
    · rw [u 3 (by omega) (by omega), ci 0 (by omega) (by omega)]; exact p3
    · rw [u 4 (by omega) (by omega), ci 5 (by omega) (by omega)]; exact p4
    · rw [u 5 (by omega) (by omega), ci 7 (by omega) (by omega)]; exact p5
    · rw [u 6 (by omega) (by omega), ci 9 (by omega) (by omega)]; exact p6
  · unfold rgs at *
    rw [u 1 (by omega) (by omega), u 2 (by omega) (by omega), u 3 (by omega) (by omega), u 4 (by omega) (by omega), u 5 (by omega) (by omega), u 6 (by omega) (by omega), ci 0 (by omega) (by omega)]
    exact hr
  · rw [ci 1 (by omega) (by omega)]
    exact relN_of hn (fun j j0 j1 => u j (by omega) (by omega)) (fun j j0 j1 _ => us j (by omega) (by omega) (by omega)) (fun j j0 _ j1 => u j (by omega) (by omega)) (fun j _ _ => rfl)
  · rw [u0]
    exact inv_case hi (by omega) (fun j j0 j1 => u j (by omega) (by omega)) us (fun j _ j1 => d4' j j1) ht' hk'
  · obtain ⟨t1, t2, t3⟩ := ht
    obtain ⟨_, _, _, _, g4, g5, g6⟩ := hr
    refine ⟨fun i i0 i1 => ?_, fun i i0 i1 => ?_, fun i i0 i1 => ?_⟩
    · rw [u 4 (by omega) (by omega)] at i1
      have := t1 i i0 i1
      unfold rcd at *
      rw [u0, u _ (by omega) (by omega), u _ (by omega) (by omega), u _ (by omega) (by omega), ci 6 (by omega) (by omega)]
      exact ⟨this.1, by omega, this.2.2⟩
    · rw [u 5 (by omega) (by omega)] at i1
      have := t2 i i0 i1
      unfold lrn at *
      rw [u0, u _ (by omega) (by omega), u _ (by omega) (by omega), ci 8 (by omega) (by omega)]
      exact ⟨this.1, by omega, this.2.2⟩
    · rw [u 6 (by omega) (by omega)] at i1
      have := t3 i i0 i1
      unfold cns at *
      rw [u _ (by omega) (by omega), u _ (by omega) (by omega), ci 10 (by omega) (by omega)]
      exact this
  · rw [u 3 (by omega) (by omega)] at q1
    have g3 := hr.2.2.1
    obtain ⟨s1, s2, s3, s4, s5⟩ := hs q q0 q1
    have er : ∀ k, 0 ≤ k → k < 30 → ∀ i, 0 ≤ i → i < 35 → B (132 + 35 * k + i) = A (132 + 35 * k + i) := fun k k0 k1 i i0 i1 => u _ (by omega) (by omega)
    have es : stN C' q = stN C q := by
      funext j
      unfold stN
      rw [ci 0 (by omega) (by omega), ci 2 (by omega) (by omega)]
    have ew : ∀ k, 0 ≤ k → k < 30 → stA B k 17 = stA A k 17 := fun k k0 k1 => stA_of (er k k0 k1) (Or.inl (by omega))
    refine ⟨?_, ?_, ?_, ?_, fun k' k0' k1' => ?_⟩
    · rw [u _ (by omega) (by omega), u0]
      omega
    · rw [es]
      exact relN_of s2 (fun j j0 j1 => stA_of (er q q0 (by omega)) (Or.inl ⟨j0, j1⟩)) (fun j j0 j1 j2 => stA_of (er q q0 (by omega)) (Or.inr (Or.inl ⟨⟨j0, j1⟩, j2⟩))) (fun j j0 j1 j2 => stA_of (er q q0 (by omega)) (Or.inr (Or.inr (u j (by omega) (by omega))))) (fun j _ _ => rfl)
    · rw [u0]
      refine inv_case s3 (by omega) (fun j j0 j1 => stA_of (er q q0 (by omega)) (Or.inl ⟨j0, j1⟩)) (fun j j0 j1 j2 => ?_) (fun j _ j1 => d4' j j1) ht' (fun j j0 j1 => ?_)
      · by_cases hj : 4 ≤ (j - 20) % 7
        · exact stA_of (er q q0 (by omega)) (Or.inr (Or.inl ⟨by omega, hj⟩))
        · exact stA_of (er q q0 (by omega)) (Or.inr (Or.inr (us j j0 j1 j2)))
      · rw [stA_el _ _ (by omega) (by omega)]
        exact hk' j j0 j1
    · rw [ew q q0 (by omega), u 17 (by omega) (by omega)]
      exact s4
    · rw [ew q q0 (by omega), ew k' k0' (by omega)]
      exact s5 k' k0' k1'
