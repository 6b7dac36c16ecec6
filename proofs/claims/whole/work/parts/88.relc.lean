/-! the whole state: a court of the class (C: its eleven cells) beside an a[] of the reference (A) -/
abbrev xCt : Type := Nat → Int → Int
/-- a[] as the kept step k would bring it back -/
def stA (A : Int → Int) (k : Int) : Int → Int := fun j =>
  if 8 ≤ j ∧ j < 18 then A (132 + 35 * k + 1 + (j - 8))
  else if (24 ≤ j ∧ j < 76) ∧ 4 ≤ (j - 20) % 7 then (if (j - 20) / 7 < A (132 + 35 * k) then A (132 + 35 * k + 11 + 3 * ((j - 20) / 7) + ((j - 20) % 7 - 4)) else 0)
  else A j
def stN (C : xCt) (k : Int) : Int → Int := fun j => C 2 (64 * ((C 0 3 - C 0 2 + k) % 30) + j)
def stp (A : Int → Int) (C : xCt) (k : Int) : Prop := (0 ≤ A (132 + 35 * k) ∧ A (132 + 35 * k) ≤ A 0) ∧ relN (stA A k) (stN C k) ∧ inv (stA A k) (C 4) (A 0) ∧ stA A k 17 ≤ A 17 ∧ ∀ k', 0 ≤ k' → k' ≤ k → stA A k' 17 ≤ stA A k 17
def rcd (A : Int → Int) (C : xCt) (i : Int) : Prop := (A (76 + 3 * i) = C 6 (4 * i) ∧ A (76 + 3 * i + 1) = C 6 (4 * i + 2) ∧ A (76 + 3 * i + 2) = C 6 (4 * i + 1)) ∧ (0 ≤ A (76 + 3 * i) ∧ A (76 + 3 * i) < A 0) ∧ (0 ≤ A (76 + 3 * i + 1) ∧ A (76 + 3 * i + 1) < 4) ∧ (A (76 + 3 * i + 2) = 0 ∨ A (76 + 3 * i + 2) = 1)
def lrn (A : Int → Int) (C : xCt) (i : Int) : Prop := (A (100 + 2 * i) = C 8 (4 * i) ∧ A (100 + 2 * i + 1) = C 8 (4 * i + 1)) ∧ (0 ≤ A (100 + 2 * i) ∧ A (100 + 2 * i) < A 0) ∧ (A (100 + 2 * i + 1) = 0 ∨ A (100 + 2 * i + 1) = 1)
def cns (A : Int → Int) (C : xCt) (i : Int) : Prop := (A (116 + 2 * i) = C 10 (4 * i) ∧ A (116 + 2 * i + 1) = C 10 (4 * i + 1)) ∧ (1 ≤ A (116 + 2 * i) ∧ A (116 + 2 * i) ≤ 999) ∧ (0 ≤ A (116 + 2 * i + 1) ∧ A (116 + 2 * i + 1) ≤ 99)
def cts (A : Int → Int) (C : xCt) : Prop := A 0 = C 3 1 ∧ A 1 = C 0 8 ∧ A 2 = C 0 9 ∧ A 3 = C 0 2 ∧ A 4 = C 5 1 ∧ A 5 = C 7 1 ∧ A 6 = C 9 1
def rgs (A : Int → Int) (C : xCt) : Prop := (0 ≤ A 1 ∧ A 1 ≤ 4) ∧ (-1 ≤ A 2 ∧ A 2 < A 1) ∧ (0 ≤ A 3 ∧ A 3 ≤ 30) ∧ (0 ≤ C 0 3 ∧ C 0 3 < 30) ∧ (0 ≤ A 4 ∧ A 4 ≤ 8) ∧ (0 ≤ A 5 ∧ A 5 ≤ 8) ∧ (0 ≤ A 6 ∧ A 6 ≤ 8)
def tld (A : Int → Int) (C : xCt) : Prop := (∀ i, 0 ≤ i → i < A 4 → rcd A C i) ∧ (∀ i, 0 ≤ i → i < A 5 → lrn A C i) ∧ (∀ i, 0 ≤ i → i < A 6 → cns A C i)
def relC (A : Int → Int) (C : xCt) : Prop := cts A C ∧ rgs A C ∧ relN A (C 1) ∧ inv A (C 4) (A 0) ∧ tld A C ∧ ∀ k, 0 ≤ k → k < A 3 → stp A C k
theorem relN_of {A A' N N' : Int → Int} (h : relN A N) (e1 : ∀ j, 8 ≤ j → j < 18 → A' j = A j) (e2 : ∀ j, 24 ≤ j → j < 76 → 4 ≤ (j - 20) % 7 → A' j = A j) (e3 : ∀ j, 1182 ≤ j → j < 1182 + 2 * N 9 → j < 1242 → A' j = A j) (e4 : ∀ j, 0 ≤ j → j < 64 → N' j = N j) : relN A' N' := by
  refine ⟨fun i i0 i1 => ?_, fun c c0 c1 => ?_, fun i i0 i1 i2 => ?_⟩
  · rw [e1 _ (by omega) (by omega), e4 _ i0 (by omega)]
    exact h.1 i i0 i1
  · rw [e2 _ (by omega) (by omega) (by omega), e2 _ (by omega) (by omega) (by omega), e2 _ (by omega) (by omega) (by omega), e4 _ (by omega) (by omega), e4 _ (by omega) (by omega), e4 _ (by omega) (by omega)]
    exact h.2.1 c c0 c1
  · rw [e4 9 (by omega) (by omega)] at i1
    rw [e3 _ (by omega) (by omega) (by omega), e3 _ (by omega) (by omega) (by omega), e4 _ (by omega) (by omega)]
    exact h.2.2 i i0 i1 i2
theorem inv_K {A K K' : Int → Int} {m : Int} (h : inv A K m) (e : ∀ j, 0 ≤ j → j < 4 * m → K' j = K j) : inv A K' m := by
  obtain ⟨hm, h1, h2, h3, h4, h5⟩ := h
  refine ⟨hm, h1, h2, fun c c0 c1 => ⟨?_, fun j j0 j1 => ?_⟩, ?_, h5⟩
  · unfold told
    rw [e _ (by omega) (by omega), e _ (by omega) (by omega), e _ (by omega) (by omega), e _ (by omega) (by omega)]
    exact (h3 c c0 c1).1
  · rw [e _ (by omega) (by omega)]
    exact (h3 c c0 c1).2 j j0 j1
  · rcases h4 with h4 | ⟨h4, h5, h6⟩
    · exact Or.inl h4
    · refine Or.inr ⟨h4, h5, ?_⟩
      rw [e _ (by omega) (by omega)]
      exact h6
theorem inv_of {A A' K K' : Int → Int} {m : Int} (h : inv A K m) (e1 : ∀ j, 8 ≤ j → j < 18 → A' j = A j) (e2 : ∀ j, 20 ≤ j → j < 76 → A' j = A j) (e : ∀ j, 0 ≤ j → j < 4 * m → K' j = K j) : inv A' K' m := by
  refine inv_K ?_ e
  obtain ⟨hm, ⟨a8, a9, a10, a11, a12, a14, a15, a16, a17⟩, hs, ht, hc, hp⟩ := h
  have q8 := e1 8 (by omega) (by omega)
  have q9 := e1 9 (by omega) (by omega)
  have q10 := e1 10 (by omega) (by omega)
  have q11 := e1 11 (by omega) (by omega)
  have q12 := e1 12 (by omega) (by omega)
  have q13 := e1 13 (by omega) (by omega)
  have q14 := e1 14 (by omega) (by omega)
  have q15 := e1 15 (by omega) (by omega)
  have q16 := e1 16 (by omega) (by omega)
  have q17 := e1 17 (by omega) (by omega)
  refine ⟨hm, ⟨by omega, by omega, by omega, by omega, by omega, by omega, by omega, by omega, by omega⟩, fun c c0 c1 => ?_, fun c c0 c1 => ⟨(ht c c0 c1).1, fun j j0 j1 => ?_⟩, ?_, ?_⟩
  · exact slot_of (hs c c0 c1) (e2 _ (by omega) (by omega)) (e2 _ (by omega) (by omega)) (e2 _ (by omega) (by omega)) (fun z => by rw [q13]; exact (hs c c0 c1).2.2.2.2.1 z)
  · rw [e2 _ (by omega) (by omega)]
    exact (ht c c0 c1).2 j j0 j1
  · unfold court at *
    rw [q13, q14, q15, q16]
    rcases hc with hc | ⟨c1, c2, c3⟩
    · exact Or.inl hc
    · refine Or.inr ⟨c1, ?_, c3⟩
      rw [e2 _ (by omega) (by omega)]
      exact c2
  · rw [q17, pts_of e2]
    exact hp
theorem tld_of {A A' : Int → Int} {C C' : xCt} (h : tld A C) (hr : rgs A C) (e0 : A' 0 = A 0) (e4 : A' 4 = A 4) (e5 : A' 5 = A 5) (e6 : A' 6 = A 6) (e : ∀ j, 76 ≤ j → j < 132 → A' j = A j) (c6 : ∀ j, 0 ≤ j → j < 32 → C' 6 j = C 6 j) (c8 : ∀ j, 0 ≤ j → j < 32 → C' 8 j = C 8 j) (c10 : ∀ j, 0 ≤ j → j < 32 → C' 10 j = C 10 j) : tld A' C' := by
  obtain ⟨_, _, _, _, r4, r5, r6⟩ := hr
  refine ⟨fun i i0 i1 => ?_, fun i i0 i1 => ?_, fun i i0 i1 => ?_⟩
  · rw [e4] at i1
    have := h.1 i i0 i1
    unfold rcd at *
    rw [e0, e _ (by omega) (by omega), e _ (by omega) (by omega), e _ (by omega) (by omega), c6 _ (by omega) (by omega), c6 _ (by omega) (by omega), c6 _ (by omega) (by omega)]
    exact this
  · rw [e5] at i1
    have := h.2.1 i i0 i1
    unfold lrn at *
    rw [e0, e _ (by omega) (by omega), e _ (by omega) (by omega), c8 _ (by omega) (by omega), c8 _ (by omega) (by omega)]
    exact this
  · rw [e6] at i1
    have := h.2.2 i i0 i1
    unfold cns at *
    rw [e _ (by omega) (by omega), e _ (by omega) (by omega), c10 _ (by omega) (by omega), c10 _ (by omega) (by omega)]
    exact this
theorem stA_lo (A : Int → Int) (k : Int) {j : Int} (h : 8 ≤ j ∧ j < 18) : stA A k j = A (132 + 35 * k + 1 + (j - 8)) := if_pos h
theorem stA_sl (A : Int → Int) (k : Int) {j : Int} (h : (24 ≤ j ∧ j < 76) ∧ 4 ≤ (j - 20) % 7) : stA A k j = if (j - 20) / 7 < A (132 + 35 * k) then A (132 + 35 * k + 11 + 3 * ((j - 20) / 7) + ((j - 20) % 7 - 4)) else 0 := by
  unfold stA
  rw [if_neg (by omega), if_pos h]
theorem stA_el (A : Int → Int) (k : Int) {j : Int} (h1 : ¬ (8 ≤ j ∧ j < 18)) (h2 : ¬ ((24 ≤ j ∧ j < 76) ∧ 4 ≤ (j - 20) % 7)) : stA A k j = A j := by
  unfold stA
  rw [if_neg h1, if_neg h2]
/-- kept rows alike: the steps alike -/
theorem stA_of {A A' : Int → Int} {k k' : Int} (e : ∀ i, 0 ≤ i → i < 35 → A' (132 + 35 * k' + i) = A (132 + 35 * k + i)) {j : Int} (hj : (8 ≤ j ∧ j < 18) ∨ ((24 ≤ j ∧ j < 76) ∧ 4 ≤ (j - 20) % 7) ∨ A' j = A j) : stA A' k' j = stA A k j := by
  by_cases h1 : 8 ≤ j ∧ j < 18
  · rw [stA_lo _ _ h1, stA_lo _ _ h1, show 132 + 35 * k' + 1 + (j - 8) = 132 + 35 * k' + (1 + (j - 8)) by omega, show 132 + 35 * k + 1 + (j - 8) = 132 + 35 * k + (1 + (j - 8)) by omega]
    exact e _ (by omega) (by omega)
  · by_cases h2 : (24 ≤ j ∧ j < 76) ∧ 4 ≤ (j - 20) % 7
    · have e0 := e 0 (by omega) (by omega)
      rw [Int.add_zero, Int.add_zero] at e0
      rw [stA_sl _ _ h2, stA_sl _ _ h2, e0, show 132 + 35 * k' + 11 + 3 * ((j - 20) / 7) + ((j - 20) % 7 - 4) = 132 + 35 * k' + (11 + 3 * ((j - 20) / 7) + ((j - 20) % 7 - 4)) by omega, show 132 + 35 * k + 11 + 3 * ((j - 20) / 7) + ((j - 20) % 7 - 4) = 132 + 35 * k + (11 + 3 * ((j - 20) / 7) + ((j - 20) % 7 - 4)) by omega, e _ (by omega) (by omega)]
    · rw [stA_el _ _ h1 h2, stA_el _ _ h1 h2]
      rcases hj with h | h | h
      · exact absurd h h1
      · exact absurd h h2
      · exact h
/-- what is now changes, what was told and kept doesn't -/
theorem relC_now {A A' : Int → Int} {C C' : xCt} (h : relC A C) (e0 : ∀ j, 0 ≤ j → j < 8 → A' j = A j) (eK : ∀ j, 20 ≤ j → j < 76 → (j - 20) % 7 < 4 → A' j = A j) (e1 : ∀ j, 76 ≤ j → j < 1182 → A' j = A j) (e2 : ∀ j, 1182 ≤ j → j < 1182 + 2 * A 17 → A' j = A j) (e17 : A 17 ≤ A' 17)
    (hN : relN A' (C' 1)) (hI : inv A' (C 4) (A 0)) (eC : ∀ i, i ≠ 1 → C' i = C i) : relC A' C' := by
  obtain ⟨hc, hr, hn, hi, ht, hs⟩ := h
  have q : ∀ i, i ≠ 1 → ∀ j, C' i j = C i j := fun i hi j => by rw [eC i hi]
  have z0 := e0 0 (by omega) (by omega)
  have z3 := e0 3 (by omega) (by omega)
  refine ⟨?_, ?_, hN, ?_, ?_, fun k k0 k1 => ?_⟩
  · unfold cts at *
    rw [e0 0 (by omega) (by omega), e0 1 (by omega) (by omega), e0 2 (by omega) (by omega), e0 3 (by omega) (by omega), e0 4 (by omega) (by omega), e0 5 (by omega) (by omega), e0 6 (by omega) (by omega), eC 0 (by omega), eC 3 (by omega), eC 5 (by omega), eC 7 (by omega), eC 9 (by omega)]
    exact hc
  · unfold rgs at *
    rw [e0 1 (by omega) (by omega), e0 2 (by omega) (by omega), e0 3 (by omega) (by omega), e0 4 (by omega) (by omega), e0 5 (by omega) (by omega), e0 6 (by omega) (by omega), eC 0 (by omega)]
    exact hr
  · rw [z0, eC 4 (by omega)]
    exact hI
  · exact tld_of ht hr z0 (e0 4 (by omega) (by omega)) (e0 5 (by omega) (by omega)) (e0 6 (by omega) (by omega)) (fun j j0 j1 => e1 j j0 (by omega)) (fun j _ _ => q 6 (by omega) j) (fun j _ _ => q 8 (by omega) j) (fun j _ _ => q 10 (by omega) j)
  · rw [z3] at k1
    obtain ⟨s1, s2, s3, s4, s5⟩ := hs k k0 k1
    have r3 := hr.2.2.1
    have er : ∀ k, 0 ≤ k → k < A 3 → ∀ i, 0 ≤ i → i < 35 → A' (132 + 35 * k + i) = A (132 + 35 * k + i) := fun k k0 k1 i i0 i1 => e1 _ (by omega) (by omega)
    have es : stN C' k = stN C k := by
      funext j
      unfold stN
      rw [eC 2 (by omega), eC 0 (by omega)]
    have ew : ∀ k, 0 ≤ k → k < A 3 → stA A' k 17 = stA A k 17 := fun k k0 k1 => stA_of (er k k0 k1) (Or.inl (by omega))
    have eN9 : stN C k 9 = stA A k 17 := (rel_at s2 (i := 9) (j := 17) (by omega) rfl).symm
    refine ⟨?_, ?_, ?_, ?_, fun k' k0' k1' => ?_⟩
    · rw [e1 _ (by omega) (by omega), z0]
      exact s1
    · rw [es]
      refine relN_of s2 (fun j j0 j1 => stA_of (er k k0 k1) (Or.inl ⟨j0, j1⟩)) (fun j j0 j1 j2 => stA_of (er k k0 k1) (Or.inr (Or.inl ⟨⟨j0, j1⟩, j2⟩))) (fun j j0 j1 j2 => stA_of (er k k0 k1) (Or.inr (Or.inr (e2 j j0 (by omega))))) (fun j _ _ => rfl)
    · rw [z0, eC 4 (by omega)]
      refine inv_of s3 (fun j j0 j1 => stA_of (er k k0 k1) (Or.inl ⟨j0, j1⟩)) (fun j j0 j1 => ?_) (fun j _ _ => rfl)
      by_cases hj : 4 ≤ (j - 20) % 7
      · exact stA_of (er k k0 k1) (Or.inr (Or.inl ⟨by omega, hj⟩))
      · exact stA_of (er k k0 k1) (Or.inr (Or.inr (eK j j0 j1 (by omega))))
    · rw [ew k k0 k1]
      omega
    · rw [ew k k0 k1, ew k' k0' (by omega)]
      exact s5 k' k0' k1'
