/-! the reference's a[] (A) beside the class's now[] (N) -/
def relN (A N : Int → Int) : Prop :=
  (∀ i, 0 ≤ i → i < 10 → A (8 + i) = N i) ∧
  (∀ c, 0 ≤ c → c < 8 → A (24 + 7 * c) = N (10 + c) ∧ A (25 + 7 * c) = N (18 + c) ∧ A (26 + 7 * c) = N (26 + c)) ∧
  (∀ i, 0 ≤ i → i < N 9 → i < 30 → N (34 + i) = A (1182 + 2 * i) * 2000 + A (1183 + 2 * i) ∧ (0 ≤ A (1183 + 2 * i) ∧ A (1183 + 2 * i) < 2000) ∧ (0 ≤ A (1182 + 2 * i) ∧ A (1182 + 2 * i) < 80000))
theorem rel_at {A N : Int → Int} (h : relN A N) {i j : Int} (h0 : 0 ≤ i ∧ i < 10) (hj : j = 8 + i) : A j = N i := by
  rw [hj]
  exact h.1 i h0.1 h0.2
/-- one of the first ten set on both sides -/
theorem rel_up {A N : Int → Int} (h : relN A N) {i v : Int} (hi : 0 ≤ i ∧ i < 9) {j : Int} (hj : j = 8 + i) : relN (up A j v) (up N i v) := by
  subst hj
  refine ⟨fun k k0 k1 => ?_, fun c c0 c1 => ?_, fun k k0 k1 k2 => ?_⟩
  · by_cases hk : k = i
    · rw [hk, up_at, up_at]
    · rw [up_ne (by omega), up_ne hk]
      exact h.1 k k0 k1
  · rw [up_ne (by omega), up_ne (by omega), up_ne (by omega), up_ne (by omega), up_ne (by omega), up_ne (by omega)]
    exact h.2.1 c c0 c1
  · rw [up_ne (by omega)] at k1
    rw [up_ne (by omega), up_ne (by omega), up_ne (by omega)]
    exact h.2.2 k k0 k1 k2
theorem rel_turn {A N : Int → Int} (h : relN A N) (ρ : Option xTx) (x : Int) : relN (rTurn ρ A x) (cTurn ρ N x) := by
  unfold rTurn cTurn
  rw [rel_at h (i := 3) (j := 11) (by omega) rfl, rel_at h (i := 0) (j := 8) (by omega) rfl, rel_at h (i := 1) (j := 9) (by omega) rfl]
  exact rel_up (i := 2) (rel_up (i := 1) (rel_up (i := 0) (rel_up (i := 3) h (by omega) rfl) (by omega) rfl) (by omega) rfl) (by omega) rfl
theorem rel_draw {A N : Int → Int} (h : relN A N) : relN (rDraw A) (cDraw N) := by
  unfold rDraw cDraw
  rw [rel_at h (i := 4) (j := 12) (by omega) rfl]
  exact rel_up (i := 4) h (by omega) rfl
theorem rel_heard {A N : Int → Int} (h : relN A N) : relN (rHeard A) (cHeard N) := by
  unfold rHeard cHeard
  rw [rel_at h (i := 6) (j := 14) (by omega) rfl, rel_at h (i := 7) (j := 15) (by omega) rfl, rel_at h (i := 0) (j := 8) (by omega) rfl]
  exact rel_up (i := 7) (rel_up (i := 6) h (by omega) rfl) (by omega) rfl
theorem rel_close {A N : Int → Int} (h : relN A N) {c w gb s : Int} (hc : 0 ≤ c ∧ c < 8) (h13 : A 13 = c) (h9 : 0 ≤ N 9 ∧ N 9 < 30) (h3 : 0 ≤ N 3 ∧ N 3 ≤ 9999) (hg : gb = 0 ∨ gb = 1) (hs : 0 ≤ s ∧ s ≤ 999) : relN (rLeave (rBook A c (1000 * gb) s) w s) (cClose N c w gb s) := by
  have a17 : A 17 = N 9 := rel_at h (by omega) rfl
  have a11 : A 11 = N 3 := rel_at h (by omega) rfl
  have b13 : rBook A c (1000 * gb) s 13 = c := by rw [rBook_lo (by omega) (by decide) (by decide), h13]
  refine ⟨fun k k0 k1 => ?_, fun e e0 e1 => ?_, fun k k0 k1 k2 => ?_⟩
  · unfold rLeave cClose cRel
    rw [b13]
    by_cases h5 : k = 5
    · subst h5
      rw [if_pos (by omega), up_ne (by omega), up_ne (by omega), up_ne (by omega), up_ne (by omega), up_ne (by omega), up_ne (by omega), up_at]
    by_cases h6 : k = 6
    · subst h6
      rw [if_neg (by omega), if_pos (by omega), up_ne (by omega), up_ne (by omega), up_ne (by omega), up_ne (by omega), up_ne (by omega), up_at]
    by_cases h7 : k = 7
    · subst h7
      rw [if_neg (by omega), if_pos (by omega), up_ne (by omega), up_ne (by omega), up_ne (by omega), up_ne (by omega), up_at]
    by_cases h8 : k = 8
    · subst h8
      rw [if_neg (by omega), if_pos (by omega), up_ne (by omega), up_ne (by omega), up_ne (by omega), up_at]
    rw [if_neg (by omega), if_neg (by omega), if_neg (by omega), if_neg (by omega)]
    by_cases h9' : k = 9
    · subst h9'
      unfold rBook
      rw [show (8 + 9 : Int) = 17 from rfl, up_at, up_at, a17]
    · rw [rBook_lo (by omega) (by omega) (by omega), up_ne h9', up_ne (by omega), up_ne (by omega), up_ne h8, up_ne h7, up_ne h6, up_ne h5, up_ne (by omega)]
      exact h.1 k k0 k1
  · obtain ⟨q1, q2, q3⟩ := h.2.1 e e0 e1
    unfold rLeave cClose cRel
    rw [b13]
    by_cases hec : e = c
    · subst hec
      refine ⟨?_, ?_, ?_⟩
      · rw [if_neg (by omega), if_neg (by omega), if_neg (by omega), if_pos rfl, up_ne (by omega), up_ne (by omega), up_ne (by omega), up_ne (by omega), up_ne (by omega), up_ne (by omega), up_ne (by omega), up_at]
      · rw [if_neg (by omega), if_neg (by omega), if_pos rfl, up_ne (by omega), up_ne (by omega), up_at]
      · rw [if_neg (by omega), if_neg (by omega), if_neg (by omega), if_neg (by omega), rBook_lo (by omega) (by omega) (by omega), up_ne (by omega), up_ne (by omega), up_ne (by omega), up_ne (by omega), up_ne (by omega), up_ne (by omega), up_ne (by omega), up_ne (by omega)]
        exact q3
    · refine ⟨?_, ?_, ?_⟩
      · rw [if_neg (by omega), if_neg (by omega), if_neg (by omega), if_neg (by omega), rBook_lo (by omega) (by omega) (by omega), up_ne (by omega), up_ne (by omega), up_ne (by omega), up_ne (by omega), up_ne (by omega), up_ne (by omega), up_ne (by omega), up_ne (by omega)]
        exact q1
      · rw [if_neg (by omega), if_neg (by omega), if_neg (by omega), if_neg (by omega), rBook_lo (by omega) (by omega) (by omega), up_ne (by omega), up_ne (by omega), up_ne (by omega), up_ne (by omega), up_ne (by omega), up_ne (by omega), up_ne (by omega), up_ne (by omega)]
        exact q2
      · rw [if_neg (by omega), if_neg (by omega), if_neg (by omega), if_neg (by omega), rBook_lo (by omega) (by omega) (by omega), up_ne (by omega), up_ne (by omega), up_ne (by omega), up_ne (by omega), up_ne (by omega), up_ne (by omega), up_ne (by omega), up_ne (by omega)]
        exact q3
  · unfold rLeave
    rw [b13, if_neg (by omega), if_neg (by omega), if_neg (by omega), if_neg (by omega), if_neg (by omega), if_neg (by omega), if_neg (by omega), if_neg (by omega)]
    unfold cClose cRel at *
    rw [up_at] at k1
    rw [up_ne (by omega)]
    unfold rBook
    rw [a17, a11]
    by_cases hk : k = N 9
    · subst hk
      rw [up_at, up_ne (by omega), up_ne (by omega), up_at, up_ne (by omega), show (1183 + 2 * N 9 : Int) = 1182 + 2 * N 9 + 1 by omega, up_at]
      omega
    · rw [up_ne (by omega), up_ne (by omega), up_ne (by omega), up_ne (by omega), up_ne (by omega), up_ne (by omega), up_ne (by omega), up_ne (by omega), up_ne (by omega), up_ne (by omega), up_ne (by omega), up_ne (by omega), up_ne (by omega)]
      exact h.2.2 k k0 (by omega) k2
