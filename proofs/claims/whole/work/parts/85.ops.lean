/-! the small steps: call, delay, appeal, gust, withdraw keep relation and invariant -/
theorem rel_up10 {A N : Int → Int} (h : relN A N) {c v : Int} (hc : 0 ≤ c ∧ c < 8) : relN (up A (24 + 7 * c) v) (up N (10 + c) v) := by
  refine ⟨fun k k0 k1 => ?_, fun e e0 e1 => ?_, fun k k0 k1 k2 => ?_⟩
  · rw [up_ne (by omega), up_ne (by omega)]
    exact h.1 k k0 k1
  · obtain ⟨q1, q2, q3⟩ := h.2.1 e e0 e1
    rw [up_ne (show (25 + 7 * e : Int) ≠ 24 + 7 * c by omega), up_ne (show (26 + 7 * e : Int) ≠ 24 + 7 * c by omega), up_ne (show (18 + e : Int) ≠ 10 + c by omega), up_ne (show (26 + e : Int) ≠ 10 + c by omega)]
    refine ⟨?_, q2, q3⟩
    by_cases hec : e = c
    · rw [hec, up_at, up_at]
    · rw [up_ne (by omega), up_ne (by omega)]
      exact q1
  · rw [up_ne (by omega)] at k1
    rw [up_ne (by omega), up_ne (by omega), up_ne (by omega)]
    exact h.2.2 k k0 k1 k2
theorem rel_up18 {A N : Int → Int} (h : relN A N) {c v : Int} (hc : 0 ≤ c ∧ c < 8) : relN (up A (25 + 7 * c) v) (up N (18 + c) v) := by
  refine ⟨fun k k0 k1 => ?_, fun e e0 e1 => ?_, fun k k0 k1 k2 => ?_⟩
  · rw [up_ne (by omega), up_ne (by omega)]
    exact h.1 k k0 k1
  · obtain ⟨q1, q2, q3⟩ := h.2.1 e e0 e1
    rw [up_ne (show (24 + 7 * e : Int) ≠ 25 + 7 * c by omega), up_ne (show (26 + 7 * e : Int) ≠ 25 + 7 * c by omega), up_ne (show (10 + e : Int) ≠ 18 + c by omega), up_ne (show (26 + e : Int) ≠ 18 + c by omega)]
    refine ⟨q1, ?_, q3⟩
    by_cases hec : e = c
    · rw [hec, up_at, up_at]
    · rw [up_ne (by omega), up_ne (by omega)]
      exact q2
  · rw [up_ne (by omega)] at k1
    rw [up_ne (by omega), up_ne (by omega), up_ne (by omega)]
    exact h.2.2 k k0 k1 k2
theorem rel_up26 {A N : Int → Int} (h : relN A N) {c v : Int} (hc : 0 ≤ c ∧ c < 8) : relN (up A (26 + 7 * c) v) (up N (26 + c) v) := by
  refine ⟨fun k k0 k1 => ?_, fun e e0 e1 => ?_, fun k k0 k1 k2 => ?_⟩
  · rw [up_ne (by omega), up_ne (by omega)]
    exact h.1 k k0 k1
  · obtain ⟨q1, q2, q3⟩ := h.2.1 e e0 e1
    rw [up_ne (show (24 + 7 * e : Int) ≠ 26 + 7 * c by omega), up_ne (show (25 + 7 * e : Int) ≠ 26 + 7 * c by omega), up_ne (show (10 + e : Int) ≠ 26 + c by omega), up_ne (show (18 + e : Int) ≠ 26 + c by omega)]
    refine ⟨q1, q2, ?_⟩
    by_cases hec : e = c
    · rw [hec, up_at, up_at]
    · rw [up_ne (by omega), up_ne (by omega)]
      exact q3
  · rw [up_ne (by omega)] at k1
    rw [up_ne (by omega), up_ne (by omega), up_ne (by omega)]
    exact h.2.2 k k0 k1 k2
theorem rCall_up (A : Int → Int) (c : Int) : rCall A c = up (up A 13 c) (24 + 7 * c) 1 := rfl
theorem rAppeal_up (A : Int → Int) (c : Int) : rAppeal A c = up (up (up A (24 + 7 * c) 0) (25 + 7 * c) 0) (26 + 7 * c) 1 := rfl
theorem rel_call {A N : Int → Int} (h : relN A N) {c : Int} (hc : 0 ≤ c ∧ c < 8) : relN (rCall A c) (up (up N 5 c) (10 + c) 1) := by
  rw [rCall_up]
  exact rel_up10 (rel_up (i := 5) h (by omega) rfl) hc
theorem rel_appeal {A N : Int → Int} (h : relN A N) {c : Int} (hc : 0 ≤ c ∧ c < 8) : relN (rAppeal A c) (up (up (up N (10 + c) 0) (18 + c) 0) (26 + c) 1) := by
  rw [rAppeal_up]
  exact rel_up26 (rel_up18 (rel_up10 h hc) hc) hc
theorem rel_delay {A N : Int → Int} (h : relN A N) : relN (up A 16 (A 16 + 1)) (up N 8 (N 8 + 1)) := by
  rw [rel_at h (i := 8) (j := 16) (by omega) rfl]
  exact rel_up (i := 8) h (by omega) rfl
theorem rel_gust {A N : Int → Int} (h : relN A N) (q f : Int) : relN (up (up A 8 q) 9 f) (up (up N 0 q) 1 f) := rel_up (i := 1) (rel_up (i := 0) h (by omega) rfl) (by omega) rfl
theorem rel_release {A N : Int → Int} (h : relN A N) {w : Int} (hc : 0 ≤ A 13 ∧ A 13 < 8) (h0 : A (25 + 7 * A 13) = 0) : relN (rLeave A w 0) (cRel N (A 13) w) := by
  have e : rLeave A w 0 = up (up (up (up (up A (24 + 7 * A 13) w) 13 (-1)) 14 0) 15 0) 16 0 := by
    funext j
    unfold rLeave up
    by_cases h16 : j = 16
    · rw [if_neg (by omega), if_pos (by omega), if_pos h16]
    by_cases h15 : j = 15
    · rw [if_neg (by omega), if_pos (by omega), if_neg h16, if_pos h15]
    by_cases h14 : j = 14
    · rw [if_neg (by omega), if_pos (by omega), if_neg h16, if_neg h15, if_pos h14]
    by_cases h13 : j = 13
    · rw [if_pos h13, if_neg h16, if_neg h15, if_neg h14, if_pos h13]
    rw [if_neg h13, if_neg (by omega), if_neg h16, if_neg h15, if_neg h14, if_neg h13]
    by_cases h25 : j = 25 + 7 * A 13
    · rw [if_pos h25, if_neg (by omega), h25, h0]
    · rw [if_neg h25]
  rw [e]
  unfold cRel
  exact rel_up (i := 8) (rel_up (i := 7) (rel_up (i := 6) (rel_up (i := 5) (rel_up10 h hc) (by omega) rfl) (by omega) rfl) (by omega) rfl) (by omega) rfl
theorem inv_gust {A K : Int → Int} {m : Int} (h : inv A K m) {q f : Int} (hq : 0 ≤ q ∧ q < 4) (hf : 0 ≤ f ∧ f ≤ 9) : inv (up (up A 8 q) 9 f) K m := by
  obtain ⟨a8, a9, a10, a11, a12, _⟩ := h.2.1
  exact inv_lo h (fun j j0 _ => by rw [up_ne (by omega), up_ne (by omega)]) (by rw [up_ne (by decide), up_at]; exact hq) (by rw [up_at]; exact hf) (by rw [up_ne (by decide), up_ne (by decide)]; exact a10) (by rw [up_ne (by decide), up_ne (by decide)]; exact a11) (by rw [up_ne (by decide), up_ne (by decide)]; exact a12)
