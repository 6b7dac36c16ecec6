/-! found and sentence are the same on both sides; the invariant of the reference's a[] -/
def relK (A K : Int → Int) (c : Int) : Prop := ∀ j, 0 ≤ j → j < 4 → A (20 + 7 * c + j) = K (4 * c + j)
theorem relK_0 {A K : Int → Int} {c : Int} (h : relK A K c) : A (20 + 7 * c + 0) = K (4 * c) := by
  have := h 0 (by omega) (by omega)
  rwa [Int.add_zero (4 * c)] at this
theorem rFd_iff {A N K : Int → Int} {c : Int} (h : relN A N) (hk : relK A K c) (ρ : Option xTx) : rFd ρ A c ↔ cFd ρ N K c := by
  unfold rFd cFd
  rw [relK_0 hk, hk 1 (by omega) (by omega), hk 3 (by omega) (by omega), rel_at h (i := 3) (j := 11) (by omega) rfl, rel_at h (i := 0) (j := 8) (by omega) rfl, rel_at h (i := 1) (j := 9) (by omega) rfl, rel_at h (i := 2) (j := 10) (by omega) rfl, rel_at h (i := 6) (j := 14) (by omega) rfl, rel_at h (i := 7) (j := 15) (by omega) rfl]
theorem rSe_eq {A N K : Int → Int} {c : Int} (h : relN A N) (hk : relK A K c) (ρ : Option xTx) : rSe ρ A c = cSe ρ N K c := by
  unfold rSe cSe
  rw [relK_0 hk, hk 1 (by omega) (by omega), rel_at h (i := 3) (j := 11) (by omega) rfl, rel_at h (i := 0) (j := 8) (by omega) rfl, rel_at h (i := 1) (j := 9) (by omega) rfl, rel_at h (i := 6) (j := 14) (by omega) rfl, rel_at h (i := 7) (j := 15) (by omega) rfl]
theorem relK_heard {A K : Int → Int} {c : Int} (hc : 0 ≤ c) (h : relK A K c) : relK (rHeard A) K c := fun j j0 j1 => by
  rw [rHeard_ne (by omega) (by omega)]
  exact h j j0 j1
theorem relK_up {A K : Int → Int} {c i v : Int} (hi : i < 20 ∨ 76 ≤ i) (hc : 0 ≤ c ∧ c < 8) (h : relK A K c) : relK (up A i v) K c := fun j j0 j1 => by
  rw [up_ne (by omega)]
  exact h j j0 j1
theorem relK_turn {A K : Int → Int} {c : Int} (hc : 0 ≤ c ∧ c < 8) (h : relK A K c) (ρ : Option xTx) (x : Int) : relK (rTurn ρ A x) K c := relK_up (by omega) hc (relK_up (by omega) hc (relK_up (by omega) hc (relK_up (by omega) hc h)))
theorem relK_draw {A K : Int → Int} {c : Int} (hc : 0 ≤ c ∧ c < 8) (h : relK A K c) : relK (rDraw A) K c := relK_up (by omega) hc h
theorem relK_leave {A K : Int → Int} {c w s : Int} (hc : 0 ≤ c ∧ c < 8) (h13 : 0 ≤ A 13 ∧ A 13 < 8) (h : relK A K c) : relK (rLeave A w s) K c := fun j j0 j1 => by
  unfold rLeave
  rw [if_neg (by omega), if_neg (by omega), if_neg (by omega), if_neg (by omega)]
  exact h j j0 j1
theorem relK_book {A K : Int → Int} {c e w s : Int} (hc : 0 ≤ c ∧ c < 8) (h17 : 0 ≤ A 17) (h : relK A K c) : relK (rBook A e w s) K c := relK_up (by omega) hc (relK_up (by omega) hc (relK_up (by omega) hc h))
/-- what a case may still bring into the book -/
def pot (w a : Int) : Int := if w = 0 ∨ w = 1 then (if a = 0 then 2 else 1) else if w = 3 ∧ a = 0 then 1 else 0
def pt (A : Int → Int) (c : Int) : Int := pot (A (24 + 7 * c)) (A (26 + 7 * c))
def pts (A : Int → Int) : Int := pt A 0 + pt A 1 + pt A 2 + pt A 3 + pt A 4 + pt A 5 + pt A 6 + pt A 7
theorem pot_r (w a : Int) : 0 ≤ pot w a ∧ pot w a ≤ 2 := by
  unfold pot
  split
  · split <;> omega
  · split <;> omega
/-- the case's slot: told (c < m) or not -/
def slot (A : Int → Int) (m c : Int) : Prop := (0 ≤ A (24 + 7 * c) ∧ A (24 + 7 * c) ≤ 3) ∧ (0 ≤ A (25 + 7 * c) ∧ A (25 + 7 * c) ≤ 999) ∧ (A (26 + 7 * c) = 0 ∨ A (26 + 7 * c) = 1) ∧ (A (24 + 7 * c) ≠ 3 → A (25 + 7 * c) = 0) ∧ (A (24 + 7 * c) = 1 → A 13 = c) ∧ (m ≤ c → A (24 + 7 * c) = 0 ∧ A (25 + 7 * c) = 0 ∧ A (26 + 7 * c) = 0)
def told (K : Int → Int) (c : Int) : Prop := (0 ≤ K (4 * c + 0) ∧ K (4 * c + 0) ≤ 5) ∧ (1 ≤ K (4 * c + 1) ∧ K (4 * c + 1) ≤ 9) ∧ (1 ≤ K (4 * c + 2) ∧ K (4 * c + 2) ≤ 9) ∧ (0 ≤ K (4 * c + 3) ∧ K (4 * c + 3) < 256)
def court (A K : Int → Int) (m : Int) : Prop := (A 13 = -1 ∧ A 14 = 0 ∧ A 15 = 0 ∧ A 16 = 0) ∨ ((0 ≤ A 13 ∧ A 13 < m) ∧ A (24 + 7 * A 13) = 1 ∧ A 14 < K (4 * A 13 + 2) + A 16)
def inv (A K : Int → Int) (m : Int) : Prop := (0 ≤ m ∧ m ≤ 8) ∧ ((0 ≤ A 8 ∧ A 8 < 4) ∧ (0 ≤ A 9 ∧ A 9 ≤ 9) ∧ (A 10 = 0 ∨ A 10 = 1) ∧ (0 ≤ A 11 ∧ A 11 ≤ 9999) ∧ (0 ≤ A 12 ∧ A 12 < 30389) ∧ (0 ≤ A 14 ∧ A 14 < 12) ∧ (0 ≤ A 15 ∧ A 15 < 16) ∧ (0 ≤ A 16 ∧ A 16 ≤ 3) ∧ 0 ≤ A 17) ∧ (∀ c, 0 ≤ c → c < 8 → slot A m c) ∧ (∀ c, 0 ≤ c → c < m → told K c ∧ relK A K c) ∧ court A K m ∧ A 17 + pts A ≤ 16
theorem inv_17 {A K : Int → Int} {m : Int} (h : inv A K m) : 0 ≤ A 17 ∧ A 17 ≤ 16 := by
  obtain ⟨_, ⟨_, _, _, _, _, _, _, _, h17⟩, _, _, _, hp⟩ := h
  have p0 := pot_r (A (24 + 7 * 0)) (A (26 + 7 * 0))
  have p1 := pot_r (A (24 + 7 * 1)) (A (26 + 7 * 1))
  have p2 := pot_r (A (24 + 7 * 2)) (A (26 + 7 * 2))
  have p3 := pot_r (A (24 + 7 * 3)) (A (26 + 7 * 3))
  have p4 := pot_r (A (24 + 7 * 4)) (A (26 + 7 * 4))
  have p5 := pot_r (A (24 + 7 * 5)) (A (26 + 7 * 5))
  have p6 := pot_r (A (24 + 7 * 6)) (A (26 + 7 * 6))
  have p7 := pot_r (A (24 + 7 * 7)) (A (26 + 7 * 7))
  unfold pts pt at hp
  omega
theorem inv_rOk {A K : Int → Int} {m : Int} (h : inv A K m) : rOk A := by
  have h17 := inv_17 h
  obtain ⟨_, ⟨h8, h9, _, h11, h12, h14, h15, h16, _⟩, _, _, _, _⟩ := h
  exact ⟨h8, h9, h11, h12, by omega, h15, h16, by omega⟩
theorem inv_cOk {A N K : Int → Int} {m : Int} (h : inv A K m) (hr : relN A N) : cOk N := by
  obtain ⟨h8, h9, h11, h12, h14, h15, h16, h17⟩ := inv_rOk h
  rw [rel_at hr (i := 0) (j := 8) (by omega) rfl] at h8
  rw [rel_at hr (i := 1) (j := 9) (by omega) rfl] at h9
  rw [rel_at hr (i := 3) (j := 11) (by omega) rfl] at h11
  rw [rel_at hr (i := 4) (j := 12) (by omega) rfl] at h12
  rw [rel_at hr (i := 6) (j := 14) (by omega) rfl] at h14
  rw [rel_at hr (i := 7) (j := 15) (by omega) rfl] at h15
  rw [rel_at hr (i := 8) (j := 16) (by omega) rfl] at h16
  rw [rel_at hr (i := 9) (j := 17) (by omega) rfl] at h17
  exact ⟨h8, h9, h11, h12, h14, h15, h16, h17⟩
theorem told_kOk {K : Int → Int} {c : Int} (h : told K c) : kOk K c := by
  obtain ⟨k0, k1, k2, k3⟩ := h
  rw [Int.add_zero] at k0
  exact ⟨by omega, by omega, by omega, k3⟩
theorem told_rkOk {A K : Int → Int} {c : Int} (h : told K c) (hk : relK A K c) : rkOk A c := by
  obtain ⟨k0, k1, k2, k3⟩ := h
  have e0 := hk 0 (by omega) (by omega)
  have e1 := hk 1 (by omega) (by omega)
  have e2 := hk 2 (by omega) (by omega)
  have e3 := hk 3 (by omega) (by omega)
  exact ⟨by omega, by omega, by omega, by omega⟩
