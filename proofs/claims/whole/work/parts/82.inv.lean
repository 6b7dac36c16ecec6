/-! the invariant is kept by an hour -/
theorem slot_of {A A' : Int → Int} {m c : Int} (h : slot A m c) (e4 : A' (24 + 7 * c) = A (24 + 7 * c)) (e5 : A' (25 + 7 * c) = A (25 + 7 * c)) (e6 : A' (26 + 7 * c) = A (26 + 7 * c)) (e13 : A (24 + 7 * c) = 1 → A' 13 = c) : slot A' m c := by
  unfold slot at *
  rw [e4, e5, e6]
  exact ⟨h.1, h.2.1, h.2.2.1, h.2.2.2.1, e13, h.2.2.2.2.2⟩
theorem pt_of {A A' : Int → Int} {c : Int} (e4 : A' (24 + 7 * c) = A (24 + 7 * c)) (e6 : A' (26 + 7 * c) = A (26 + 7 * c)) : pt A' c = pt A c := by
  unfold pt
  rw [e4, e6]
theorem pts_of {A A' : Int → Int} (h : ∀ j, 20 ≤ j → j < 76 → A' j = A j) : pts A' = pts A := by
  unfold pts
  rw [pt_of (c := 0) (h _ (by omega) (by omega)) (h _ (by omega) (by omega)), pt_of (c := 1) (h _ (by omega) (by omega)) (h _ (by omega) (by omega)), pt_of (c := 2) (h _ (by omega) (by omega)) (h _ (by omega) (by omega)), pt_of (c := 3) (h _ (by omega) (by omega)) (h _ (by omega) (by omega)), pt_of (c := 4) (h _ (by omega) (by omega)) (h _ (by omega) (by omega)), pt_of (c := 5) (h _ (by omega) (by omega)) (h _ (by omega) (by omega)), pt_of (c := 6) (h _ (by omega) (by omega)) (h _ (by omega) (by omega)), pt_of (c := 7) (h _ (by omega) (by omega)) (h _ (by omega) (by omega))]
theorem inv_lo {A A' K : Int → Int} {m : Int} (h : inv A K m) (e : ∀ j, 13 ≤ j → j < 76 → A' j = A j) (h8 : 0 ≤ A' 8 ∧ A' 8 < 4) (h9 : 0 ≤ A' 9 ∧ A' 9 ≤ 9) (h10 : A' 10 = 0 ∨ A' 10 = 1) (h11 : 0 ≤ A' 11 ∧ A' 11 ≤ 9999) (h12 : 0 ≤ A' 12 ∧ A' 12 < 30389) : inv A' K m := by
  obtain ⟨hm, ⟨_, _, _, _, _, h14, h15, h16, h17⟩, hs, ht, hc, hp⟩ := h
  have e13 := e 13 (by omega) (by omega)
  have e14 := e 14 (by omega) (by omega)
  have e15 := e 15 (by omega) (by omega)
  have e16 := e 16 (by omega) (by omega)
  have e17 := e 17 (by omega) (by omega)
  refine ⟨hm, ⟨h8, h9, h10, h11, h12, by omega, by omega, by omega, by omega⟩, fun c c0 c1 => ?_, fun c c0 c1 => ⟨(ht c c0 c1).1, fun j j0 j1 => ?_⟩, ?_, ?_⟩
  · exact slot_of (hs c c0 c1) (e _ (by omega) (by omega)) (e _ (by omega) (by omega)) (e _ (by omega) (by omega)) (fun z => by rw [e13]; exact (hs c c0 c1).2.2.2.2.1 z)
  · rw [e _ (by omega) (by omega)]
    exact (ht c c0 c1).2 j j0 j1
  · unfold court at *
    rw [e13, e14, e15, e16]
    rcases hc with hc | ⟨c1, c2, c3⟩
    · exact Or.inl hc
    · refine Or.inr ⟨c1, ?_, c3⟩
      rw [e _ (by omega) (by omega)]
      exact c2
  · rw [e17, pts_of (fun j j0 j1 => e j (by omega) j1)]
    exact hp
theorem inv_turn {A K : Int → Int} {m : Int} (h : inv A K m) (h11 : A 11 < 9999) {ρ : Option xTx} (hR : okR ρ) {x : Int} (hx : 0 ≤ x ∧ x ≤ 9) : inv (rTurn ρ (rDraw A) x) K m := by
  obtain ⟨a8, a9, _, a11, a12, _⟩ := h.2.1
  have e : ∀ j, j ≠ 8 → j ≠ 9 → j ≠ 10 → j ≠ 11 → j ≠ 12 → rTurn ρ (rDraw A) x j = A j := fun j q1 q2 q3 q4 q5 => by
    unfold rTurn rDraw
    rw [up_ne q3, up_ne q2, up_ne q1, up_ne q4, up_ne q5]
  have d8 : rDraw A 8 = A 8 := up_ne (by decide)
  have d9 : rDraw A 9 = A 9 := up_ne (by decide)
  have d11 : rDraw A 11 = A 11 := up_ne (by decide)
  have t8 : rTurn ρ (rDraw A) x 8 = tq ρ (A 11 + 1) (A 8) (A 9) x := by
    unfold rTurn
    rw [up_ne (by decide), up_ne (by decide), up_at, d8, d9, d11]
  have t9 : rTurn ρ (rDraw A) x 9 = tf ρ (A 11 + 1) (A 8) (A 9) x := by
    unfold rTurn
    rw [up_ne (by decide), up_at, d8, d9, d11]
  have t10 : rTurn ρ (rDraw A) x 10 = tg ρ (A 11 + 1) (A 8) (A 9) x := by
    unfold rTurn
    rw [up_at, d8, d9, d11]
  have t11 : rTurn ρ (rDraw A) x 11 = A 11 + 1 := by
    unfold rTurn
    rw [up_ne (by decide), up_ne (by decide), up_ne (by decide), up_at, d11]
  have t12 : rTurn ρ (rDraw A) x 12 = (A 12 * 331 + 223) % 30389 := by
    unfold rTurn rDraw
    rw [up_ne (by decide), up_ne (by decide), up_ne (by decide), up_ne (by decide), up_at]
  have hq := tq_r ρ (h := A 11 + 1) (f := A 9) (x := x) a8
  have hf : 0 ≤ tf ρ (A 11 + 1) (A 8) (A 9) x ∧ tf ρ (A 11 + 1) (A 8) (A 9) x ≤ 9 := blow_r ρ (nm := wn (A 11 + 1) (tq ρ (A 11 + 1) (A 8) (A 9) x) (A 9) x) hx
  have hg : tg ρ (A 11 + 1) (A 8) (A 9) x = 0 ∨ tg ρ (A 11 + 1) (A 8) (A 9) x = 1 := fogg_r hR (okN_w (by omega) (by rw [wn_0]; omega) hq hf hx)
  refine inv_lo h (fun j j0 _ => e j (by omega) (by omega) (by omega) (by omega) (by omega)) (by rw [t8]; exact hq) (by rw [t9]; exact hf) (by rw [t10]; exact hg) (by rw [t11]; omega) (by rw [t12]; omega)
theorem inv_heard {A K : Int → Int} {m : Int} (h : inv A K m) (hc : A 13 ≠ -1) (hl : A 14 + 1 < K (4 * A 13 + 2) + A 16) : inv (rHeard A) K m := by
  obtain ⟨hm, ⟨h8, h9, h10, h11, h12, h14, h15, h16, h17⟩, hs, ht, hco, hp⟩ := h
  have e : ∀ j, j ≠ 14 → j ≠ 15 → rHeard A j = A j := fun j q1 q2 => rHeard_ne q1 q2
  have r14 : rHeard A 14 = A 14 + 1 := rfl
  have r15 : rHeard A 15 = x_or (A 15) (x_shl 1 (A 8)) := rfl
  have hlw := laws_r h15 h8
  rw [← r15] at hlw
  rcases hco with ⟨hc1, _⟩ | ⟨c1, c2, c3⟩
  · exact absurd hc1 hc
  have hk := (ht (A 13) c1.1 c1.2).1.2.2.1
  have e8 := e 8 (by decide) (by decide)
  have e9 := e 9 (by decide) (by decide)
  have e10 := e 10 (by decide) (by decide)
  have e11 := e 11 (by decide) (by decide)
  have e12 := e 12 (by decide) (by decide)
  have e13 := e 13 (by decide) (by decide)
  have e16 := e 16 (by decide) (by decide)
  have e17 := e 17 (by decide) (by decide)
  refine ⟨hm, ⟨by omega, by omega, by omega, by omega, by omega, by omega, hlw, by omega, by omega⟩, fun c c0 c1 => ?_, fun c c0 c1 => ⟨(ht c c0 c1).1, relK_heard c0 (ht c c0 c1).2⟩, ?_, ?_⟩
  · exact slot_of (hs c c0 c1) (e _ (by omega) (by omega)) (e _ (by omega) (by omega)) (e _ (by omega) (by omega)) (fun z => by rw [e13]; exact (hs c c0 c1).2.2.2.2.1 z)
  · refine Or.inr ?_
    rw [e13, e16, r14]
    exact ⟨c1, by rw [e _ (by omega) (by omega)]; exact c2, hl⟩
  · rw [e17, pts_of (fun j j0 j1 => e j (by omega) (by omega))]
    exact hp
theorem inv_close {A K : Int → Int} {m : Int} (h : inv A K m) (hc : A 13 ≠ -1) {w gb s : Int} (hw : w = 2 ∨ w = 3) (hs0 : 0 ≤ s ∧ s ≤ 999) (hs2 : w = 2 → s = 0) : inv (rLeave (rBook (rHeard A) (A 13) gb s) w s) K m := by
  have h17b := inv_17 h
  obtain ⟨hm, ⟨h8, h9, h10, h11, h12, h14, h15, h16, h17⟩, hs, ht, hco, hp⟩ := h
  rcases hco with ⟨hc1, _⟩ | ⟨c1, c2, c3⟩
  · exact absurd hc1 hc
  have eh : ∀ j, j ≠ 14 → j ≠ 15 → rHeard A j = A j := fun j q1 q2 => rHeard_ne q1 q2
  have h17' : rHeard A 17 = A 17 := eh 17 (by decide) (by decide)
  have eb : ∀ j, j < 1182 → j ≠ 17 → j ≠ 14 → j ≠ 15 → rBook (rHeard A) (A 13) gb s j = A j := fun j q1 q2 q3 q4 => by
    rw [rBook_lo (by omega) q1 q2, eh j q3 q4]
  have b17 : rBook (rHeard A) (A 13) gb s 17 = A 17 + 1 := by
    unfold rBook
    rw [up_at, h17']
  have b13 := eb 13 (by decide) (by decide) (by decide) (by decide)
  generalize hB : rBook (rHeard A) (A 13) gb s = B at *
  have el : ∀ j, j ≠ 13 → j ≠ 14 → j ≠ 15 → j ≠ 16 → j ≠ 24 + 7 * A 13 → j ≠ 25 + 7 * A 13 → rLeave B w s j = B j := fun j q1 q2 q3 q4 q5 q6 => by
    unfold rLeave
    rw [b13, if_neg q1, if_neg (by omega), if_neg q6, if_neg q5]
  have l13 : rLeave B w s 13 = -1 := if_pos rfl
  have l14 : rLeave B w s 14 = 0 := by unfold rLeave; rw [if_neg (by omega), if_pos (by omega)]
  have l15 : rLeave B w s 15 = 0 := by unfold rLeave; rw [if_neg (by omega), if_pos (by omega)]
  have l16 : rLeave B w s 16 = 0 := by unfold rLeave; rw [if_neg (by omega), if_pos (by omega)]
  have l24 : rLeave B w s (24 + 7 * A 13) = w := by unfold rLeave; rw [b13, if_neg (by omega), if_neg (by omega), if_neg (by omega), if_pos rfl]
  have l25 : rLeave B w s (25 + 7 * A 13) = s := by unfold rLeave; rw [b13, if_neg (by omega), if_neg (by omega), if_pos rfl]
  have lj : ∀ j, j < 13 ∨ (20 ≤ j ∧ j < 76) → j ≠ 24 + 7 * A 13 → j ≠ 25 + 7 * A 13 → rLeave B w s j = A j := fun j q q5 q6 => by
    rw [el j (by omega) (by omega) (by omega) (by omega) q5 q6, eb j (by omega) (by omega) (by omega) (by omega)]
  have l17 : rLeave B w s 17 = A 17 + 1 := by rw [el 17 (by omega) (by omega) (by omega) (by omega) (by omega) (by omega), b17]
  have j8 := lj 8 (by omega) (by omega) (by omega)
  have j9 := lj 9 (by omega) (by omega) (by omega)
  have j10 := lj 10 (by omega) (by omega) (by omega)
  have j11 := lj 11 (by omega) (by omega) (by omega)
  have j12 := lj 12 (by omega) (by omega) (by omega)
  have pc : ∀ c, 0 ≤ c → c < 8 → c ≠ A 13 → pt (rLeave B w s) c = pt A c := fun c q0 q1 q2 => pt_of (lj _ (by omega) (by omega) (by omega)) (lj _ (by omega) (by omega) (by omega))
  have p13 : pt (rLeave B w s) (A 13) + 1 ≤ pt A (A 13) := by
    unfold pt
    rw [l24, c2, lj (26 + 7 * A 13) (by omega) (by omega) (by omega)]
    unfold pot
    rw [if_neg (by omega), if_pos (Or.inr rfl)]
    by_cases ha : A (26 + 7 * A 13) = 0
    · rw [if_pos ha]
      split <;> omega
    · rw [if_neg ha, if_neg (fun z => ha z.2)]
      omega
  generalize hL : rLeave B w s = L at *
  refine ⟨hm, ⟨by omega, by omega, by omega, by omega, by omega, by omega, by omega, by omega, by omega⟩, fun c c0 c8 => ?_, fun c c0 c8 => ⟨(ht c c0 c8).1, fun j j0 j1 => ?_⟩, Or.inl ⟨l13, l14, l15, l16⟩, ?_⟩
  · have sc := hs c c0 c8
    by_cases hcc : c = A 13
    · subst hcc
      have l26 := lj (26 + 7 * A 13) (by omega) (by omega) (by omega)
      unfold slot
      rw [l24, l25, l26]
      exact ⟨by omega, hs0, sc.2.2.1, fun z => hs2 (by omega), fun z => absurd z (by omega), fun z => absurd z (by omega)⟩
    · exact slot_of sc (lj _ (by omega) (by omega) (by omega)) (lj _ (by omega) (by omega) (by omega)) (lj _ (by omega) (by omega) (by omega)) (fun z => absurd (sc.2.2.2.2.1 z).symm hcc)
  · rw [lj _ (by omega) (by omega) (by omega)]
    exact (ht c c0 c8).2 j j0 j1
  · rw [l17]
    have hr : A 13 = 0 ∨ A 13 = 1 ∨ A 13 = 2 ∨ A 13 = 3 ∨ A 13 = 4 ∨ A 13 = 5 ∨ A 13 = 6 ∨ A 13 = 7 := by omega
    have key : pts L + 1 ≤ pts A := by
      unfold pts
      rcases hr with e | e | e | e | e | e | e | e
      · rw [e] at p13
        rw [pc 1 (by omega) (by omega) (by omega), pc 2 (by omega) (by omega) (by omega), pc 3 (by omega) (by omega) (by omega), pc 4 (by omega) (by omega) (by omega), pc 5 (by omega) (by omega) (by omega), pc 6 (by omega) (by omega) (by omega), pc 7 (by omega) (by omega) (by omega)]
        omega
      · rw [e] at p13
        rw [pc 0 (by omega) (by omega) (by omega), pc 2 (by omega) (by omega) (by omega), pc 3 (by omega) (by omega) (by omega), pc 4 (by omega) (by omega) (by omega), pc 5 (by omega) (by omega) (by omega), pc 6 (by omega) (by omega) (by omega), pc 7 (by omega) (by omega) (by omega)]
        omega
      · rw [e] at p13
        rw [pc 0 (by omega) (by omega) (by omega), pc 1 (by omega) (by omega) (by omega), pc 3 (by omega) (by omega) (by omega), pc 4 (by omega) (by omega) (by omega), pc 5 (by omega) (by omega) (by omega), pc 6 (by omega) (by omega) (by omega), pc 7 (by omega) (by omega) (by omega)]
        omega
      · rw [e] at p13
        rw [pc 0 (by omega) (by omega) (by omega), pc 1 (by omega) (by omega) (by omega), pc 2 (by omega) (by omega) (by omega), pc 4 (by omega) (by omega) (by omega), pc 5 (by omega) (by omega) (by omega), pc 6 (by omega) (by omega) (by omega), pc 7 (by omega) (by omega) (by omega)]
        omega
      · rw [e] at p13
        rw [pc 0 (by omega) (by omega) (by omega), pc 1 (by omega) (by omega) (by omega), pc 2 (by omega) (by omega) (by omega), pc 3 (by omega) (by omega) (by omega), pc 5 (by omega) (by omega) (by omega), pc 6 (by omega) (by omega) (by omega), pc 7 (by omega) (by omega) (by omega)]
        omega
      · rw [e] at p13
        rw [pc 0 (by omega) (by omega) (by omega), pc 1 (by omega) (by omega) (by omega), pc 2 (by omega) (by omega) (by omega), pc 3 (by omega) (by omega) (by omega), pc 4 (by omega) (by omega) (by omega), pc 6 (by omega) (by omega) (by omega), pc 7 (by omega) (by omega) (by omega)]
        omega
      · rw [e] at p13
        rw [pc 0 (by omega) (by omega) (by omega), pc 1 (by omega) (by omega) (by omega), pc 2 (by omega) (by omega) (by omega), pc 3 (by omega) (by omega) (by omega), pc 4 (by omega) (by omega) (by omega), pc 5 (by omega) (by omega) (by omega), pc 7 (by omega) (by omega) (by omega)]
        omega
      · rw [e] at p13
        rw [pc 0 (by omega) (by omega) (by omega), pc 1 (by omega) (by omega) (by omega), pc 2 (by omega) (by omega) (by omega), pc 3 (by omega) (by omega) (by omega), pc 4 (by omega) (by omega) (by omega), pc 5 (by omega) (by omega) (by omega), pc 6 (by omega) (by omega) (by omega)]
        omega
    omega
