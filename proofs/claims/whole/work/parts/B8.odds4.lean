/-! odds: class beside reference -/
section Odds4
variable {g : Option Nat} {d n : Nat} {P : xP} {M : xM} {F : xM → Int → Prop} {G : xM → Prop}
theorem k_waysN (hn : 82 ≤ n) (hP : x_PP P) {A : Int → Int} {o : Option Nat} {ρ : Option xTx} {l : Nat} (hl : l ≤ 2) (hc : 0 ≤ A 13 ∧ A 13 < A 0) (h : relC A (CC M)) (hR : clR n P M o ρ) (hh : A 14 + l ≤ 50) (H : ∀ M', (∀ b, ¬ (12 ≤ b ∧ b < 26) → M' b = M b) → F M' (wy ρ A l (fun i => A (8 + i)) (A 14) (A 15))) : xCI Y_X1_guiltyWays none (d + 99) [vR (some 15), vR o, vI (A 13), vI ((l : Int) + 1)] n P M F := by
  obtain ⟨h8, h9, h10, h11, h12, h14, h15, h16, h17⟩ := h.2.2.2.1.2.1
  have hN : relN A (M 2) := h.2.2.1
  refine b_X1_guiltyWays (d := d + 94) hn hP ⟨clR_enc hR, ?_⟩
  generalize hM2 : x_cpy (x_upd M 15 2 (x_enc o)) 2 20 0 0 5 = M2
  have e2 : ∀ b, b ≠ 15 → b ≠ 20 → M2 b = M b := fun b hb hb2 => by
    rw [← hM2]
    funext j
    rw [cpy_ne hb2, x_upd_nb hb]
  have c6 : M2 2 6 = A 14 := by rw [e2 2 (by decide) (by decide)]; exact (rel_at hN (by omega) rfl).symm
  have c7 : M2 2 7 = A 15 := by rw [e2 2 (by decide) (by decide)]; exact (rel_at hN (by omega) rfl).symm
  have c15 : M2 15 2 = x_enc o := by rw [← hM2, cpy_ne (by decide), x_upd_at]
  have c20 : ∀ j, 0 ≤ j → j < 5 → M2 (20 + 0) j = (fun i => A (8 + i)) j := fun j j0 j1 => by
    rw [← hM2]
    show x_cpy (x_upd M 15 2 (x_enc o)) 2 20 0 0 5 20 j = A (8 + j)
    rw [cpy_in j0 j1, x_upd_nb (by decide)]
    exact (rel_at hN (by omega) rfl).symm
  rw [c6, c7]
  have r2 : relC A (CC M2) := relC_same h (fun c c0 c1 => e2 c (by omega) (by omega))
  have R2 : clR n P M2 o ρ := clR_of (fun c c0 c1 => e2 c (by omega) (by omega)) hR
  have w2 : wOk2 (fun i => A (8 + i)) := ⟨by show 0 ≤ A 8 ∧ A 8 < 4; exact h8, by show 0 ≤ A 9 ∧ A 9 ≤ 9; exact h9, by show 0 ≤ A 11 ∧ A 11 ≤ 15000; omega⟩
  have main := fun dd => k_ways (d := dd) hn hP (o := o) (ρ := ρ) hc l 0 M2 (fun i => A (8 + i)) (A 14) (A 15) F (by omega) r2 R2 c15 w2 (by show A 11 + (l : Int) ≤ 15000; omega) c20 (by omega) (by omega) (fun M' e' => H M' (fun b hb => by
    rw [e' b (by omega)]
    exact e2 b (by omega) (by omega)))
  have : l = 0 ∨ l = 1 ∨ l = 2 := by omega
  rcases this with rfl | rfl | rfl
  · exact main (d + 94)
  · exact main (d + 93)
  · exact main (d + 92)
theorem op_odds (hn : 82 ≤ n) (hP : x_PP P) {y : Int} (h : Rel M) : op2J n P Y_X9_odds Y_X10_odds (d + 100) [vI y] M := by
  obtain ⟨ρ, hρ⟩ := Rel_rul h
  have ok := Rel_oka h
  have a0 : M 65 0 = M 4 1 := h.1.1.1
  have hm := h.1.2.2.2.1.1
  have hN : relN (M 65) (M 2) := h.1.2.2.1
  have hI := h.1.2.2.2.1
  obtain ⟨h8, h9, h10, h11, h12, h14, h15, h16, h17⟩ := hI.2.1
  have e13 : M 2 5 = M 65 13 := (rel_at hN (by omega) rfl).symm
  have e14 : M 2 6 = M 65 14 := (rel_at hN (by omega) rfl).symm
  have e16 : M 2 8 = M 65 16 := (rel_at hN (by omega) rfl).symm
  refine b_X9_odds hn hP (c_X5_has hn hP (x_rows4 hn hP) (by omega) ?_)
  rw [← a0, e13]
  rcases hI.2.2.2.2.1 with q | ⟨q1, q2, q3⟩
  · refine ⟨fun hz => absurd (bi_n0.mp hz) (by omega), fun _ => op_qJ h (offC_refl M) (fun _ _ _ => rfl) (fun F HF => q_odds hn hP hρ ok (fun _ => HF M (offR_refl M) rfl) (fun l _ hz => absurd q.1 hz))⟩
  refine ⟨fun _ => ?_, fun hz => absurd q1 (bi_0.mp hz)⟩
  obtain ⟨c8, t0, t1, t2, t3⟩ := oka_told ok q1
  obtain ⟨k0, k1, k2, k3⟩ := relC_told h.1 q1
  have q3' : M 65 14 < M 5 (4 * M 65 13 + 2) + M 65 16 := q3
  refine c_X5_at hn hP (x_rows4 hn hP) (by omega) (by omega) (by omega) ?_
  rw [show M (4 + 1) (4 * M 65 13 + 2) = M 65 (20 + 7 * M 65 13 + 2) from k2.symm, e14, e16]
  refine ⟨by unfold inR; omega, by unfold inR; omega, c_X9_within hn ⟨fun hz => ?_, fun hz => op_qJ h (offC_refl M) (fun _ _ _ => rfl) (fun F HF => q_odds hn hP hρ ok (fun _ => HF M (offR_refl M) rfl) (fun l l2 _ hl => absurd (show 1 ≤ M 65 (20 + 7 * M 65 13 + 2) + M 65 16 - M 65 14 ∧ M 65 (20 + 7 * M 65 13 + 2) + M 65 16 - M 65 14 ≤ 3 by unfold ods at hl; omega) (bi_0.mp hz)))⟩⟩
  have hb := bi_n0.mp hz
  obtain ⟨l, hl⟩ : ∃ l : Nat, M 65 (20 + 7 * M 65 13 + 2) + M 65 16 - M 65 14 = (l : Int) + 1 := ⟨(M 65 (20 + 7 * M 65 13 + 2) + M 65 16 - M 65 14 - 1).toNat, by omega⟩
  rw [hl]
  have l2 : l ≤ 2 := by omega
  have main : xW Y_X9_odds none (d + 100) 0 0 99 [(0, vR (some 0)), (1, vI y), (2, vI (M 65 13)), (3, vI ((l : Int) + 1))] [vJ (oL l : Int)] (0, 0) (n, P, M) (kJ n P (fun M1 z1 => xCJ Y_X10_odds none (d + 100) [vR (some 64), vI y] n P M1 (fun M2 z2 => z2 = z1 ∧ Rel M2))) := by
    refine b_X9_odds_99 (d := d + 94) hn hP (k_ruling hn hP h.1 hρ (fun o ho => k_waysN hn hP l2 q1 h.1 ho (by omega) (fun M1 o1 => ?_)))
    have oC : offC M M1 := fun c hc _ => o1 c (by omega)
    have e65 := offC_65 oC
    have wr := wy_r ρ (M 65) l (fun i => M 65 (8 + i)) (M 65 14) (M 65 15) l2
    have ar := oL_r l
    have wr' : 0 ≤ wy ρ (M 65) l (fun i => M 65 (8 + i)) (M 65 14) (M 65 15) ∧ wy ρ (M 65) l (fun i => M 65 (8 + i)) (M 65 14) (M 65 15) ≤ 100 := by
      refine ⟨wr.1, Int.le_trans wr.2 ?_⟩
      split
      · omega
      · split <;> omega
    obtain ⟨u, hu⟩ : ∃ u : Nat, wy ρ (M 65) l (fun i => M 65 (8 + i)) (M 65 14) (M 65 15) = (u : Int) := ⟨(wy ρ (M 65) l (fun i => M 65 (8 + i)) (M 65 14) (M 65 15)).toNat, by omega⟩
    rw [hu] at wr' ⊢
    refine b_X9_commonDivisor hn (k_common hn u (oL l) u 0 (Nat.le_refl _) (by omega) ?_)
    rw [Nat.gcd_comm (oL l) u]
    have gp := gcd_pos u ar.1
    have d1 := tdv (a := u) gp
    have d2 := tdv (a := oL l) gp
    have ref : xCJ Y_X10_odds none (d + 100) [vR (some 64), vI y] n P M1 (fun M2 z2 => z2 = odA y u (oL l) ∧ Rel M2) := op_qJ h oC (fun c c0 c1 => o1 c (by omega)) (fun F HF => q_odds (ρ := ρ) hn hP (by rw [e65]; exact rho_C oC hρ) (by rw [e65]; exact ok) (fun hh => absurd (by rw [e65]; exact ⟨by omega, by show M 65 (20 + 7 * M 65 13 + 2) + M 65 16 - M 65 14 ≤ 3; omega⟩) hh) (fun l' _ _ hl' M' o' e' => by
      have el : l' = l := by
        rw [e65] at hl'
        have : M 65 (20 + 7 * M 65 13 + 2) + M 65 16 - M 65 14 = (l' : Int) + 1 := hl'
        omega
      subst el
      have := HF M' o' e'
      rw [e65, hu, Int.toNat_natCast]
      exact this))
    unfold odA at ref
    refine ⟨fun _ => ⟨fun hy => ⟨by omega, by unfold inL; omega, ?_⟩, fun hy => ⟨by omega, by unfold inL; omega, ?_⟩⟩, fun hz => absurd (cmp1_ge.mpr (by omega)) hz⟩
    · rw [if_pos hy] at ref; exact ref
    · rw [if_neg hy] at ref; exact ref
  have : l = 0 ∨ l = 1 ∨ l = 2 := by omega
  rcases this with rfl | rfl | rfl
  · exact ⟨fun z => absurd rfl z, fun _ => main⟩
  · exact ⟨fun _ => ⟨fun z => absurd rfl z, fun _ => main⟩, fun z => absurd z (by decide)⟩
  · exact ⟨fun _ => ⟨fun _ => main, fun z => absurd z (by decide)⟩, fun z => absurd z (by decide)⟩
end Odds4
