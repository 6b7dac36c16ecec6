/-! played: a text's deeds, one by one -/
abbrev canN (A : Int → Int) (k r e : Int) : Prop := ((0 ≤ k ∧ k ≤ 5) ∧ (1 ≤ r ∧ r ≤ 9) ∧ (1 ≤ e ∧ e ≤ 9) ∧ ((0 : Int) ≤ 0 ∧ (0 : Int) ≤ 255)) ∧ A 0 ≠ 8
abbrev canG (A : Int → Int) (q f : Int) : Prop := (0 ≤ q ∧ q ≤ 3) ∧ (0 ≤ f ∧ f ≤ 9) ∧ ¬ (A 8 = q ∧ A 9 = f)
def rDo (ρ : Option xTx) (A : Int → Int) (s v1 v2 v3 : Int) : (Int → Int) × Int :=
  if s = 5 then (if canN A v1 v2 v3 then (rCase A v1 v2 v3 0, 1) else (A, 0))
  else if s = 6 then (if canC A v1 then (rCall (rKeep A) v1, 1) else (A, 0))
  else if s = 7 then (if canD A then (up (rKeep A) 16 (A 16 + 1), 1) else (A, 0))
  else if s = 8 then (if canA A v1 then (rAppeal (rKeep A) v1, 1) else (A, 0))
  else if s = 9 then (if canG A v1 v2 then (up (up (rKeep A) 8 v1) 9 v2, 1) else (A, 0))
  else if s = 10 then (if A 13 = -1 then (A, 0) else (rLeave (rKeep A) 0 0, 1))
  else if s = 11 then (rHrs ρ (if A 11 + v1 ≤ 9999 then v1 else 9999 - A 11).toNat A, bi (A 11 + v1 ≤ 9999))
  else (A, 1)
def rPly (ρ : Option xTx) (sc : Int → Int → Int) : Nat → Int → (Int → Int) → (Int → Int) × Int
  | 0, _, A => (A, -1)
  | k + 1, i, A => if (rDo ρ A (sc i 0) (sc i 1) (sc i 2) (sc i 3)).2 = 0 then ((rDo ρ A (sc i 0) (sc i 1) (sc i 2) (sc i 3)).1, i) else rPly ρ sc k (i + 1) (rDo ρ A (sc i 0) (sc i 1) (sc i 2) (sc i 3)).1
theorem do_5 {ρ : Option xTx} {A : Int → Int} {v1 v2 v3 : Int} : rDo ρ A 5 v1 v2 v3 = if canN A v1 v2 v3 then (rCase A v1 v2 v3 0, 1) else (A, 0) := if_pos rfl
theorem do_6 {ρ : Option xTx} {A : Int → Int} {v1 v2 v3 : Int} : rDo ρ A 6 v1 v2 v3 = if canC A v1 then (rCall (rKeep A) v1, 1) else (A, 0) := by
  unfold rDo
  rw [if_neg (by decide), if_pos rfl]
theorem do_7 {ρ : Option xTx} {A : Int → Int} {v1 v2 v3 : Int} : rDo ρ A 7 v1 v2 v3 = if canD A then (up (rKeep A) 16 (A 16 + 1), 1) else (A, 0) := by
  unfold rDo
  rw [if_neg (by decide), if_neg (by decide), if_pos rfl]
theorem do_8 {ρ : Option xTx} {A : Int → Int} {v1 v2 v3 : Int} : rDo ρ A 8 v1 v2 v3 = if canA A v1 then (rAppeal (rKeep A) v1, 1) else (A, 0) := by
  unfold rDo
  rw [if_neg (by decide), if_neg (by decide), if_neg (by decide), if_pos rfl]
theorem do_9 {ρ : Option xTx} {A : Int → Int} {v1 v2 v3 : Int} : rDo ρ A 9 v1 v2 v3 = if canG A v1 v2 then (up (up (rKeep A) 8 v1) 9 v2, 1) else (A, 0) := by
  unfold rDo
  rw [if_neg (by decide), if_neg (by decide), if_neg (by decide), if_neg (by decide), if_pos rfl]
theorem do_10 {ρ : Option xTx} {A : Int → Int} {v1 v2 v3 : Int} : rDo ρ A 10 v1 v2 v3 = if A 13 = -1 then (A, 0) else (rLeave (rKeep A) 0 0, 1) := by
  unfold rDo
  rw [if_neg (by decide), if_neg (by decide), if_neg (by decide), if_neg (by decide), if_neg (by decide), if_pos rfl]
theorem do_11 {ρ : Option xTx} {A : Int → Int} {v1 v2 v3 : Int} : rDo ρ A 11 v1 v2 v3 = (rHrs ρ (if A 11 + v1 ≤ 9999 then v1 else 9999 - A 11).toNat A, bi (A 11 + v1 ≤ 9999)) := by
  unfold rDo
  rw [if_neg (by decide), if_neg (by decide), if_neg (by decide), if_neg (by decide), if_neg (by decide), if_neg (by decide), if_pos rfl]
theorem do_x {ρ : Option xTx} {A : Int → Int} {s v1 v2 v3 : Int} (h : s < 5 ∨ 11 < s) : rDo ρ A s v1 v2 v3 = (A, 1) := by
  unfold rDo
  rw [if_neg (by omega), if_neg (by omega), if_neg (by omega), if_neg (by omega), if_neg (by omega), if_neg (by omega), if_neg (by omega)]
section Played
variable {g : Option Nat} {d n : Nat} {P : xP} {M : xM} {F : xM → Int → Prop} {G : xM → Prop}
theorem c_X7_clauseAt (hn : 82 ≤ n) (hP : x_PP P) {t : Nat} (hT : x_Text n P t) {i w : Int} (hi : 0 ≤ i ∧ i < M t 5) (h24 : M t 5 ≤ 24) (hw : 0 ≤ w ∧ w < 4) (H : F M (M (t + 4) (4 * i + w))) : xCI Y_X7_clauseAt g d [vR (some t), vI i, vI w] n P M F := by
  refine b_X7_clauseAt hn hP hT ⟨fun z => absurd z (by omega), fun _ => ⟨fun z => absurd z (by omega), fun _ => ⟨fun z => absurd z (by omega), fun _ => ⟨fun z => absurd z (by omega), fun _ => b_X7_clauseAt_26 hn hP hT ⟨fun z => absurd z (by decide), fun _ => ⟨by unfold inR; omega, by unfold inR; omega, by omega, ?_⟩⟩⟩⟩⟩⟩
  rwa [show i * 4 + w = 4 * i + w by omega]
theorem k_isDone (hn : 82 ≤ n) (hP : x_PP P) {A : Int → Int} {ρ : Option xTx} {τ i : Int} (h : relC A (CC M)) (hρ : rho M (A 2) ρ) (hτ : 0 ≤ τ ∧ τ < 4) (ht : scr M (43 + 5 * τ.toNat) τ) (hi : 0 ≤ i ∧ i < M (43 + 5 * τ.toNat) 5)
    (H : ∀ M', offC M M' → relC (rDo ρ A (M 67 (705 * τ + 1 + 4 * i)) (M 67 (705 * τ + 1 + 4 * i + 1)) (M 67 (705 * τ + 1 + 4 * i + 2)) (M 67 (705 * τ + 1 + 4 * i + 3))).1 (CC M') → F M' (rDo ρ A (M 67 (705 * τ + 1 + 4 * i)) (M 67 (705 * τ + 1 + 4 * i + 1)) (M 67 (705 * τ + 1 + 4 * i + 2)) (M 67 (705 * τ + 1 + 4 * i + 3))).2) : xCI Y_X9_isDone none (d + 6) [vR (some 0), vR (some (43 + 5 * τ.toNat)), vI i] n P M F := by
  have hX := (x_txt hn hP hτ).2
  generalize 43 + 5 * τ.toNat = t at *
  obtain ⟨s1, s2, s3⟩ := ht
  refine b_X9_isDoneT hn hP hX (c_X7_clauseAt hn hP hX hi s2.2 (by omega) (c_X7_clauseAt hn hP hX hi s2.2 (by omega) (c_X7_clauseAt hn hP hX hi s2.2 (by omega) ?_)))
  rw [Int.add_zero]
  generalize hv1 : M 67 (705 * τ + 1 + 4 * i + 1) = v1 at *
  generalize hv2 : M 67 (705 * τ + 1 + 4 * i + 2) = v2 at *
  generalize hv3 : M 67 (705 * τ + 1 + 4 * i + 3) = v3 at *
  generalize hw : M 67 (705 * τ + 1 + 4 * i) = w at *
  have sc := s3 i hi.1 hi.2
  rw [hw, hv1, hv2, hv3] at sc
  generalize hcw : M (t + 4) (4 * i) = cw at *
  rcases sc with ⟨c1, c2, c3, c4⟩ | ⟨⟨c1, c2, c3⟩, c4, c5, c6, c7⟩
  · rw [do_x (by omega)] at H
    refine ⟨fun _ => H M (offC_refl M) h, fun z => absurd z (by omega), fun z => absurd z (by omega), fun z => absurd z (by omega), fun z => absurd z (by omega), fun z => absurd z (by omega), fun z => absurd z (by omega), fun z => absurd z (by omega), trivial⟩
  · subst c3
    refine ⟨fun z => absurd z (by omega), fun z => ?_, fun z => ?_, fun z => ?_, fun z => ?_, fun z => ?_, fun z => ?_, fun z => ?_, trivial⟩
    · rw [z, do_5] at H
      rw [← c4 (by omega) (by omega), ← c5 (by omega)]
      refine c_X7_clauseAt hn hP hX hi s2.2 (by omega) ?_
      rw [← c6 (by omega)]
      have hm := h.2.2.2.1.1
      refine k_newCase hn hP h (fun hz => ?_) (fun hz M1 o1 r1 => ?_)
      · rw [if_neg hz] at H
        exact ⟨fun _ => H M (offC_refl M) h, fun z => absurd rfl z⟩
      · rw [if_pos hz] at H
        exact ⟨fun z => absurd z (by omega), fun _ => H M1 o1 r1⟩
    · rw [z, do_6] at H
      rw [← c4 (by omega) (by omega)]
      refine k_call hn hP h (fun hz => ⟨Or.inl rfl, ?_⟩) (fun hz M1 o1 r1 => ⟨Or.inr rfl, ?_⟩)
      · rw [if_neg hz] at H
        exact H M (offC_refl M) h
      · rw [if_pos hz] at H
        exact H M1 o1 r1
    · rw [z, do_7] at H
      have h16 := h.2.2.2.1.2.1.2.2.2.2.2.2.2.1
      refine k_delay hn hP h (fun hz => ⟨fun _ => ?_, fun z => absurd rfl z⟩) (fun hz M1 o1 r1 => ⟨fun z => absurd z (by omega), fun _ => ?_⟩)
      · rw [if_neg hz] at H
        exact H M (offC_refl M) h
      · rw [if_pos hz] at H
        exact H M1 o1 r1
    · rw [z, do_8] at H
      rw [← c4 (by omega) (by omega)]
      refine k_appeal hn hP h (fun hz => ⟨Or.inl rfl, ?_⟩) (fun hz M1 o1 r1 => ⟨Or.inr rfl, ?_⟩)
      · rw [if_neg hz] at H
        exact H M (offC_refl M) h
      · rw [if_pos hz] at H
        exact H M1 o1 r1
    · rw [z, do_9] at H
      rw [← c4 (by omega) (by omega), ← c5 (by omega)]
      refine k_gust hn hP h (fun hz => ⟨Or.inl rfl, ?_⟩) (fun hz M1 o1 r1 => ⟨Or.inr rfl, ?_⟩)
      · rw [if_neg hz] at H
        exact H M (offC_refl M) h
      · rw [if_pos hz] at H
        exact H M1 o1 r1
    · rw [z, do_10] at H
      have hc := court_r ⟨_, h⟩
      refine k_withdraw hn hP h (fun hz => ⟨fun _ => ?_, fun z => absurd rfl z⟩) (fun hz M1 o1 r1 => ⟨fun z => absurd z (by omega), fun _ => ?_⟩)
      · rw [if_pos hz] at H
        exact H M (offC_refl M) h
      · rw [if_neg hz] at H
        exact H M1 o1 r1
    · rw [z, do_11] at H
      rw [← c4 (by omega) (by omega)]
      have c7' := c7 z
      have e11 : A 11 = M 2 3 := rel_at h.2.2.1 (by omega) rfl
      have r11 := h.2.2.2.1.2.1.2.2.2.1
      have hv : 1 ≤ v1 ∧ v1 ≤ 60 := by rw [c4 (by omega) (by omega)]; exact c7'
      refine c_X0_hoursLeft hn hP (by omega) ?_
      rw [← e11]
      by_cases hl : A 11 + v1 ≤ 9999
      · rw [if_pos hl, bi_t hl] at H
        refine b_J9_min_7cf53 hn ⟨fun z => ?_, fun z => ?_⟩
        all_goals
          refine k_passHours hn hP h hρ (by omega) (fun M1 o1 r1 => ⟨fun z => absurd z (by omega), fun _ => ?_⟩)
          first
            | exact H M1 o1 r1
            | (rw [show 9999 - A 11 = v1 by omega] at r1; exact H M1 o1 r1)
      · rw [if_neg hl, bi_f hl] at H
        refine b_J9_min_7cf53 hn ⟨fun z => ?_, fun z => ?_⟩
        all_goals
          first
            | (exfalso; omega)
            | (refine k_passHours hn hP h hρ (by omega) (fun M1 o1 r1 => ⟨fun _ => ?_, fun z => absurd z (by omega)⟩)
               exact H M1 o1 r1)
end Played
