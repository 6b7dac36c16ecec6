/-! played: the whole -/
theorem case_lo {A : Int → Int} {k g e s : Int} (h : 0 ≤ A 0) {j : Int} (hj : 1 ≤ j ∧ j < 8) : rCase A k g e s j = A j := by
  unfold rCase
  rw [if_neg (by omega), if_neg (by omega), if_neg (by omega), if_neg (by omega), if_neg (by omega), if_neg (by omega)]
theorem oka_case {A : Int → Int} (h : oka A) {k r e : Int} (hc : canN A k r e) : oka (rCase A k r e 0) := by
  obtain ⟨C, h⟩ := h
  obtain ⟨⟨b1, b2, b3, b4⟩, b5⟩ := hc
  exact ⟨fun i => if i = 3 then up (C 3) 1 (C 3 1 + 1) else if i = 4 then (fun j => if 4 * C 3 1 ≤ j ∧ j < 4 * C 3 1 + 4 then (if j = 4 * C 3 1 then k else if j = 4 * C 3 1 + 1 then r else if j = 4 * C 3 1 + 2 then e else 0) else C 4 j) else C i,
    relC_case h b1 b2 b3 b4 b5 rfl (fun j => rfl) (fun i i3 i4 => by show (if i = 3 then _ else if i = 4 then _ else C i) = C i; rw [if_neg i3, if_neg i4])⟩
theorem oka_f {A A' : Int → Int} (h : oka A) (hf : frm A A') (H : ∀ C, relC A C → ∃ N, relN A' N ∧ inv A' (C 4) (A 0)) : oka A' := by
  obtain ⟨C, h⟩ := h
  obtain ⟨N, h1, h2⟩ := H C h
  exact ⟨_, relC_n h hf h1 h2⟩
theorem do_ok {ρ : Option xTx} (hR : okR ρ) {A : Int → Int} (h : oka A) {s v1 v2 v3 : Int} (hv : s = 11 → 1 ≤ v1 ∧ v1 ≤ 60) : oka (rDo ρ A s v1 v2 v3).1 ∧ (rDo ρ A s v1 v2 v3).1 1 = A 1 ∧ (rDo ρ A s v1 v2 v3).1 2 = A 2 := by
  have hk := oka_keep h
  obtain ⟨K, hI⟩ := oka_inv h
  have hm := hI.1
  have kat : ∀ {j : Int}, j < 132 → j ≠ 3 → rKeep A j = A j := fun h1 h2 => oka_at h h1 h2
  by_cases e5 : s = 5
  · subst e5
    rw [do_5]
    by_cases hq : canN A v1 v2 v3
    · rw [if_pos hq]
      exact ⟨oka_case h hq, case_lo (j := 1) hm.1 (by omega), case_lo (j := 2) hm.1 (by omega)⟩
    · rw [if_neg hq]; exact ⟨h, rfl, rfl⟩
  by_cases e6 : s = 6
  · subst e6
    rw [do_6]
    by_cases hq : canC A v1
    · rw [if_pos hq]
      have f : frm (rKeep A) (rCall (rKeep A) v1) := frm_call (by omega)
      refine ⟨oka_f hk f (fun C hC => ⟨_, rel_call hC.2.2.1 (by omega), inv_call hC.2.2.2.1 (by rw [kat (by omega) (by omega)]; exact hq.2) (by rw [kat (by omega) (by omega)]; exact hq.1.1) (by rw [kat (by omega) (by omega)]; exact hq.1.2)⟩), ?_, ?_⟩
      · show rCall (rKeep A) v1 1 = A 1
        rw [frm_2 f (by omega), kat (by omega) (by omega)]
      · show rCall (rKeep A) v1 2 = A 2
        rw [frm_2 f (by omega), kat (by omega) (by omega)]
    · rw [if_neg hq]; exact ⟨h, rfl, rfl⟩
  by_cases e7 : s = 7
  · subst e7
    rw [do_7]
    by_cases hq : canD A
    · rw [if_pos hq]
      have f : frm (rKeep A) (up (rKeep A) 16 (A 16 + 1)) := frm_up (by omega)
      have k16 := kat (j := 16) (by omega) (by omega)
      refine ⟨oka_f hk f (fun C hC => ?_), ?_, ?_⟩
      · have q1 := rel_delay hC.2.2.1
        have q2 := inv_delay hC.2.2.2.1 (by rw [kat (by omega) (by omega)]; exact hq.1) (by rw [k16]; exact hq.2)
        rw [k16] at q1 q2
        exact ⟨_, q1, q2⟩
      · show up (rKeep A) 16 (A 16 + 1) 1 = A 1
        rw [frm_2 f (by omega), kat (by omega) (by omega)]
      · show up (rKeep A) 16 (A 16 + 1) 2 = A 2
        rw [frm_2 f (by omega), kat (by omega) (by omega)]
    · rw [if_neg hq]; exact ⟨h, rfl, rfl⟩
  by_cases e8 : s = 8
  · subst e8
    rw [do_8]
    by_cases hq : canA A v1
    · rw [if_pos hq]
      have f : frm (rKeep A) (rAppeal (rKeep A) v1) := frm_appeal (by omega)
      refine ⟨oka_f hk f (fun C hC => ⟨_, rel_appeal hC.2.2.1 (by omega), inv_appeal hC.2.2.2.1 (by rw [kat (by omega) (by omega)]; exact hq.1) (by rw [kat (by omega) (by omega)]; exact hq.2.1) (by rw [kat (by omega) (by omega)]; exact hq.2.2)⟩), ?_, ?_⟩
      · show rAppeal (rKeep A) v1 1 = A 1
        rw [frm_2 f (by omega), kat (by omega) (by omega)]
      · show rAppeal (rKeep A) v1 2 = A 2
        rw [frm_2 f (by omega), kat (by omega) (by omega)]
    · rw [if_neg hq]; exact ⟨h, rfl, rfl⟩
  by_cases e9 : s = 9
  · subst e9
    rw [do_9]
    by_cases hq : canG A v1 v2
    · rw [if_pos hq]
      have f : frm (rKeep A) (up (up (rKeep A) 8 v1) 9 v2) := frm_trans (frm_up (by omega)) (frm_up (by omega))
      refine ⟨oka_f hk f (fun C hC => ⟨_, rel_gust hC.2.2.1 v1 v2, inv_gust hC.2.2.2.1 (by omega) (by omega)⟩), ?_, ?_⟩
      · show up (up (rKeep A) 8 v1) 9 v2 1 = A 1
        rw [frm_2 f (by omega), kat (by omega) (by omega)]
      · show up (up (rKeep A) 8 v1) 9 v2 2 = A 2
        rw [frm_2 f (by omega), kat (by omega) (by omega)]
    · rw [if_neg hq]; exact ⟨h, rfl, rfl⟩
  by_cases e10 : s = 10
  · subst e10
    rw [do_10]
    by_cases hq : A 13 = -1
    · rw [if_pos hq]; exact ⟨h, rfl, rfl⟩
    · rw [if_neg hq]
      have k13 := kat (j := 13) (by omega) (by omega)
      have hc := court_r h hq
      have f : frm (rKeep A) (rLeave (rKeep A) 0 0) := frm_leave (by omega)
      refine ⟨oka_f hk f (fun C hC => ?_), ?_, ?_⟩
      · have hI1 := hC.2.2.2.1
        have sl := hI1.2.2.1 (rKeep A 13) (by omega) (by omega)
        have c24 : rKeep A (24 + 7 * rKeep A 13) = 1 := by
          rcases hI1.2.2.2.2.1 with ⟨hc1, _⟩ | ⟨_, c2, _⟩
          · omega
          · exact c2
        exact ⟨_, rel_release (w := 0) hC.2.2.1 (by omega) (sl.2.2.2.1 (by rw [c24]; decide)), inv_release hI1 (by omega)⟩
      · show rLeave (rKeep A) 0 0 1 = A 1
        rw [frm_2 f (by omega), kat (by omega) (by omega)]
      · show rLeave (rKeep A) 0 0 2 = A 2
        rw [frm_2 f (by omega), kat (by omega) (by omega)]
  by_cases e11 : s = 11
  · subst e11
    rw [do_11]
    have r11 := hI.2.1.2.2.2.1
    have hv' := hv rfl
    have q := hrs_ok hR (if A 11 + v1 ≤ 9999 then v1 else 9999 - A 11).toNat h (by
      by_cases hl : A 11 + v1 ≤ 9999
      · rw [if_pos hl]; omega
      · rw [if_neg hl]; omega)
    exact ⟨q.1, q.2.2 1 (by omega) (by omega), q.2.2 2 (by omega) (by omega)⟩
  rw [do_x (by omega)]
  exact ⟨h, rfl, rfl⟩
def scA (f : Int → Int) (τ : Int) : Int → Int → Int := fun i w => f (705 * τ + 1 + 4 * i + w)
def scOk (f : Int → Int) (τ : Int) : Prop := ∀ i, 0 ≤ i → i < f (705 * τ) → scA f τ i 0 = 11 → 1 ≤ scA f τ i 1 ∧ scA f τ i 1 ≤ 60
theorem scr_ok {M : xM} {t : Nat} {τ : Int} (h : scr M t τ) : scOk (M 67) τ := fun i i0 i1 e => by
  obtain ⟨h1, h2, h3⟩ := h
  unfold scA at *
  rw [Int.add_zero] at e
  rcases h3 i i0 (by omega) with ⟨_, _, _, c4⟩ | ⟨⟨c1, c2, c3⟩, c4, _, _, c7⟩
  · omega
  · rw [c4 (by omega) (by omega)]
    exact c7 (by omega)
theorem ply_ok {ρ : Option xTx} (hR : okR ρ) {sc : Int → Int → Int} : ∀ (k : Nat) (i : Int) {A : Int → Int}, oka A → (∀ j, i ≤ j → j < i + k → sc j 0 = 11 → 1 ≤ sc j 1 ∧ sc j 1 ≤ 60) → oka (rPly ρ sc k i A).1 ∧ (rPly ρ sc k i A).1 1 = A 1
  | 0, i, A, h, _ => ⟨h, rfl⟩
  | k + 1, i, A, h, hs => by
    have q := do_ok hR h (s := sc i 0) (v1 := sc i 1) (v2 := sc i 2) (v3 := sc i 3) (hs i (by omega) (by omega))
    unfold rPly
    split
    · exact ⟨q.1, q.2.1⟩
    · have r := ply_ok hR k (i + 1) q.1 (fun j j0 j1 => hs j (by omega) (by omega))
      exact ⟨r.1, r.2.trans q.2.1⟩
theorem sc0 (f : Int → Int) (τ i : Int) : scA f τ i 0 = f (705 * τ + 1 + 4 * i) := by
  unfold scA
  rw [Int.add_zero]
section Played2
variable {g : Option Nat} {d n : Nat} {P : xP} {M : xM} {F : xM → Int → Prop} {G : xM → Prop}
theorem k_played (hn : 82 ≤ n) (hP : x_PP P) {A : Int → Int} {ρ : Option xTx} {τ : Int} (h : relC A (CC M)) (hρ : rho M (A 2) ρ) (hx : 0 ≤ τ → τ < A 1 → ∃ T, txt M τ T) (H0 : ¬ (0 ≤ τ ∧ τ < A 1) → F M (-2))
    (H1 : (0 ≤ τ ∧ τ < A 1) → ∀ M', offC M M' → relC (rPly ρ (scA (M 67) τ) (M 67 (705 * τ)).toNat 0 A).1 (CC M') → F M' (rPly ρ (scA (M 67) τ) (M 67 (705 * τ)).toNat 0 A).2) : xCI Y_X9_played none (d + 7) [vR (some 0), vI τ] n P M F := by
  have a1 : A 1 = M 1 8 := h.1.2.1
  have r := h.2.1.1
  have okr := rho_okR hρ
  have loop : ∀ (k : Nat) (A : Int → Int) (M : xM) (i : Int), 0 ≤ τ ∧ τ < 4 → relC A (CC M) → rho M (A 2) ρ → scr M (43 + 5 * τ.toNat) τ → 0 ≤ i → i + k = M (43 + 5 * τ.toNat) 5 → (∀ M', offC M M' → relC (rPly ρ (scA (M 67) τ) k i A).1 (CC M') → F M' (rPly ρ (scA (M 67) τ) k i A).2) → xW Y_X9_played none (d + 7) 0 0 20 [(0, vR (some 0)), (2, vR (some (43 + 5 * τ.toNat))), (3, vI i)] [] (0, 0) (n, P, M) (kI n P F) := by
    intro k
    induction k with
    | zero =>
      intro A M i hτ h hρ ht hi hk H
      exact b_X9_played_20 hn hP (x_txt hn hP hτ).2 ⟨fun _ => H M (offC_refl M) h, fun z => absurd z (by omega)⟩
    | succ k ih =>
      intro A M i hτ h hρ ht hi hk H
      have h24 := ht.2.1
      refine b_X9_played_20 hn hP (x_txt hn hP hτ).2 ⟨fun z => absurd z (by omega), fun _ => ?_⟩
      have hs := scr_ok ht i hi (by have := ht.1; omega)
      have q := do_ok okr ⟨_, h⟩ (s := scA (M 67) τ i 0) (v1 := scA (M 67) τ i 1) (v2 := scA (M 67) τ i 2) (v3 := scA (M 67) τ i 3) hs
      refine k_isDone hn hP h hρ hτ ht ⟨hi, by omega⟩ (fun M1 o1 r1 => ?_)
      rw [show rDo ρ A (M 67 (705 * τ + 1 + 4 * i)) (M 67 (705 * τ + 1 + 4 * i + 1)) (M 67 (705 * τ + 1 + 4 * i + 2)) (M 67 (705 * τ + 1 + 4 * i + 3)) = rDo ρ A (scA (M 67) τ i 0) (scA (M 67) τ i 1) (scA (M 67) τ i 2) (scA (M 67) τ i 3) by rw [sc0]; rfl] at r1 ⊢
      have e67 : M1 67 = M 67 := o1 67 (by omega) (by omega)
      have et : ∀ c, 43 ≤ c → c < 63 → M1 c = M c := fun c c0 c1 => o1 c (by omega) (by omega)
      refine ⟨fun hz => ⟨by unfold inR; omega, ?_⟩, fun hz => ?_⟩
      · refine ih _ M1 (i + 1) hτ r1 ?_ ?_ (by omega) ?_ (fun M' o' r' => ?_)
        · rw [q.2.2]; exact rho_C o1 hρ
        · unfold scr at *
          rw [et (43 + 5 * τ.toNat) (by omega) (by omega), et (43 + 5 * τ.toNat + 4) (by omega) (by omega), e67]
          exact ht
        · rw [et (43 + 5 * τ.toNat) (by omega) (by omega)]; omega
        · rw [e67] at r' ⊢
          have H' := H M' (offC_trans o1 o')
          unfold rPly at H'
          rw [if_neg hz] at H'
          exact H' r'
      · have H' := H M1 o1
        unfold rPly at H'
        rw [if_pos hz] at H'
        exact H' r1
  refine b_X9_played hn hP (b_X9_isText hn hP ⟨fun z => ⟨fun q => absurd rfl q, fun _ => H0 (by omega)⟩, fun z => ⟨fun y => ⟨fun q => absurd rfl q, fun _ => H0 (by omega)⟩, fun y => ⟨fun q => absurd q (by omega), fun _ => ⟨fun _ => ?_, fun q => absurd q (by decide)⟩⟩⟩⟩)
  have hτ : 0 ≤ τ ∧ τ < 4 := by omega
  obtain ⟨T, hT⟩ := hx (by omega) (by omega)
  have ht := hT.2.2.2.1
  have hc := ht.1
  have h24 := ht.2.1
  refine ⟨_, ⟨hτ, (x_txt hn hP hτ).1, (x_txt hn hP hτ).2⟩, loop (M 67 (705 * τ)).toNat A M 0 hτ h hρ ht (by omega) (by omega) (H1 (by omega))⟩
theorem q_isPlayed (hn : 82 ≤ n) (hP : x_PP P) {ρ : Option xTx} {τ i : Int} (h : oka (M 65)) (hρ : rho M (M 65 2) ρ) (hτ : 0 ≤ τ ∧ τ < 4) (hi : 0 ≤ i ∧ i < 24) (hs : scA (M 67) τ i 0 = 11 → 1 ≤ scA (M 67) τ i 1 ∧ scA (M 67) τ i 1 ≤ 60)
    (H : ∀ M', offR M M' → M' 65 = (rDo ρ (M 65) (scA (M 67) τ i 0) (scA (M 67) τ i 1) (scA (M 67) τ i 2) (scA (M 67) τ i 3)).1 → F M' (rDo ρ (M 65) (scA (M 67) τ i 0) (scA (M 67) τ i 1) (scA (M 67) τ i 2) (scA (M 67) τ i 3)).2) : xCI Y_X10_isPlayed g (d + 8) [vR (some 64), vI (705 * τ + 1 + 4 * i)] n P M F := by
  obtain ⟨K, hI⟩ := oka_inv h
  have hm := hI.1
  have h3 := oka_3 h
  have h16 := hI.2.1.2.2.2.2.2.2.2.1
  have hc := court_r h
  have same : ∀ z, (M 65, z) = rDo ρ (M 65) (scA (M 67) τ i 0) (scA (M 67) τ i 1) (scA (M 67) τ i 2) (scA (M 67) τ i 3) → F M z := fun z e => by
    rw [← e] at H
    exact H M (offR_refl M) rfl
  have set : ∀ B z, (B, z) = rDo ρ (M 65) (scA (M 67) τ i 0) (scA (M 67) τ i 1) (scA (M 67) τ i 2) (scA (M 67) τ i 3) → F (setA M 65 B) z := fun B z e => by
    rw [← e] at H
    exact H _ (offR_set (offR_refl M) (by omega)) (setA_at _ _ _)
  refine b_X10_isPlayed hn hP ⟨by unfold inR; omega, by omega, by omega, ?_⟩
  rw [show M 67 (705 * τ + 1 + 4 * i + 1) = scA (M 67) τ i 1 from rfl, show M 67 (705 * τ + 1 + 4 * i + 2) = scA (M 67) τ i 2 from rfl, show M 67 (705 * τ + 1 + 4 * i + 3) = scA (M 67) τ i 3 from rfl, ← sc0 (M 67) τ i]
  generalize scA (M 67) τ i 0 = w at *
  generalize scA (M 67) τ i 1 = v1 at *
  generalize scA (M 67) τ i 2 = v2 at *
  generalize scA (M 67) τ i 3 = v3 at *
  refine ⟨fun hw => same 1 (do_x hw).symm, fun hw => ?_, fun hw => ?_, fun hw => ?_, fun hw => ?_, fun hw => ?_, fun hw => ?_, fun hw => ?_, trivial⟩
  · subst hw
    rw [do_5] at set same
    refine ⟨by unfold inR; omega, by omega, by unfold inR; omega, by omega, c_X10_newCase hn hP hm (fun hz => ⟨fun _ => same 0 (by rw [if_neg hz]), fun z => absurd (by decide) z⟩) (fun hz => ⟨fun z => absurd z (by omega), fun _ => set _ 1 (by rw [if_pos hz])⟩)⟩
  · subst hw
    rw [do_6] at set same
    exact c_X10_call hn hP hm h3 (fun hz => ⟨Or.inl rfl, same 0 (by rw [if_neg hz])⟩) (fun hz => ⟨Or.inr rfl, set _ 1 (by rw [if_pos hz])⟩)
  · subst hw
    rw [do_7] at set same
    exact c_X10_delay hn hP h3 h16.1 (fun hz => ⟨fun _ => same 0 (by rw [if_neg hz]), fun z => absurd (by decide) z⟩) (fun hz => ⟨fun z => absurd z (by omega), fun _ => set _ 1 (by rw [if_pos hz]; rfl)⟩)
  · subst hw
    rw [do_8] at set same
    exact c_X10_appeal hn hP hm h3 (fun hz => ⟨Or.inl rfl, same 0 (by rw [if_neg hz])⟩) (fun hz => ⟨Or.inr rfl, set _ 1 (by rw [if_pos hz])⟩)
  · subst hw
    rw [do_9] at set same
    exact ⟨by unfold inR; omega, by omega, c_X10_gust hn hP h3 (fun hz => ⟨Or.inl rfl, same 0 (by rw [if_neg hz])⟩) (fun hz => ⟨Or.inr rfl, set _ 1 (by rw [if_pos hz]; rfl)⟩)⟩
  · subst hw
    rw [do_10] at set same
    exact c_X10_withdraw hn hP h3 hc (fun hz => ⟨fun _ => same 0 (by rw [if_pos hz]), fun z => absurd (by decide) z⟩) (fun hz => ⟨fun z => absurd z (by have := hc hz; omega), fun _ => set _ 1 (by rw [if_neg hz])⟩)
  · subst hw
    rw [do_11] at H
    have hv := hs rfl
    exact q_arePassed hn hP hρ h (by omega) (fun M' o' e' _ => ⟨bi_or _, H M' o' e'⟩)
theorem q_played (hn : 82 ≤ n) (hP : x_PP P) {ρ : Option xTx} {τ : Int} (h : oka (M 65)) (hρ : rho M (M 65 2) ρ) (h1 : 0 ≤ M 65 1 ∧ M 65 1 ≤ 4) (hx : 0 ≤ τ → τ < M 65 1 → (0 ≤ M 67 (705 * τ) ∧ M 67 (705 * τ) ≤ 24) ∧ scOk (M 67) τ) (H0 : ¬ (0 ≤ τ ∧ τ < M 65 1) → F M (-2))
    (H1 : (0 ≤ τ ∧ τ < M 65 1) → ∀ M', offR M M' → M' 65 = (rPly ρ (scA (M 67) τ) (M 67 (705 * τ)).toNat 0 (M 65)).1 → F M' (rPly ρ (scA (M 67) τ) (M 67 (705 * τ)).toNat 0 (M 65)).2) : xCI Y_X10_played g (d + 9) [vR (some 64), vI τ] n P M F := by
  have okr := rho_okR hρ
  have loop : ∀ (k : Nat) (M : xM) (i : Int), 0 ≤ τ ∧ τ < 4 → oka (M 65) → rho M (M 65 2) ρ → (0 ≤ M 67 (705 * τ) ∧ M 67 (705 * τ) ≤ 24) ∧ scOk (M 67) τ → 0 ≤ i → i + k = M 67 (705 * τ) → (∀ M', offR M M' → M' 65 = (rPly ρ (scA (M 67) τ) k i (M 65)).1 → F M' (rPly ρ (scA (M 67) τ) k i (M 65)).2) → xW Y_X10_played g (d + 9) 0 0 21 [(0, vR (some 64)), (1, vI τ), (2, vI i)] [] (0, 0) (n, P, M) (kI n P F) := by
    intro k
    induction k with
    | zero =>
      intro M i hτ h hρ hx hi hk H
      exact b_X10_played_21 hn hP ⟨by unfold inR; omega, by omega, fun _ => H M (offR_refl M) rfl, fun z => absurd z (by omega)⟩
    | succ k ih =>
      intro M i hτ h hρ hx hi hk H
      have hs := hx.2 i hi (by omega)
      have q := do_ok okr h (s := scA (M 67) τ i 0) (v1 := scA (M 67) τ i 1) (v2 := scA (M 67) τ i 2) (v3 := scA (M 67) τ i 3) hs
      refine b_X10_played_21 hn hP ⟨by unfold inR; omega, by omega, fun z => absurd z (by omega), fun _ => ⟨by unfold inR; omega, by unfold inR; omega, by unfold inR; omega, by unfold inR; omega, ?_⟩⟩
      refine q_isPlayed hn hP h hρ hτ (by omega) hs (fun M1 o1 e1 => ?_)
      have e67 : M1 67 = M 67 := o1.1 67 (by omega)
      refine ⟨fun hz => ⟨by unfold inR; omega, ?_⟩, fun hz => ?_⟩
      · refine ih M1 (i + 1) hτ ?_ ?_ ?_ (by omega) ?_ (fun M' o' e' => ?_)
        · rw [e1]; exact q.1
        · rw [e1, q.2.2]; exact rho_R o1 hρ
        · rw [e67]; exact hx
        · rw [e67]; omega
        · rw [e67, e1] at e' ⊢
          have H' := H M' (offR_trans o1 o')
          unfold rPly at H'
          rw [if_neg hz] at H'
          exact H' e'
      · have H' := H M1 o1
        unfold rPly at H'
        rw [if_pos hz] at H'
        exact H' e1
  refine b_X10_played hn hP ⟨by unfold inR; omega, c_X10_isIn hn ⟨fun hz => ?_, fun hz => H0 (fun z => bi_0.mp hz (by omega))⟩⟩
  have hτ := bi_n0.mp hz
  have hx' := hx hτ.1 (by omega)
  exact loop (M 67 (705 * τ)).toNat M 0 (by omega) h hρ hx' (by omega) (by omega) (H1 (by omega))
theorem op_played (hn : 82 ≤ n) (hP : x_PP P) {τ : Int} (h : Rel M) : op2 n P Y_X9_played Y_X10_played (d + 100) [vI τ] M := by
  obtain ⟨ρ, hρ⟩ := Rel_rul h
  have ok := Rel_oka h
  have h1 := h.1.2.1.1
  have hx := h.2.2.2.1
  have hx2 : ∀ N : xM, N 67 = M 67 → 0 ≤ τ → τ < M 65 1 → (0 ≤ N 67 (705 * τ) ∧ N 67 (705 * τ) ≤ 24) ∧ scOk (N 67) τ := fun N e t0 t1 => by
    obtain ⟨T, hT⟩ := hx τ t0 t1
    have ht := hT.2.2.2.1
    rw [e]
    exact ⟨by have := ht.1; have := ht.2.1; omega, scr_ok ht⟩
  refine k_played hn hP h.1 hρ (hx τ) (fun hz => q_played hn hP ok hρ h1 (hx2 M rfl) (fun _ => ⟨rfl, h⟩) (fun z => absurd z hz)) (fun hz M1 o1 r1 => ?_)
  have e65 := offC_65 o1
  have e67 : M1 67 = M 67 := o1 67 (by omega) (by omega)
  refine q_played hn hP (ρ := ρ) (by rw [e65]; exact ok) (by rw [e65]; exact rho_C o1 hρ) (by rw [e65]; exact h1) (by rw [e65]; exact hx2 M1 e67) (fun z => absurd (by rw [e65]; exact hz) z) (fun _ M2 o2 e2 => ?_)
  rw [e65, e67] at e2 ⊢
  refine ⟨rfl, Rel_op h o1 r1 o2 e2 ?_⟩
  obtain ⟨q1, q2⟩ := hx2 M rfl hz.1 hz.2
  exact (ply_ok (rho_okR hρ) (M 67 (705 * τ)).toNat 0 ok (fun j j0 j1 => q2 j j0 (by omega))).2
end Played2
