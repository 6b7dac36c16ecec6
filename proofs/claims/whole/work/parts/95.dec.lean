/-! decades -/
abbrev canC (A : Int → Int) (c : Int) : Prop := ((0 ≤ c ∧ c < A 0) ∧ A (24 + 7 * c) = 0) ∧ A 13 = -1
abbrev canD (A : Int → Int) : Prop := A 13 ≠ -1 ∧ A 16 < 3
abbrev canA (A : Int → Int) (c : Int) : Prop := (0 ≤ c ∧ c < A 0) ∧ A (24 + 7 * c) = 3 ∧ A (26 + 7 * c) = 0
/-- one draw of decades, the draw being made -/
def rHp (ρ : Option xTx) (x : Int) (B : Int → Int) : Int → Int :=
  if x % 7 < 2 then (if canC B (x % B 0) then rCall B (x % B 0) else B)
  else if x % 7 = 2 then (if canD B then up B 16 (B 16 + 1) else B)
  else if x % 7 = 3 then (if canA B (x % B 0) then rAppeal B (x % B 0) else B)
  else if B 11 < 9999 then rHour ρ B else B
def rHap (ρ : Option xTx) (A : Int → Int) : Int → Int := rHp ρ (A 12) (rDraw A)
def rDec (ρ : Option xTx) : Nat → (Int → Int) → (Int → Int)
  | 0, A => A
  | k + 1, A => rDec ρ k (rHap ρ A)
theorem inv_draw {A K : Int → Int} {m : Int} (h : inv A K m) : inv (rDraw A) K m := by
  have q := h.2.1
  exact inv_lo h (fun j j0 _ => up_ne (by omega)) q.1 q.2.1 q.2.2.1 q.2.2.2.1 (by show 0 ≤ (A 12 * 331 + 223) % 30389 ∧ (A 12 * 331 + 223) % 30389 < 30389; omega)
theorem relC_draw {A : Int → Int} {M : xM} (h : relC A (CC M)) : relC (rDraw A) (CC (setA M 2 (cDraw (M 2)))) := relC_set h (frm_draw A) (rel_draw h.2.2.1) (inv_draw h.2.2.2.1)
/-- any of them keeps what the relation wants, whatever the class's court is -/
theorem hp_ok {ρ : Option xTx} (hR : okR ρ) {x : Int} {B : Int → Int} {C : xCt} (h : relC B C) (hx : 0 ≤ x) (h0 : 0 < B 0) : frm B (rHp ρ x B) ∧ ∃ N, relN (rHp ρ x B) N ∧ inv (rHp ρ x B) (C 4) (B 0) := by
  obtain ⟨_, _, hN, hI, _, _⟩ := h
  have hm := hI.1
  have hc : 0 ≤ x % B 0 ∧ x % B 0 < B 0 := ⟨Int.emod_nonneg _ (by omega), Int.emod_lt_of_pos _ h0⟩
  unfold rHp
  by_cases h1 : x % 7 < 2
  · rw [if_pos h1]
    by_cases hq : canC B (x % B 0)
    · rw [if_pos hq]
      exact ⟨frm_call (by omega), _, rel_call hN (by omega), inv_call hI hq.2 hc hq.1.2⟩
    · rw [if_neg hq]
      exact ⟨frm_refl B, _, hN, hI⟩
  rw [if_neg h1]
  by_cases h2 : x % 7 = 2
  · rw [if_pos h2]
    by_cases hq : canD B
    · rw [if_pos hq]
      exact ⟨frm_up (by omega), _, rel_delay hN, inv_delay hI hq.1 hq.2⟩
    · rw [if_neg hq]
      exact ⟨frm_refl B, _, hN, hI⟩
  rw [if_neg h2]
  by_cases h3 : x % 7 = 3
  · rw [if_pos h3]
    by_cases hq : canA B (x % B 0)
    · rw [if_pos hq]
      exact ⟨frm_appeal (by omega), _, rel_appeal hN (by omega), inv_appeal hI hc hq.2.1 hq.2.2⟩
    · rw [if_neg hq]
      exact ⟨frm_refl B, _, hN, hI⟩
  rw [if_neg h3]
  by_cases h4 : B 11 < 9999
  · rw [if_pos h4]
    have q := hour_rel hI hN hR h4
    exact ⟨frm_hour hI ρ, _, q.1, q.2⟩
  · rw [if_neg h4]
    exact ⟨frm_refl B, _, hN, hI⟩
theorem oka_draw {A : Int → Int} (h : oka A) : oka (rDraw A) := by
  obtain ⟨C, h⟩ := h
  exact ⟨_, relC_n h (frm_draw A) (rel_draw h.2.2.1) (inv_draw h.2.2.2.1)⟩
theorem oka_hap {A : Int → Int} (h : oka A) {ρ : Option xTx} (hR : okR ρ) (h0 : 0 < A 0) : oka (rHap ρ A) ∧ ∀ j, 0 ≤ j → j < 8 → rHap ρ A j = A j := by
  obtain ⟨C, h1⟩ := oka_draw h
  obtain ⟨K, hI⟩ := oka_inv h
  have x0 := hI.2.1.2.2.2.2.1
  obtain ⟨f, N, q1, q2⟩ := hp_ok hR h1 x0.1 (by show 0 < A 0; exact h0)
  refine ⟨⟨_, relC_n h1 f q1 q2⟩, fun j j0 j1 => ?_⟩
  show rHp ρ (A 12) (rDraw A) j = A j
  rw [frm_2 f ⟨j0, j1⟩]
  exact frm_2 (frm_draw A) ⟨j0, j1⟩
section Dec
variable {g : Option Nat} {d n : Nat} {P : xP} {M : xM} {F : xM → Int → Prop} {G : xM → Prop}
theorem k_passDrawn (hn : 82 ≤ n) (hP : x_PP P) {A : Int → Int} {o : Option Nat} {ρ : Option xTx} (h : relC A (CC M)) (hR : clR n P M o ρ) (h0 : 0 < A 0) (H : ∀ M', offC M M' → relC (rHap ρ A) (CC M') → G M') : xCV Y_X0_passDrawn none (d + 5) [vR (some 1), vR (some 12), vR o] n P M G := by
  have hN : relN A (M 2) := h.2.2.1
  have hI := h.2.2.2.1
  have e12 : A 12 = M 2 4 := rel_at hN (by omega) rfl
  have x0 := hI.2.1.2.2.2.2.1
  have hm := hI.1
  refine b_X0_passDrawn hn hP (c_X0_drawX hn hP (by omega) ?_)
  rw [x_upd_up M, ← e12]
  have eD : up (M 2) 4 ((A 12 * 331 + 223) % 30389) = cDraw (M 2) := by unfold cDraw; rw [e12]
  rw [eD]
  have h1 := relC_draw h
  have o1 : offC M (setA M 2 (cDraw (M 2))) := offC_set (offC_refl M) (by omega)
  generalize hM1 : setA M 2 (cDraw (M 2)) = M1 at h1 o1 ⊢
  have hR1 : clR n P M1 o ρ := clR_of (fun c c0 c1 => o1 c (by omega) (by omega)) hR
  have B0 : rDraw A 0 = A 0 := rfl
  have m0 : rDraw A 0 = M1 4 1 := h1.1.1
  have hN1 : relN (rDraw A) (M1 2) := h1.2.2.1
  have hI1 := h1.2.2.2.1
  refine ⟨fun z => absurd z (by omega), fun _ => ⟨by omega, ?_⟩⟩
  rw [← m0]
  have H' : ∀ M', offC M1 M' → relC (rHp ρ (A 12) (rDraw A)) (CC M') → G M' := fun M' o' r' => H M' (offC_trans o1 o') r'
  have tm7 : (A 12).tmod 7 = A 12 % 7 := Int.tmod_eq_emod_of_nonneg x0.1
  have tm0 : (A 12).tmod (rDraw A 0) = A 12 % rDraw A 0 := Int.tmod_eq_emod_of_nonneg x0.1
  rw [tm0]
  have hc : 0 ≤ A 12 % rDraw A 0 ∧ A 12 % rDraw A 0 < rDraw A 0 := ⟨Int.emod_nonneg _ (by omega), Int.emod_lt_of_pos _ (by omega)⟩
  generalize hcc : A 12 % rDraw A 0 = c at *
  generalize hB : rDraw A = B at *
  have e13 : B 13 = M1 2 5 := rel_at hN1 (by omega) rfl
  have e16 : B 16 = M1 2 8 := rel_at hN1 (by omega) rfl
  have e11 : B 11 = M1 2 3 := rel_at hN1 (by omega) rfl
  have sl := hN1.2.1 c (by omega) (by omega)
  have r11 := hI1.2.1.2.2.2.1
  have r16 := hI1.2.1.2.2.2.2.2.2.2.1
  have bring : A 12 % 7 < 2 → xCI Y_X0_canBring none (d + 4) [vR (some 1), vI c] n P M1 (fun M6 z6 => ((z6 = 0 → G M6) ∧ (¬ z6 = 0 → xCV Y_X0_bring none (d + 4) [vR (some 1), vI c] n P M6 (fun M7 => G M7)))) := by
    intro h7
    unfold rHp at H'
    rw [if_pos h7, hcc] at H'
    refine c_X0_canBring hn hP (by omega) ?_
    rw [← m0, ← sl.1, ← e13]
    refine ⟨fun hz => ?_, fun hz => c_X0_bring hn hP (by omega) (by omega) ?_⟩
    · rw [if_neg (bi_0.mp hz)] at H'
      exact H' _ (offC_refl _) h1
    · have hq := bi_n0.mp hz
      rw [if_pos hq] at H'
      rw [x_upd_up M1, x_upd_up2]
      exact H' _ (offC_set (offC_refl _) (by omega)) (relC_set h1 (frm_call (by omega)) (rel_call hN1 (by omega)) (inv_call hI1 hq.2 hc hq.1.2))
  refine b_X0_passDrawn_28 hn hP ?_
  rw [tm7]
  refine ⟨fun h7 => ?_, fun h7 => bring (by omega), fun h7 => bring (by omega), fun h7 => ?_, fun h7 => ?_, trivial⟩
  · unfold rHp at H'
    rw [if_neg (by omega), if_neg (by omega), if_neg (by omega)] at H'
    refine c_X0_hoursLeft hn hP (by omega) ⟨fun hl => ?_, fun hl => ?_⟩
    · rw [if_neg (by omega)] at H'
      exact H' _ (offC_refl _) h1
    · rw [if_pos (by omega)] at H'
      exact k_hourC hn hP h1 hR1 (by omega) H'
  · unfold rHp at H'
    rw [if_neg (by omega), if_pos h7] at H'
    refine c_X0_canPutOff hn hP ?_
    rw [← e13, ← e16]
    refine ⟨fun hz => ?_, fun hz => c_X0_putOff hn hP ?_ ?_⟩
    · rw [if_neg (bi_0.mp hz)] at H'
      exact H' _ (offC_refl _) h1
    · have hq := bi_n0.mp hz
      omega
    · have hq := bi_n0.mp hz
      rw [if_pos hq] at H'
      rw [x_upd_up M1]
      exact H' _ (offC_set (offC_refl _) (by omega)) (relC_set h1 (frm_up (by omega)) (rel_delay hN1) (inv_delay hI1 hq.1 hq.2))
  · unfold rHp at H'
    rw [if_neg (by omega), if_neg (by omega), if_pos h7, hcc] at H'
    refine c_X0_canReopen hn hP (by omega) ?_
    rw [← m0, ← sl.1, ← sl.2.2]
    refine ⟨fun hz => ?_, fun hz => c_X0_reopen hn hP (by omega) (by omega) ?_⟩
    · rw [if_neg (bi_0.mp hz)] at H'
      exact H' _ (offC_refl _) h1
    · have hq := bi_n0.mp hz
      rw [if_pos hq] at H'
      rw [x_upd_up M1, x_upd_up2, x_upd_up2]
      exact H' _ (offC_set (offC_refl _) (by omega)) (relC_set h1 (frm_appeal (by omega)) (rel_appeal hN1 (by omega)) (inv_appeal hI1 hc hq.2.1 hq.2.2))
theorem relC_seed {A : Int → Int} {M : xM} (h : relC A (CC M)) {x : Int} (hx : 0 ≤ x ∧ x < 30389) : relC (up A 12 x) (CC (setA M 2 (up (M 2) 4 x))) := by
  have q := h.2.2.2.1.2.1
  exact relC_set h (frm_up (by omega)) (rel_up (i := 4) h.2.2.1 (by omega) rfl) (inv_lo h.2.2.2.1 (fun j j0 _ => up_ne (by omega)) q.1 q.2.1 q.2.2.1 q.2.2.2.1 (by rw [up_at]; exact hx))
theorem k_decades (hn : 82 ≤ n) (hP : x_PP P) {A : Int → Int} {ρ : Option xTx} {s v : Int} (h : relC A (CC M)) (hρ : rho M (A 2) ρ) (H0 : ¬ ((0 ≤ s ∧ s ≤ 9999) ∧ (1 ≤ v ∧ v ≤ 40) ∧ A 0 ≠ 0) → F M (-1)) (H1 : (0 ≤ s ∧ s ≤ 9999) ∧ (1 ≤ v ∧ v ≤ 40) ∧ A 0 ≠ 0 → ∀ M', offC M M' → relC (rDec ρ v.toNat (up (rKeep A) 12 (s * 2 + 107))) (CC M') → F M' (rDec ρ v.toNat (up (rKeep A) 12 (s * 2 + 107)) 11)) : xCI Y_X9_decades none (d + 6) [vR (some 0), vI s, vI v] n P M F := by
  have a0 : A 0 = M 4 1 := h.1.1
  have hm := h.2.2.2.1.1
  have okr := rho_okR hρ
  have loop : ∀ (k : Nat) (A : Int → Int) (M : xM) (x3 : Int), relC A (CC M) → rho M (A 2) ρ → 0 < A 0 → 0 ≤ x3 → x3 + k = v → v ≤ 40 → (∀ M', offC M M' → relC (rDec ρ k A) (CC M') → F M' (rDec ρ k A 11)) → xW Y_X9_decades none (d + 6) 0 0 60 [(0, vR (some 0)), (2, vI v), (3, vI x3)] [] (0, 0) (n, P, M) (kI n P F) := by
    intro k
    induction k with
    | zero =>
      intro A M x3 h hρ h0 h3 hk hv H
      refine b_X9_decades_60 hn hP ⟨fun _ => ?_, fun z => absurd z (by omega)⟩
      have e11 : A 11 = M 2 3 := rel_at h.2.2.1 (by omega) rfl
      rw [← e11]
      exact H M (offC_refl M) h
    | succ k ih =>
      intro A M x3 h hρ h0 h3 hk hv H
      refine b_X9_decades_60 hn hP ⟨fun z => absurd z (by omega), fun _ => ?_⟩
      refine k_ruling hn hP h hρ (fun o ho => k_passDrawn hn hP h ho h0 (fun M2 o2 h2 => ⟨by unfold inR; omega, ?_⟩))
      have lo := (oka_hap ⟨_, h⟩ okr h0).2
      refine ih (rHap ρ A) M2 (x3 + 1) h2 ?_ ?_ (by omega) (by omega) hv (fun M' o' r' => H M' (offC_trans o2 o') r')
      · rw [lo 2 (by omega) (by omega)]
        exact rho_C o2 hρ
      · rw [lo 0 (by omega) (by omega)]
        exact h0
  refine b_X9_decades hn hP (c_X9_within hn ⟨fun hz => H0 (fun z => bi_0.mp hz z.1), fun hz => c_X9_within hn ⟨fun hy => H0 (fun z => bi_0.mp hy z.2.1), fun hy => ⟨fun h0 => ?_, fun h0 => H0 (fun z => z.2.2 (a0.trans h0))⟩⟩⟩)
  have hs := bi_n0.mp hz
  have hv := bi_n0.mp hy
  refine k_keep hn hP h (fun M1 o1 h1 => ⟨by unfold inR; omega, by unfold inR; omega, ?_⟩)
  rw [x_upd_up M1]
  have h2 := relC_seed (x := s * 2 + 107) h1 (by omega)
  have k0 := keep_at h (j := 0) (by omega) (by omega)
  have k2 := keep_at h (j := 2) (by omega) (by omega)
  have o2 : offC M (setA M1 2 (up (M1 2) 4 (s * 2 + 107))) := offC_set o1 (by omega)
  refine loop v.toNat _ _ 0 h2 ?_ ?_ (by omega) (by omega) hv.2 (fun M' o' r' => H1 ⟨hs, hv, by omega⟩ M' (offC_trans o2 o') r')
  · rw [up_ne (by decide), k2]
    exact rho_C o2 hρ
  · rw [up_ne (by decide), k0]
    omega
theorem q_happens (hn : 82 ≤ n) (hP : x_PP P) {ρ : Option xTx} {x : Int} (hx : 0 ≤ x) (hR : rfR M (M 65 2) ρ) (h : oka (M 65)) (h0 : 0 < M 65 0) (H : ∀ M', offR M M' → M' 65 = rHp ρ x (M 65) → G M') : xCV Y_X10_happens g (d + 7) [vR (some 64), vI x] n P M G := by
  obtain ⟨K, hI⟩ := oka_inv h
  have hm := hI.1
  have tm7 : x.tmod 7 = x % 7 := Int.tmod_eq_emod_of_nonneg hx
  have tm0 : x.tmod (M 65 0) = x % M 65 0 := Int.tmod_eq_emod_of_nonneg hx
  have hc : 0 ≤ x % M 65 0 ∧ x % M 65 0 < M 65 0 := ⟨Int.emod_nonneg _ (by omega), Int.emod_lt_of_pos _ (by omega)⟩
  have r11 := hI.2.1.2.2.2.1
  have r16 := hI.2.1.2.2.2.2.2.2.2.1
  have same : rHp ρ x (M 65) = M 65 → G M := fun e => H M (offR_refl M) e.symm
  have hour : ¬ x % 7 < 2 → ¬ x % 7 = 2 → ¬ x % 7 = 3 → (9999 ≤ M 65 11 → G M) ∧ (¬ 9999 ≤ M 65 11 → xCV Y_X10_pass g (d + 6) [vR (some 64)] n P M G) := by
    intro h1 h2 h3
    unfold rHp at H
    rw [if_neg h1, if_neg h2, if_neg h3] at H
    refine ⟨fun hl => ?_, fun hl => q_pass hn hP hR h (fun M' o' e' _ => ?_)⟩
    · rw [if_neg (by omega)] at H
      exact H M (offR_refl M) rfl
    · rw [if_pos (by omega)] at H
      exact H M' o' e'
  refine b_X10_happens hn hP ⟨by omega, ?_⟩
  rw [tm7, tm0]
  refine ⟨fun h7 => ?_, fun h7 => ?_, fun h7 => ?_, fun h7 => hour (by omega) (by omega) (by omega), fun h7 => hour (by omega) (by omega) (by omega), fun h7 => hour (by omega) (by omega) (by omega), trivial⟩
  · unfold rHp at H
    rw [if_pos (by omega)] at H
    refine c_X10_canCall hn hP (by omega) ⟨fun hz => ?_, fun hz => c_X10_callNow hn hP (by omega) ?_⟩
    · rw [if_neg (bi_0.mp hz)] at H
      exact H M (offR_refl M) rfl
    · rw [if_pos (bi_n0.mp hz)] at H
      exact H _ (offR_set (offR_refl M) (by omega)) (setA_at _ _ _)
  · unfold rHp at H
    rw [if_neg (by omega), if_pos h7] at H
    refine c_X10_canDelay hn hP ⟨fun hz => ?_, fun hz => ?_⟩
    · rw [if_neg (bi_0.mp hz)] at H
      exact H M (offR_refl M) rfl
    · rw [if_pos (bi_n0.mp hz)] at H
      refine ⟨by unfold inR; omega, ?_⟩
      rw [x_upd_up M]
      exact H _ (offR_set (offR_refl M) (by omega)) (setA_at _ _ _)
  · unfold rHp at H
    rw [if_neg (by omega), if_neg (by omega), if_pos h7] at H
    refine c_X10_canAppeal hn hP (by omega) ⟨fun hz => ?_, fun hz => c_X10_appealNow hn hP (by omega) ?_⟩
    · rw [if_neg (bi_0.mp hz)] at H
      exact H M (offR_refl M) rfl
    · rw [if_pos (bi_n0.mp hz)] at H
      exact H _ (offR_set (offR_refl M) (by omega)) (setA_at _ _ _)
theorem oka_seed {A : Int → Int} (h : oka A) {x : Int} (hx : 0 ≤ x ∧ x < 30389) : oka (up A 12 x) := by
  obtain ⟨C, h⟩ := h
  have q := h.2.2.2.1.2.1
  exact ⟨_, relC_n h (frm_up (by omega)) (rel_up (i := 4) h.2.2.1 (by omega) rfl) (inv_lo h.2.2.2.1 (fun j j0 _ => up_ne (by omega)) q.1 q.2.1 q.2.2.1 q.2.2.2.1 (by rw [up_at]; exact hx))⟩
theorem q_decades (hn : 82 ≤ n) (hP : x_PP P) {ρ : Option xTx} {s v : Int} (hρ : rho M (M 65 2) ρ) (h : oka (M 65)) (H0 : ¬ ((0 ≤ s ∧ s ≤ 9999) ∧ (1 ≤ v ∧ v ≤ 40) ∧ M 65 0 ≠ 0) → F M (-1)) (H1 : (0 ≤ s ∧ s ≤ 9999) ∧ (1 ≤ v ∧ v ≤ 40) ∧ M 65 0 ≠ 0 → ∀ M', offR M M' → M' 65 = rDec ρ v.toNat (up (rKeep (M 65)) 12 (s * 2 + 107)) → F M' (rDec ρ v.toNat (up (rKeep (M 65)) 12 (s * 2 + 107)) 11)) : xCI Y_X10_decades g (d + 8) [vR (some 64), vI s, vI v] n P M F := by
  obtain ⟨K, hI⟩ := oka_inv h
  have hm := hI.1
  have okr := rho_okR hρ
  have loop : ∀ (k : Nat) (M : xM) (x3 : Int), oka (M 65) → rho M (M 65 2) ρ → 0 < M 65 0 → 0 ≤ x3 → x3 + k = v → v ≤ 40 → (∀ M', offR M M' → M' 65 = rDec ρ k (M 65) → F M' (rDec ρ k (M 65) 11)) → xW Y_X10_decades g (d + 8) 0 0 51 [(0, vR (some 64)), (2, vI v), (3, vI x3)] [] (0, 0) (n, P, M) (kI n P F) := by
    intro k
    induction k with
    | zero =>
      intro M x3 h hρ h0 h3 hk hv H
      refine b_X10_decades_51 hn hP ⟨fun _ => H M (offR_refl M) rfl, fun z => absurd z (by omega)⟩
    | succ k ih =>
      intro M x3 h hρ h0 h3 hk hv H
      refine b_X10_decades_51 hn hP ⟨fun z => absurd z (by omega), fun _ => ?_⟩
      obtain ⟨K, hI⟩ := oka_inv h
      have x0 := hI.2.1.2.2.2.2.1
      refine c_X10_anew hn hP x0 ?_
      rw [Int.tmod_eq_emod_of_nonneg (by omega), x_upd_up M, show up (M 65) 12 ((M 65 12 * 331 + 223) % 30389) = rDraw (M 65) from rfl]
      have s65 : setA M 65 (rDraw (M 65)) 65 = rDraw (M 65) := setA_at _ _ _
      have o1 : offR M (setA M 65 (rDraw (M 65))) := offR_set (offR_refl M) (by omega)
      have d2 : rDraw (M 65) 2 = M 65 2 := rfl
      have d0 : rDraw (M 65) 0 = M 65 0 := rfl
      refine q_happens hn hP (ρ := ρ) x0.1 (by rw [s65, d2]; exact rho_rf (rho_R o1 hρ)) (by rw [s65]; exact oka_draw h) (by rw [s65, d0]; exact h0) (fun M2 o2 e2 => ⟨by unfold inR; omega, ?_⟩)
      rw [s65] at e2
      have e2' : M2 65 = rHap ρ (M 65) := e2
      have ok := oka_hap h okr h0
      refine ih M2 (x3 + 1) ?_ ?_ ?_ (by omega) (by omega) hv (fun M' o' e' => ?_)
      · rw [e2']; exact ok.1
      · rw [e2', ok.2 2 (by omega) (by omega)]
        exact rho_R (offR_trans o1 o2) hρ
      · rw [e2', ok.2 0 (by omega) (by omega)]
        exact h0
      · rw [e2'] at e' ⊢
        exact H M' (offR_trans (offR_trans o1 o2) o') e'
  refine b_X10_decades hn hP (c_X10_isIn hn ⟨fun hz => H0 (fun z => bi_0.mp hz z.1), fun hz => c_X10_isIn hn ⟨fun hy => H0 (fun z => bi_0.mp hy z.2.1), fun hy => ⟨fun h0 => ?_, fun h0 => H0 (fun z => z.2.2 h0)⟩⟩⟩)
  have hs := bi_n0.mp hz
  have hv := bi_n0.mp hy
  refine c_X10_keep hn hP (oka_3 h) ⟨by unfold inR; omega, by unfold inR; omega, ?_⟩
  rw [x_upd_up2]
  have s65 : ∀ B : Int → Int, setA M 65 B 65 = B := fun B => setA_at _ _ _
  have k0 := oka_at h (j := 0) (by omega) (by omega)
  have k2 := oka_at h (j := 2) (by omega) (by omega)
  have o1 : offR M (setA M 65 (up (rKeep (M 65)) 12 (s * 2 + 107))) := offR_set (offR_refl M) (by omega)
  refine loop v.toNat _ 0 ?_ ?_ ?_ (by omega) (by omega) hv.2 (fun M' o' e' => ?_)
  · rw [s65]; exact oka_seed (oka_keep h) (by omega)
  · rw [s65, up_ne (by decide), k2]
    exact rho_R o1 hρ
  · rw [s65, up_ne (by decide), k0]
    omega
  · rw [s65] at e' ⊢
    exact H1 ⟨hs, hv, h0⟩ M' (offR_trans o1 o') e'
end Dec
