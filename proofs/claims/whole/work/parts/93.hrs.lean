/-! hours: class and reference by the same pure steps -/
def oka (A : Int → Int) : Prop := ∃ C, relC A C
def kC (C : xCt) : xCt := fun i => if i = 2 then (fun j => if 64 * C 0 3 ≤ j ∧ j < 64 * C 0 3 + 64 then C 1 (j - 64 * C 0 3) else C 2 j) else if i = 0 then up (up (C 0) 3 ((C 0 3 + 1) % 30)) 2 (if 30 ≤ C 0 2 then C 0 2 else C 0 2 + 1) else C i
def nC (C : xCt) (N : Int → Int) : xCt := fun i => if i = 1 then N else C i
theorem oka_keep {A : Int → Int} (h : oka A) : oka (rKeep A) := by
  obtain ⟨C, h⟩ := h
  exact ⟨kC C, relC_keep h rfl rfl rfl rfl (fun j => rfl) (fun i i0 i2 => by unfold kC; rw [if_neg i2, if_neg i0])⟩
theorem relC_n {A A' : Int → Int} {C : xCt} {N : Int → Int} (h : relC A C) (hf : frm A A') (hN : relN A' N) (hI : inv A' (C 4) (A 0)) : relC A' (nC C N) := relC_frm h hf hN hI (fun i hi => if_neg hi)
def rStep (ρ : Option xTx) (A : Int → Int) : Int → Int := rHour ρ (rKeep A)
def rHrs (ρ : Option xTx) : Nat → (Int → Int) → (Int → Int)
  | 0, A => A
  | k + 1, A => rHrs ρ k (rStep ρ A)
def rCnt (ρ : Option xTx) : Nat → (Int → Int) → Int
  | 0, _ => 0
  | k + 1, A => bi (rEnd (rKeep A)) + rCnt ρ k (rStep ρ A)
theorem oka_hour {A : Int → Int} (h : oka A) {ρ : Option xTx} (hR : okR ρ) (h11 : A 11 < 9999) : oka (rHour ρ A) := by
  obtain ⟨C, h⟩ := h
  have q := hour_rel h.2.2.2.1 h.2.2.1 hR h11
  exact ⟨nC C (cHour ρ (C 4) (C 1)), relC_n h (frm_hour h.2.2.2.1 ρ) q.1 q.2⟩
theorem oka_3 {A : Int → Int} (h : oka A) : 0 ≤ A 3 ∧ A 3 ≤ 30 := by
  obtain ⟨C, h⟩ := h
  exact h.2.1.2.2.1
theorem oka_at {A : Int → Int} (h : oka A) {j : Int} (h1 : j < 132) (h2 : j ≠ 3) : rKeep A j = A j := rKeep_lo (oka_3 h) h1 h2
theorem oka_inv {A : Int → Int} (h : oka A) : ∃ K, inv A K (A 0) := by
  obtain ⟨C, h⟩ := h
  exact ⟨C 4, h.2.2.2.1⟩
theorem hour_11 {A : Int → Int} (h : oka A) (ρ : Option xTx) : rHour ρ A 11 = A 11 + 1 := by
  obtain ⟨C, h⟩ := h
  have q := (mid_rel h.2.2.2.1 h.2.2.1 ρ).2.2.1
  unfold rHour rTurn
  rw [up_ne (by decide), up_ne (by decide), up_ne (by decide), up_at]
  show rMid ρ A 11 + 1 = A 11 + 1
  rw [q]
theorem hour_lo {A : Int → Int} (h : oka A) (ρ : Option xTx) {j : Int} (hj : 0 ≤ j ∧ j < 8) : rHour ρ A j = A j := by
  obtain ⟨C, h⟩ := h
  exact frm_2 (frm_hour h.2.2.2.1 ρ) hj
theorem oka_step {A : Int → Int} (h : oka A) {ρ : Option xTx} (hR : okR ρ) (h11 : A 11 < 9999) : oka (rStep ρ A) := oka_hour (oka_keep h) hR (by rw [oka_at h (by decide) (by decide)]; exact h11)
theorem step_11 {A : Int → Int} (h : oka A) (ρ : Option xTx) : rStep ρ A 11 = A 11 + 1 := by
  unfold rStep
  rw [hour_11 (oka_keep h), oka_at h (by decide) (by decide)]
theorem step_lo {A : Int → Int} (h : oka A) (ρ : Option xTx) {j : Int} (hj : 0 ≤ j ∧ j < 3) : rStep ρ A j = A j := by
  unfold rStep
  rw [hour_lo (oka_keep h) ρ (by omega), oka_at h (by omega) (by omega)]
theorem hrs_ok {ρ : Option xTx} (hR : okR ρ) : ∀ (k : Nat) {A : Int → Int}, oka A → A 11 + k ≤ 9999 → oka (rHrs ρ k A) ∧ rHrs ρ k A 11 = A 11 + k ∧ ∀ j, 0 ≤ j → j < 3 → rHrs ρ k A j = A j
  | 0, A, h, _ => ⟨h, by show A 11 = A 11 + ((0 : Nat) : Int); omega, fun _ _ _ => rfl⟩
  | k + 1, A, h, h11 => by
    have q := hrs_ok hR k (oka_step h hR (by omega)) (by rw [step_11 h]; omega)
    refine ⟨q.1, ?_, fun j j0 j1 => ?_⟩
    · show rHrs ρ k (rStep ρ A) 11 = _
      rw [q.2.1, step_11 h]
      omega
    · show rHrs ρ k (rStep ρ A) j = _
      rw [q.2.2 j j0 j1, step_lo h ρ ⟨j0, j1⟩]
theorem rCnt_r (ρ : Option xTx) : ∀ (k : Nat) (A : Int → Int), 0 ≤ rCnt ρ k A ∧ rCnt ρ k A ≤ k
  | 0, A => ⟨Int.le_refl _, Int.le_refl _⟩
  | k + 1, A => by
    have q := rCnt_r ρ k (rStep ρ A)
    have b := bi_or (rEnd (rKeep A))
    show 0 ≤ bi (rEnd (rKeep A)) + rCnt ρ k (rStep ρ A) ∧ bi (rEnd (rKeep A)) + rCnt ρ k (rStep ρ A) ≤ _
    omega
section Hrs
variable {g : Option Nat} {d n : Nat} {P : xP} {M : xM} {F : xM → Int → Prop} {G : xM → Prop}
theorem k_hourC (hn : 82 ≤ n) (hP : x_PP P) {A : Int → Int} {o : Option Nat} {ρ : Option xTx} (h : relC A (CC M)) (hR : clR n P M o ρ) (h11 : A 11 < 9999) (H : ∀ M', offC M M' → relC (rHour ρ A) (CC M') → F M' (bi (rEnd A))) : xCI Y_X0_passHour none (d + 4) [vR (some 1), vR (some 12), vR o] n P M F := by
  have hN : relN A (M 2) := h.2.2.1
  have hI : inv A (M 5) (M 4 1) := by
    have q := h.2.2.2.1
    have e : A 0 = M 4 1 := h.1.1
    rw [e] at q
    exact q
  have e : Lw (setA M 2 (M 2)) (M 13) (M 14) (M 12 1) = M := by rw [setA_self, Lw_self]
  have eb : bi (rEnd A) = bi (cEnd (M 5) (M 2)) := bi_congr (end_iff hI hN)
  have := k_passHour (d := d) (F := F) (nm := M 13) (st := M 14) (fs := M 12 1) hn hP hR hI hN (fun nm' st' fs' => by
    rw [← eb]
    refine H _ (offC_Lw (offC_set (offC_refl M) (by omega))) ?_
    have q := hour_rel hI hN (clR_ok hR) h11
    have r := relC_set (N := cHour ρ (M 5) (M 2)) h (frm_hour hI ρ) q.1 (by have e : A 0 = M 4 1 := h.1.1; rw [e]; exact q.2)
    exact relC_same r (fun c c0 c1 => Lw_ne (by omega) (by omega) (by omega)))
  rw [e] at this
  exact this
theorem k_passHours (hn : 82 ≤ n) (hP : x_PP P) {A : Int → Int} {ρ : Option xTx} {v : Int} (h : relC A (CC M)) (hρ : rho M (A 2) ρ) (hv : v ≤ 60 ∧ A 11 + v ≤ 9999) (H : ∀ M', offC M M' → relC (rHrs ρ v.toNat A) (CC M') → F M' (rCnt ρ v.toNat A)) : xCI Y_X9_passHours none (d + 5) [vR (some 0), vI v] n P M F := by
  have loop : ∀ (k : Nat) (A : Int → Int) (M : xM) (x2 x3 : Int), relC A (CC M) → rho M (A 2) ρ → 0 ≤ x2 ∧ x2 ≤ x3 → (x3 + k = v ∨ (k = 0 ∧ v ≤ x3)) → A 11 + k ≤ 9999 → (∀ M', offC M M' → relC (rHrs ρ k A) (CC M') → F M' (x2 + rCnt ρ k A)) → xW Y_X9_passHours none (d + 5) 0 0 4 [(0, vR (some 0)), (1, vI v), (2, vI x2), (3, vI x3)] [] (0, 0) (n, P, M) (kI n P F) := by
    intro k
    induction k with
    | zero =>
      intro A M x2 x3 h hρ h2 hk h11 H
      refine b_X9_passHours_4 hn hP ⟨fun _ => ?_, fun z => absurd z (by omega)⟩
      have := H M (offC_refl M) h
      rw [show x2 + rCnt ρ 0 A = x2 from Int.add_zero _] at this
      exact this
    | succ k ih =>
      intro A M x2 x3 h hρ h2 hk h11 H
      refine b_X9_passHours_4 hn hP ⟨fun z => absurd z (by omega), fun _ => ⟨fun z => absurd z (by omega), fun _ => ?_⟩⟩
      have ok : oka A := ⟨_, h⟩
      refine k_keep hn hP h (fun M1 o1 h1 => ?_)
      have k2 : rKeep A 2 = A 2 := oka_at ok (by decide) (by decide)
      have k11 : rKeep A 11 = A 11 := oka_at ok (by decide) (by decide)
      have hρ1 : rho M1 (rKeep A 2) ρ := by rw [k2]; exact rho_C o1 hρ
      refine k_ruling hn hP h1 hρ1 (fun o ho => k_hourC hn hP h1 ho (by omega) (fun M2 o2 h2' => ?_))
      have o12 := offC_trans o1 o2
      have next : ∀ b, b = bi (rEnd (rKeep A)) → xW Y_X9_passHours none (d + 5) 0 0 43 [(0, vR (some 0)), (1, vI v), (2, vI (x2 + b)), (3, vI x3)] [] (0, 0) (n, P, M2) (kI n P F) := by
        intro b hb
        have bo := bi_or (rEnd (rKeep A))
        refine b_X9_passHours_43 hn hP ⟨by unfold inR; omega, ih (rStep ρ A) M2 (x2 + b) (x3 + 1) h2' ?_ (by omega) (by omega) (by rw [step_11 ok]; omega) (fun M' o' r' => ?_)⟩
        · rw [step_lo ok ρ (by omega)]
          exact rho_C o12 hρ
        · have := H M' (offC_trans o12 o') r'
          rw [show x2 + rCnt ρ (k + 1) A = x2 + b + rCnt ρ k (rStep ρ A) by
            show x2 + (bi (rEnd (rKeep A)) + rCnt ρ k (rStep ρ A)) = _
            rw [hb]
            omega] at this
          exact this
      refine ⟨fun hz => ?_, fun hz => ⟨by unfold inR; omega, ?_⟩⟩
      · have := next 0 hz.symm
        rw [Int.add_zero] at this
        exact this
      · exact next 1 (by have := bi_or (rEnd (rKeep A)); omega)
  have r11 := h.2.2.2.1.2.1.2.2.2.1
  refine b_X9_passHours hn hP (loop v.toNat A M 0 0 h hρ (by omega) (by omega) (by omega) (fun M' o' r' => ?_))
  rw [Int.zero_add]
  exact H M' o' r'
theorem k_hour (hn : 82 ≤ n) (hP : x_PP P) {A : Int → Int} {ρ : Option xTx} {v : Int} (h : relC A (CC M)) (hρ : rho M (A 2) ρ) (H0 : ¬ ((1 ≤ v ∧ v ≤ 60) ∧ A 11 + v ≤ 9999) → F M (-1)) (H1 : (1 ≤ v ∧ v ≤ 60) ∧ A 11 + v ≤ 9999 → ∀ M', offC M M' → relC (rHrs ρ v.toNat A) (CC M') → F M' (rCnt ρ v.toNat A)) : xCI Y_X9_hour none (d + 6) [vR (some 0), vI v] n P M F := by
  have hN : relN A (M 2) := h.2.2.1
  have e11 : A 11 = M 2 3 := rel_at hN (by omega) rfl
  have r11 := h.2.2.2.1.2.1.2.2.2.1
  refine b_X9_hour hn hP (c_X9_within hn ⟨fun hz => H0 (fun z => bi_0.mp hz z.1), fun hz => c_X0_hoursLeft hn hP (by omega) ⟨fun hl => ?_, fun hl => H0 (fun z => by omega)⟩⟩)
  have hv := bi_n0.mp hz
  exact k_passHours hn hP h hρ (by omega) (H1 (by omega))
end Hrs
