/-! class, then reference: what is asked of the state; image and back -/
section Ops4
variable {g : Option Nat} {d n : Nat} {P : xP} {M : xM} {F : xM → Int → Prop} {G : xM → Prop}
theorem op_ofCase (hn : 82 ≤ n) (hP : x_PP P) {c w : Int} (h : Rel M) : op2 n P Y_X9_ofCase Y_X10_ofCase (d + 100) [vI c, vI w] M := by
  have hm := h.1.2.2.2.1.1
  have a0 : M 65 0 = M 4 1 := h.1.1.1
  have hN : relN (M 65) (M 2) := h.1.2.2.1
  have no : ¬ ((0 ≤ c ∧ c < M 65 0) ∧ 0 ≤ w ∧ w ≤ 6) → xCI Y_X10_ofCase none (d + 100) [vR (some 64), vI c, vI w] n P M (fun M2 z2 => z2 = -1 ∧ Rel M2) := fun hz => c_X10_ofCase hn hP hm (fun _ => ⟨rfl, h⟩) (fun z => absurd z hz)
  have yes : ∀ v, ((0 ≤ c ∧ c < M 65 0) ∧ 0 ≤ w ∧ w ≤ 6) → M 65 (20 + 7 * c + w) = v → xCI Y_X10_ofCase none (d + 100) [vR (some 64), vI c, vI w] n P M (fun M2 z2 => z2 = v ∧ Rel M2) := fun v hz hv => c_X10_ofCase hn hP hm (fun z => absurd hz z) (fun _ => ⟨hv, h⟩)
  refine b_X9_ofCase hn hP (c_X5_has hn hP (x_rows4 hn hP) (by omega) ?_)
  rw [← a0]
  refine ⟨fun hz => ?_, fun hz => no (fun z => bi_0.mp hz z.1)⟩
  have hc := bi_n0.mp hz
  have sl := hN.2.1 c (by omega) (by omega)
  have rk := (h.1.2.2.2.1.2.2.2.1 c hc.1 hc.2).2
  have at4 : ∀ v, 0 ≤ v → v < 4 → w = v → xCI Y_X5_at none (d + 99) [vR (some 4), vI c, vI w] n P M (fun M2 z2 => xCI Y_X10_ofCase none (d + 100) [vR (some 64), vI c, vI w] n P M2 (fun M2 z => z = z2 ∧ Rel M2)) := fun v v0 v1 hw => c_X5_at hn hP (x_rows4 hn hP) (by omega) (by omega) (by omega) (yes _ ⟨hc, by omega⟩ (rk w (by omega) (by omega)))
  refine ⟨fun hw => no (by omega), fun hw => at4 0 (by omega) (by omega) hw, fun hw => at4 1 (by omega) (by omega) hw, fun hw => at4 2 (by omega) (by omega) hw, fun hw => at4 3 (by omega) (by omega) hw, fun hw => ⟨by unfold inR; omega, by omega, yes _ ⟨hc, by omega⟩ ?_⟩, fun hw => ⟨by unfold inR; omega, by omega, yes _ ⟨hc, by omega⟩ ?_⟩, fun hw => ⟨by unfold inR; omega, by omega, yes _ ⟨hc, by omega⟩ ?_⟩, trivial⟩
  · rw [← sl.1]; congr 1; omega
  · rw [← sl.2.1]; congr 1; omega
  · rw [← sl.2.2]; congr 1; omega
theorem op_is (hn : 82 ≤ n) (hP : x_PP P) {w : Int} (h : Rel M) : op2 n P Y_X9_is Y_X10_is (d + 100) [vI w] M := by
  have hN : relN (M 65) (M 2) := h.1.2.2.1
  refine b_X9_is hn hP (c_X9_within hn ⟨fun hz => c_X10_is hn hP (fun _ => ⟨rfl, h⟩) (fun z => absurd z (bi_0.mp hz)), fun hz => ?_⟩)
  have hw := bi_n0.mp hz
  exact ⟨by omega, c_X10_is hn hP (fun z => absurd hw z) (fun _ => ⟨hN.1 w hw.1 (by omega), h⟩)⟩
theorem c_X10_book2 (hn : 82 ≤ n) (hP : x_PP P) {i w : Int} (h : 0 ≤ M 65 17 ∧ M 65 17 < 30) (hb : ∀ k, 0 ≤ k → k < M 65 17 → (0 ≤ M 65 (1182 + 2 * k) ∧ M 65 (1182 + 2 * k) ≤ 1000000) ∧ (0 ≤ M 65 (1183 + 2 * k) ∧ M 65 (1183 + 2 * k) ≤ 1000000)) (Hn : i = -1 → F M (M 65 17)) (H0 : i ≠ -1 → ¬ (0 ≤ i ∧ i < M 65 17) → F M (-2))
    (H1 : (0 ≤ i ∧ i < M 65 17) → F M (if w = 0 then M 65 (1182 + 2 * i) / 8 else if w = 1 then M 65 (1182 + 2 * i) % 8 else if w = 2 then M 65 (1183 + 2 * i) / 1000 else if w = 3 then M 65 (1183 + 2 * i) % 1000 else -2)) : xCI Y_X10_book g (d + 1) [vR (some 64), vI i, vI w] n P M F := by
  refine b_X10_book hn hP ⟨fun hi => c_X10_shown hn hP h.2 ⟨by omega, c_X10_isIn hn ⟨fun h2 => ?_, fun h2 => H0 hi (fun z => bi_0.mp h2 (by omega))⟩⟩, fun hi => c_X10_shown hn hP h.2 (Hn hi)⟩
  have h3 := bi_n0.mp h2
  refine c_X10_shown hn hP h.2 ?_
  have e : (M 65 17 - M 65 17 + i).tmod 1230 = i := by
    rw [show M 65 17 - M 65 17 + i = i by omega, Int.tmod_eq_emod_of_nonneg (by omega)]
    omega
  rw [e]
  have b0 := (hb i (by omega) (by omega)).1
  have b1 := (hb i (by omega) (by omega)).2
  have H2 := H1 (by omega)
  have ex : (1182 + 2 * i + 1 : Int) = 1183 + 2 * i := by omega
  rw [ex, Int.tdiv_eq_ediv_of_nonneg b0.1, Int.tdiv_eq_ediv_of_nonneg b1.1, Int.tmod_eq_emod_of_nonneg b0.1, Int.tmod_eq_emod_of_nonneg b1.1]
  refine ⟨by omega, by omega, by omega, by omega, fun h4 => ?_, fun h4 => ⟨by omega, ?_, ?_⟩, fun h4 => ⟨by omega, ?_⟩, fun h4 => ⟨by omega, by omega, ?_, ?_⟩, fun h4 => ⟨by omega, by omega, ?_⟩, trivial⟩
  · rwa [if_neg (by omega), if_neg (by omega), if_neg (by omega), if_neg (by omega)] at H2
  · constructor <;> omega
  · subst h4; exact H2
  · subst h4; exact H2
  · constructor <;> omega
  · subst h4; exact H2
  · subst h4; exact H2
theorem op_book (hn : 82 ≤ n) (hP : x_PP P) {i w : Int} (h : Rel M) : op2 n P Y_X9_book Y_X10_book (d + 100) [vI i, vI w] M := by
  have hN : relN (M 65) (M 2) := h.1.2.2.1
  have h17 := inv_17 h.1.2.2.2.1
  have e9 : M 65 17 = M 2 9 := rel_at hN (by omega) rfl
  have en : ∀ k, 0 ≤ k → k < M 65 17 → _ := fun k k0 k1 => hN.2.2 k k0 (by omega) (by omega)
  have hb : ∀ k, 0 ≤ k → k < M 65 17 → (0 ≤ M 65 (1182 + 2 * k) ∧ M 65 (1182 + 2 * k) ≤ 1000000) ∧ (0 ≤ M 65 (1183 + 2 * k) ∧ M 65 (1183 + 2 * k) ≤ 1000000) := fun k k0 k1 => by
    have := en k k0 k1
    omega
  have no : i ≠ -1 → ¬ (0 ≤ i ∧ i < M 65 17) → xCI Y_X10_book none (d + 100) [vR (some 64), vI i, vI w] n P M (fun M2 z2 => z2 = -2 ∧ Rel M2) := fun hi hz => c_X10_book2 hn hP (by omega) hb (fun z => absurd z hi) (fun _ _ => ⟨rfl, h⟩) (fun z => absurd z hz)
  refine b_X9_book hn hP ⟨fun hi => ⟨by unfold inR; omega, c_X9_within hn ⟨fun hz => ?_, fun hz => no hi (fun z => bi_0.mp hz (by omega))⟩⟩, fun hi => ?_⟩
  · have hr := bi_n0.mp hz
    obtain ⟨q1, q2, q3⟩ := en i (by omega) (by omega)
    have yes : ∀ v, (if w = 0 then M 65 (1182 + 2 * i) / 8 else if w = 1 then M 65 (1182 + 2 * i) % 8 else if w = 2 then M 65 (1183 + 2 * i) / 1000 else if w = 3 then M 65 (1183 + 2 * i) % 1000 else -2) = v → xCI Y_X10_book none (d + 100) [vR (some 64), vI i, vI w] n P M (fun M2 z2 => z2 = v ∧ Rel M2) := fun v hv => c_X10_book2 hn hP (by omega) hb (fun z => absurd z hi) (fun _ z => absurd (by omega) z) (fun _ => ⟨hv, h⟩)
    have p0 : 0 ≤ M 2 (34 + i) := by omega
    have p1 : 0 ≤ M 2 (34 + i) / 2000 := by omega
    have p2 : 0 ≤ M 2 (34 + i) / 1000 := by omega
    rw [Int.tdiv_eq_ediv_of_nonneg p0, Int.tdiv_eq_ediv_of_nonneg p0, Int.tdiv_eq_ediv_of_nonneg p0, Int.tmod_eq_emod_of_nonneg p0, Int.tmod_eq_emod_of_nonneg p1, Int.tmod_eq_emod_of_nonneg p2]
    refine ⟨by unfold inR; omega, by omega, fun hw => yes _ ?_, fun hw => ⟨by unfold inR; omega, yes _ ?_⟩, fun hw => ⟨by unfold inR; omega, yes _ ?_⟩, fun hw => ⟨by unfold inR; omega, yes _ ?_⟩, fun hw => yes _ ?_, trivial⟩
    · rw [if_neg (by omega), if_neg (by omega), if_neg (by omega), if_neg (by omega)]
    · rw [if_pos hw]; omega
    · rw [if_neg (by omega), if_pos hw]; omega
    · rw [if_neg (by omega), if_neg (by omega), if_pos hw]; omega
    · rw [if_neg (by omega), if_neg (by omega), if_neg (by omega), if_pos hw]; omega
  · exact c_X10_book2 hn hP (by omega) hb (fun _ => ⟨e9, h⟩) (fun z => absurd hi z) (fun z => absurd hi (by omega))
theorem op_about (hn : 82 ≤ n) (hP : x_PP P) {w : Int} (h : Rel M) : op2 n P Y_X9_about Y_X10_about (d + 100) [vI w] M := by
  obtain ⟨p0, p1, p2, p3, p4, p5, p6⟩ := h.1.1
  have p7 := h.2.2.2.2.1.1
  refine b_X9_about hn hP ⟨fun hw => c_X10_about hn hP ?_, fun hw => c_X10_about hn hP ?_, fun hw => c_X10_about hn hP ?_, fun hw => c_X10_about hn hP ?_, fun hw => c_X10_about hn hP ?_, fun hw => c_X10_about hn hP ?_, fun hw => c_X10_about hn hP ?_, fun hw => c_X10_about hn hP ?_, fun hw => c_X10_about hn hP ?_, trivial⟩
  · rw [if_neg (by omega), if_neg (by omega), if_neg (by omega), if_neg (by omega), if_neg (by omega), if_neg (by omega), if_neg (by omega), if_neg (by omega)]
    exact ⟨rfl, h⟩
  · subst hw; exact ⟨p0, h⟩
  · subst hw; exact ⟨p1, h⟩
  · subst hw; exact ⟨p2, h⟩
  · subst hw; exact ⟨p3, h⟩
  · subst hw; exact ⟨p4, h⟩
  · subst hw; exact ⟨p5, h⟩
  · subst hw; exact ⟨p6, h⟩
  · subst hw; exact ⟨p7.symm, h⟩
theorem op_image (hn : 82 ≤ n) (hP : x_PP P) (h : Rel M) : op2 n P Y_X9_image Y_X10_image (d + 100) [] M := by
  refine b_X9_image hn hP (k_copy hn hP (x_court26 hn hP) (x_court1 hn hP) (Or.inr ⟨rfl, rfl⟩) (fun M1 e1 r1 => ?_))
  have e65 : M1 65 = M 65 := e1 65 (by omega)
  have e2 : M1 2 = M 2 := e1 2 (by omega)
  have e11 : M 65 11 = M 2 3 := rel_at h.1.2.2.1 (by omega) rfl
  refine c_X10_image hn hP ⟨by rw [e65, e2]; exact e11, ?_⟩
  have b65 : x_blk M1 66 0 3642 (M1 65) 65 = M 65 := by funext j; rw [x_blk_out (fun z => absurd z.1 (by decide)), e65]
  have bne : ∀ c, c ≠ 66 → ¬ (26 ≤ c ∧ c < 37) → x_blk M1 66 0 3642 (M1 65) c = M c := fun c h1 h2 => by
    funext j
    rw [x_blk_out (fun z => h1 z.1), e1 c (by omega)]
  have b66 : ∀ j, 0 ≤ j → j < 3642 → x_blk M1 66 0 3642 (M1 65) 66 j = M 65 j := fun j j0 j1 => by rw [x_blk_in j0 (by omega), e65]
  have bk : ∀ i, i < 11 → x_blk M1 66 0 3642 (M1 65) (26 + i) = M1 (26 + i) := fun i hi => by
    funext j
    exact x_blk_out (fun z => absurd z.1 (by omega))
  generalize x_blk M1 66 0 3642 (M1 65) = N at *
  obtain ⟨q1, q2, q3, q4, q5, q6⟩ := h
  have r := r1 _ q1
  have h14 := q1.2.1.1
  refine ⟨?_, ?_, ?_, fun τ t0 t1 => ?_, ?_, ?_⟩
  · rw [b65]
    exact relC_same q1 (fun c c0 c1 => bne c (by omega) (by omega))
  · have q : ∀ i, i < 11 → ∀ j, CK N i j = M1 (26 + i) j := fun i hi j => by
      show N (26 + i) j = M1 (26 + i) j
      rw [bk i hi]
    exact relC_of r b66 (q 0 (by omega) _) (q 0 (by omega) _) (q 0 (by omega) _) (q 0 (by omega) _) (fun j _ _ => q 1 (by omega) j) (fun j _ _ => q 2 (by omega) j) (q 3 (by omega) _) (fun j _ _ => q 4 (by omega) j) (q 5 (by omega) _) (fun j _ _ => q 6 (by omega) j) (q 7 (by omega) _) (fun j _ _ => q 8 (by omega) j) (q 9 (by omega) _) (fun j _ _ => q 10 (by omega) j)
  · rw [b65, b66 1 (by omega) (by omega)]
    exact Int.le_refl _
  · rw [b65] at t1
    obtain ⟨T, hT⟩ := q4 τ t0 t1
    exact ⟨T, txt_of ⟨t0, by omega⟩ (fun c c0 c1 => bne c (by omega) (by omega)) (bne 67 (by omega) (by omega)) hT⟩
  · unfold tpR at *
    rw [bne 37 (by omega) (by omega), bne 38 (by omega) (by omega), bne 64 (by omega) (by omega), bne 68 (by omega) (by omega)]
    exact q5
  · rw [bne 0 (by omega) (by omega), bne 64 (by omega) (by omega)]
    exact q6
theorem op_back (hn : 82 ≤ n) (hP : x_PP P) (h : Rel M) : op2 n P Y_X9_back Y_X10_back (d + 100) [] M := by
  refine b_X9_back hn hP (k_copy hn hP (x_court1 hn hP) (x_court26 hn hP) (Or.inl ⟨rfl, rfl⟩) (fun M1 e1 r1 => ?_))
  have e66 : M1 66 = M 66 := e1 66 (by omega)
  obtain ⟨q1, q2, q3, q4, q5, q6⟩ := h
  have r : relC (M 66) (CC M1) := r1 _ q2
  have e11 : M 66 11 = M1 2 3 := rel_at r.2.2.1 (by omega) rfl
  refine c_X10_back hn hP ⟨by rw [e66]; exact e11, ?_⟩
  have bne : ∀ c, c ≠ 65 → ¬ (1 ≤ c ∧ c < 12) → x_blk M1 65 0 3642 (M1 66) c = M c := fun c h1 h2 => by
    funext j
    rw [x_blk_out (fun z => h1 z.1), e1 c (by omega)]
  have b65 : ∀ j, 0 ≤ j → j < 3642 → x_blk M1 65 0 3642 (M1 66) 65 j = M 66 j := fun j j0 j1 => by rw [x_blk_in j0 (by omega), e66]
  have bk : ∀ i, i < 11 → x_blk M1 65 0 3642 (M1 66) (1 + i) = M1 (1 + i) := fun i hi => by
    funext j
    exact x_blk_out (fun z => absurd z.1 (by omega))
  generalize x_blk M1 65 0 3642 (M1 66) = N at *
  have h14 := q1.2.1.1
  refine ⟨?_, ?_, ?_, fun τ t0 t1 => ?_, ?_, ?_⟩
  · have q : ∀ i, i < 11 → ∀ j, CC N i j = CC M1 i j := fun i hi j => by
      show N (1 + i) j = M1 (1 + i) j
      rw [bk i hi]
    exact relC_of r b65 (q 0 (by omega) _) (q 0 (by omega) _) (q 0 (by omega) _) (q 0 (by omega) _) (fun j _ _ => q 1 (by omega) j) (fun j _ _ => q 2 (by omega) j) (q 3 (by omega) _) (fun j _ _ => q 4 (by omega) j) (q 5 (by omega) _) (fun j _ _ => q 6 (by omega) j) (q 7 (by omega) _) (fun j _ _ => q 8 (by omega) j) (q 9 (by omega) _) (fun j _ _ => q 10 (by omega) j)
  · rw [bne 66 (by omega) (by omega)]
    have q : ∀ i, i < 11 → ∀ j, CK N i j = CK M i j := fun i hi j => by
      show N (26 + i) j = M (26 + i) j
      rw [bne (26 + i) (by omega) (by omega)]
    exact relC_of q2 (fun _ _ _ => rfl) (q 0 (by omega) _) (q 0 (by omega) _) (q 0 (by omega) _) (q 0 (by omega) _) (fun j _ _ => q 1 (by omega) j) (fun j _ _ => q 2 (by omega) j) (q 3 (by omega) _) (fun j _ _ => q 4 (by omega) j) (q 5 (by omega) _) (fun j _ _ => q 6 (by omega) j) (q 7 (by omega) _) (fun j _ _ => q 8 (by omega) j) (q 9 (by omega) _) (fun j _ _ => q 10 (by omega) j)
  · rw [bne 66 (by omega) (by omega), b65 1 (by omega) (by omega)]
    exact Int.le_refl _
  · rw [b65 1 (by omega) (by omega)] at t1
    obtain ⟨T, hT⟩ := q4 τ t0 (by omega)
    exact ⟨T, txt_of ⟨t0, by omega⟩ (fun c c0 c1 => bne c (by omega) (by omega)) (bne 67 (by omega) (by omega)) hT⟩
  · unfold tpR at *
    rw [bne 37 (by omega) (by omega), bne 38 (by omega) (by omega), bne 64 (by omega) (by omega), bne 68 (by omega) (by omega)]
    exact q5
  · rw [bne 0 (by omega) (by omega), bne 64 (by omega) (by omega)]
    exact q6
end Ops4
