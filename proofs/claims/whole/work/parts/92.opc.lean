/-! the calls that change what is: the class's, by the reference's pure steps -/
def frm (A A' : Int → Int) : Prop := (∀ j, 0 ≤ j → j < 8 ∨ ((20 ≤ j ∧ j < 76) ∧ (j - 20) % 7 < 4) ∨ (76 ≤ j ∧ j < 1182) ∨ (1182 ≤ j ∧ j < 1182 + 2 * A 17) → A' j = A j) ∧ A 17 ≤ A' 17
theorem frm_refl (A : Int → Int) : frm A A := ⟨fun _ _ _ => rfl, Int.le_refl _⟩
theorem frm_trans {A A' A'' : Int → Int} (h : frm A A') (h' : frm A' A'') : frm A A'' := ⟨fun j j0 hj => (h'.1 j j0 (by have := h.2; omega)).trans (h.1 j j0 hj), Int.le_trans h.2 h'.2⟩
theorem frm_up {A : Int → Int} {i v : Int} (hi : (8 ≤ i ∧ i < 17) ∨ ((20 ≤ i ∧ i < 76) ∧ 4 ≤ (i - 20) % 7)) : frm A (up A i v) := ⟨fun j j0 hj => up_ne (by omega), by rw [up_ne (by omega)]; exact Int.le_refl _⟩
theorem frm_call {A : Int → Int} {c : Int} (hc : 0 ≤ c ∧ c < 8) : frm A (rCall A c) := by
  rw [rCall_up]
  exact frm_trans (frm_up (by omega)) (frm_up (by omega))
theorem frm_appeal {A : Int → Int} {c : Int} (hc : 0 ≤ c ∧ c < 8) : frm A (rAppeal A c) := by
  rw [rAppeal_up]
  exact frm_trans (frm_trans (frm_up (by omega)) (frm_up (by omega))) (frm_up (by omega))
theorem frm_leave {A : Int → Int} {w s : Int} (hc : 0 ≤ A 13 ∧ A 13 < 8) : frm A (rLeave A w s) := by
  refine ⟨fun j j0 hj => ?_, ?_⟩
  · unfold rLeave
    rw [if_neg (by omega), if_neg (by omega), if_neg (by omega), if_neg (by omega)]
  · rw [rLeave_lo hc.1 (Or.inr rfl)]
    exact Int.le_refl _
theorem frm_heard (A : Int → Int) : frm A (rHeard A) := frm_trans (frm_up (i := 14) (by omega)) (frm_up (i := 15) (by omega))
theorem frm_book {A : Int → Int} {c w s : Int} (h17 : 0 ≤ A 17) : frm A (rBook A c w s) := by
  refine ⟨fun j j0 hj => ?_, ?_⟩
  · unfold rBook
    rw [up_ne (by omega), up_ne (by omega), up_ne (by omega)]
  · unfold rBook
    rw [up_at]
    omega
theorem frm_turn (ρ : Option xTx) (A : Int → Int) (x : Int) : frm A (rTurn ρ A x) := frm_trans (frm_trans (frm_trans (frm_up (by omega)) (frm_up (by omega))) (frm_up (by omega))) (frm_up (by omega))
theorem frm_draw (A : Int → Int) : frm A (rDraw A) := frm_up (by omega)
theorem frm_hour {A K : Int → Int} {m : Int} (h : inv A K m) (ρ : Option xTx) : frm A (rHour ρ A) := by
  have h17 := inv_17 h
  have hm := h.1
  have hco := h.2.2.2.2.1
  have mid : frm A (rMid ρ A) := by
    unfold rMid
    by_cases he : rEnd A
    · rw [if_pos he]
      have c1 : 0 ≤ A 13 ∧ A 13 < 8 := by
        rcases hco with ⟨hc1, _⟩ | ⟨c1, _, _⟩
        · exact absurd hc1 he.1
        · omega
      have h13 : ∀ w s, rBook (rHeard A) (A 13) w s 13 = A 13 := fun w s => by
        rw [rBook_lo (by rw [rHeard_ne (by decide) (by decide)]; omega) (by decide) (by decide), rHeard_ne (by decide) (by decide)]
      have hb : ∀ w s, frm A (rBook (rHeard A) (A 13) w s) := fun w s => frm_trans (frm_heard A) (frm_book (by rw [rHeard_ne (by decide) (by decide)]; omega))
      by_cases hf : rFd ρ (rHeard A) (A 13)
      · rw [if_pos hf]
        exact frm_trans (hb _ _) (frm_leave (by rw [h13]; exact c1))
      · rw [if_neg hf]
        exact frm_trans (hb _ _) (frm_leave (by rw [h13]; exact c1))
    · rw [if_neg he]
      by_cases hc : A 13 = -1
      · rw [if_pos hc]; exact frm_refl A
      · rw [if_neg hc]; exact frm_heard A
  exact frm_trans (frm_trans mid (frm_draw _)) (frm_turn _ _ _)
theorem relC_frm {A A' : Int → Int} {C C' : xCt} (h : relC A C) (hf : frm A A') (hN : relN A' (C' 1)) (hI : inv A' (C 4) (A 0)) (eC : ∀ i, i ≠ 1 → C' i = C i) : relC A' C' :=
  relC_now h (fun j j0 j1 => hf.1 j j0 (by omega)) (fun j j0 j1 j2 => hf.1 j (by omega) (by omega)) (fun j j0 j1 => hf.1 j (by omega) (by omega)) (fun j j0 j1 => hf.1 j (by omega) (by omega)) hf.2 hN hI eC
theorem frm_2 {A A' : Int → Int} (h : frm A A') {j : Int} (hj : 0 ≤ j ∧ j < 8) : A' j = A j := h.1 j hj.1 (Or.inl hj.2)
theorem keep_at {A : Int → Int} {C : xCt} (h : relC A C) {j : Int} (h1 : j < 132) (h2 : j ≠ 3) : rKeep A j = A j := rKeep_lo h.2.1.2.2.1 h1 h2
theorem cKeep_c {M : xM} {c : Nat} (h1 : c ≠ 1) (h3 : c ≠ 3) : cKeep M c = M c := by
  funext j
  unfold cKeep
  rw [x_upd_nb h1, x_upd_nb h1]
  exact if_neg (fun z => h3 z.1)
theorem offC_keep (M : xM) : offC M (cKeep M) := fun c h1 h2 => cKeep_c (by omega) (by omega)
theorem relC_cKeep {A : Int → Int} {M : xM} (h : relC A (CC M)) : relC (rKeep A) (CC (cKeep M)) := by
  have e1 : ∀ j, x_cpy M 2 3 0 (M 1 3 * 64) 64 1 j = M 1 j := fun j => if_neg (fun z => absurd z.1 (by decide))
  refine relC_keep h ?_ ?_ ?_ ?_ (fun j => ?_) (fun i i0 i2 => ?_)
  · show cKeep M 1 2 = if 30 ≤ M 1 2 then M 1 2 else M 1 2 + 1
    unfold cKeep
    rw [x_upd_at]
  · show cKeep M 1 3 = (M 1 3 + 1) % 30
    unfold cKeep
    rw [x_upd_nj (by decide), x_upd_at]
  · show cKeep M 1 8 = M 1 8
    unfold cKeep
    rw [x_upd_nj (by decide), x_upd_nj (by decide), e1]
  · show cKeep M 1 9 = M 1 9
    unfold cKeep
    rw [x_upd_nj (by decide), x_upd_nj (by decide), e1]
  · show cKeep M 3 j = if 64 * M 1 3 ≤ j ∧ j < 64 * M 1 3 + 64 then M 2 (j - 64 * M 1 3) else M 3 j
    unfold cKeep x_cpy
    rw [x_upd_nb (by decide), x_upd_nb (by decide)]
    by_cases hj : 64 * M 1 3 ≤ j ∧ j < 64 * M 1 3 + 64
    · rw [if_pos hj, if_pos ⟨rfl, by omega, by omega⟩]
      congr 1
      omega
    · rw [if_neg hj, if_neg (by omega)]
  · exact cKeep_c (c := 1 + i) (by omega) (by omega)
section OpC
variable {d n : Nat} {P : xP} {M : xM} {F : xM → Int → Prop} {G : xM → Prop}
theorem k_keep (hn : 82 ≤ n) (hP : x_PP P) {A : Int → Int} (h : relC A (CC M)) (H : ∀ M', offC M M' → relC (rKeep A) (CC M') → G M') : xCV Y_X0_keepStep none (d + 1) [vR (some 1)] n P M G := by
  have e2 : A 3 = M 1 2 := h.1.2.2.2.1
  have r := h.2.1
  exact c_X0_keepStep hn hP r.2.2.2.1 (by have := r.2.2.1; omega) (H _ (offC_keep M) (relC_cKeep h))
/-- the cell 'now' set anew -/
theorem relC_set {A A' : Int → Int} {M : xM} {N : Int → Int} (h : relC A (CC M)) (hf : frm A A') (hN : relN A' N) (hI : inv A' (M 5) (A 0)) : relC A' (CC (setA M 2 N)) := by
  refine relC_frm h hf ?_ hI (fun i hi => ?_)
  · show relN A' (setA M 2 N 2)
    rw [setA_at]
    exact hN
  · exact setA_ne (by omega)
theorem k_call (hn : 82 ≤ n) (hP : x_PP P) {A : Int → Int} {c : Int} (h : relC A (CC M)) (H0 : ¬ (((0 ≤ c ∧ c < A 0) ∧ A (24 + 7 * c) = 0) ∧ A 13 = -1) → F M 0) (H1 : (((0 ≤ c ∧ c < A 0) ∧ A (24 + 7 * c) = 0) ∧ A 13 = -1) → ∀ M', offC M M' → relC (rCall (rKeep A) c) (CC M') → F M' 1) : xCI Y_X9_call none (d + 3) [vR (some 0), vI c] n P M F := by
  have a0 : A 0 = M 4 1 := h.1.1
  have hm := h.2.2.2.1.1
  have hN : relN A (M 2) := h.2.2.1
  have e13 : A 13 = M 2 5 := rel_at hN (by omega) rfl
  have cond : (((0 ≤ c ∧ c < M 4 1) ∧ M 2 (10 + c) = 0) ∧ M 2 5 = -1) ↔ (((0 ≤ c ∧ c < A 0) ∧ A (24 + 7 * c) = 0) ∧ A 13 = -1) := by
    rw [a0, e13]
    refine ⟨fun z => ⟨⟨z.1.1, ?_⟩, z.2⟩, fun z => ⟨⟨z.1.1, ?_⟩, z.2⟩⟩
    · rw [(hN.2.1 c (by omega) (by omega)).1]; exact z.1.2
    · rw [← (hN.2.1 c (by omega) (by omega)).1]; exact z.1.2
  refine b_X9_call hn hP (c_X0_canBring hn hP (by omega) ⟨fun hz => ?_, fun hz => H0 (fun z => bi_0.mp hz (cond.mpr z))⟩)
  have hc := cond.mp (bi_n0.mp hz)
  refine k_keep hn hP h (fun M1 o1 h1 => ?_)
  have b0 : rKeep A 0 = M1 4 1 := h1.1.1
  have k0 := keep_at h (j := 0) (by omega) (by omega)
  have hN1 : relN (rKeep A) (M1 2) := h1.2.2.1
  refine c_X0_bring hn hP (by omega) (by omega) ?_
  rw [x_upd_up M1, x_upd_up2]
  refine H1 hc _ (offC_set o1 (by omega)) ?_
  exact relC_set h1 (frm_call (by omega)) (rel_call hN1 (by omega)) (inv_call h1.2.2.2.1 (by rw [keep_at h (by omega) (by omega)]; exact hc.2) (by omega) (by rw [keep_at h (by omega) (by omega)]; exact hc.1.2))
theorem k_delay (hn : 82 ≤ n) (hP : x_PP P) {A : Int → Int} (h : relC A (CC M)) (H0 : ¬ (A 13 ≠ -1 ∧ A 16 < 3) → F M (-1)) (H1 : (A 13 ≠ -1 ∧ A 16 < 3) → ∀ M', offC M M' → relC (up (rKeep A) 16 (A 16 + 1)) (CC M') → F M' (A 16 + 1)) : xCI Y_X9_delay none (d + 2) [vR (some 0)] n P M F := by
  have hN : relN A (M 2) := h.2.2.1
  have e13 : A 13 = M 2 5 := rel_at hN (by omega) rfl
  have e16 : A 16 = M 2 8 := rel_at hN (by omega) rfl
  refine b_X9_delay hn hP (c_X0_canPutOff hn hP ⟨fun hz => ?_, fun hz => H0 (fun z => bi_0.mp hz (by rw [← e13, ← e16]; exact z))⟩)
  have hc := bi_n0.mp hz
  rw [← e13, ← e16] at hc
  refine k_keep hn hP h (fun M1 o1 h1 => ?_)
  have hN1 : relN (rKeep A) (M1 2) := h1.2.2.1
  have k16 := keep_at h (j := 16) (by omega) (by omega)
  have k13 := keep_at h (j := 13) (by omega) (by omega)
  have e16' : rKeep A 16 = M1 2 8 := rel_at hN1 (by omega) rfl
  have hI := h1.2.2.2.1
  have g16 := hI.2.1.2.2.2.2.2.2.2.1
  refine c_X0_putOff hn hP (by omega) ?_
  rw [x_upd_up M1, setA_at, up_at, ← e16', k16]
  refine H1 hc _ (offC_set o1 (by omega)) ?_
  have q := rel_delay hN1
  have q2 := inv_delay hI (by rw [k13]; exact hc.1) (by rw [k16]; exact hc.2)
  rw [k16] at q q2
  rw [← e16', k16] at q
  exact relC_set h1 (frm_up (by omega)) q q2
theorem k_appeal (hn : 82 ≤ n) (hP : x_PP P) {A : Int → Int} {c : Int} (h : relC A (CC M)) (H0 : ¬ ((0 ≤ c ∧ c < A 0) ∧ A (24 + 7 * c) = 3 ∧ A (26 + 7 * c) = 0) → F M 0) (H1 : ((0 ≤ c ∧ c < A 0) ∧ A (24 + 7 * c) = 3 ∧ A (26 + 7 * c) = 0) → ∀ M', offC M M' → relC (rAppeal (rKeep A) c) (CC M') → F M' 1) : xCI Y_X9_appeal none (d + 2) [vR (some 0), vI c] n P M F := by
  have a0 : A 0 = M 4 1 := h.1.1
  have hm := h.2.2.2.1.1
  have hN : relN A (M 2) := h.2.2.1
  have cond : ((0 ≤ c ∧ c < M 4 1) ∧ M 2 (10 + c) = 3 ∧ M 2 (26 + c) = 0) ↔ ((0 ≤ c ∧ c < A 0) ∧ A (24 + 7 * c) = 3 ∧ A (26 + 7 * c) = 0) := by
    rw [a0]
    refine ⟨fun z => ⟨z.1, ?_⟩, fun z => ⟨z.1, ?_⟩⟩
    · rw [(hN.2.1 c (by omega) (by omega)).1, (hN.2.1 c (by omega) (by omega)).2.2]; exact z.2
    · rw [← (hN.2.1 c (by omega) (by omega)).1, ← (hN.2.1 c (by omega) (by omega)).2.2]; exact z.2
  refine b_X9_appeal hn hP (c_X0_canReopen hn hP (by omega) ⟨fun hz => ?_, fun hz => H0 (fun z => bi_0.mp hz (cond.mpr z))⟩)
  have hc := cond.mp (bi_n0.mp hz)
  refine k_keep hn hP h (fun M1 o1 h1 => ?_)
  have b0 : rKeep A 0 = M1 4 1 := h1.1.1
  have k0 := keep_at h (j := 0) (by omega) (by omega)
  have hN1 : relN (rKeep A) (M1 2) := h1.2.2.1
  refine c_X0_reopen hn hP (by omega) (by omega) ?_
  rw [x_upd_up M1, x_upd_up2, x_upd_up2]
  refine H1 hc _ (offC_set o1 (by omega)) ?_
  exact relC_set h1 (frm_appeal (by omega)) (rel_appeal hN1 (by omega)) (inv_appeal h1.2.2.2.1 (by omega) (by rw [keep_at h (by omega) (by omega)]; exact hc.2.1) (by rw [keep_at h (by omega) (by omega)]; exact hc.2.2))
theorem k_gust (hn : 82 ≤ n) (hP : x_PP P) {A : Int → Int} {q f : Int} (h : relC A (CC M)) (H0 : ¬ ((0 ≤ q ∧ q ≤ 3) ∧ (0 ≤ f ∧ f ≤ 9) ∧ ¬ (A 8 = q ∧ A 9 = f)) → F M 0)
    (H1 : ((0 ≤ q ∧ q ≤ 3) ∧ (0 ≤ f ∧ f ≤ 9) ∧ ¬ (A 8 = q ∧ A 9 = f)) → ∀ M', offC M M' → relC (up (up (rKeep A) 8 q) 9 f) (CC M') → F M' 1) : xCI Y_X9_gust none (d + 2) [vR (some 0), vI q, vI f] n P M F := by
  have hN : relN A (M 2) := h.2.2.1
  have e8 : A 8 = M 2 0 := rel_at hN (by omega) rfl
  have e9 : A 9 = M 2 1 := rel_at hN (by omega) rfl
  have go : ((0 ≤ q ∧ q ≤ 3) ∧ (0 ≤ f ∧ f ≤ 9) ∧ ¬ (A 8 = q ∧ A 9 = f)) → xW Y_X9_gust none (d + 2) 0 0 57 [(0, vR (some 0)), (1, vI q), (2, vI f)] [] (0, 0) (n, P, M) (kI n P F) := fun hc => by
    refine b_X9_gust_57 hn hP (k_keep hn hP h (fun M1 o1 h1 => ?_))
    rw [x_upd_up M1, x_upd_up2]
    exact H1 hc _ (offC_set o1 (by omega)) (relC_set h1 (frm_trans (frm_up (by omega)) (frm_up (by omega))) (rel_gust h1.2.2.1 q f) (inv_gust h1.2.2.2.1 (by omega) (by omega)))
  refine b_X9_gust hn hP (c_X9_within hn ⟨fun hz => ?_, fun hz => c_X9_within hn ⟨fun hy => ?_, fun hy => ?_⟩⟩)
  · exact b_X9_gust_23 hn hP (b_X9_gust_24 hn hP ⟨fun _ => H0 (fun z => bi_0.mp hz z.1), fun z => absurd rfl z⟩)
  · exact b_X9_gust_23 hn hP (b_X9_gust_24 hn hP ⟨fun _ => H0 (fun z => bi_0.mp hy z.2.1), fun z => absurd rfl z⟩)
  · refine b_X9_gust_24 hn hP ⟨fun z => absurd z (by decide), fun _ => ?_⟩
    rw [← e8, ← e9]
    exact ⟨fun h3 => go ⟨bi_n0.mp hz, bi_n0.mp hy, fun z => h3 z.1⟩, fun h3 => ⟨fun h4 => go ⟨bi_n0.mp hz, bi_n0.mp hy, fun z => h4 z.2⟩, fun h4 => H0 (fun z => z.2.2 ⟨h3, h4⟩)⟩⟩
theorem k_withdraw (hn : 82 ≤ n) (hP : x_PP P) {A : Int → Int} (h : relC A (CC M)) (H0 : A 13 = -1 → F M (-1)) (H1 : A 13 ≠ -1 → ∀ M', offC M M' → relC (rLeave (rKeep A) 0 0) (CC M') → F M' (A 13)) : xCI Y_X9_withdraw none (d + 2) [vR (some 0)] n P M F := by
  have a0 : A 0 = M 4 1 := h.1.1
  have hm := h.2.2.2.1.1
  have hN : relN A (M 2) := h.2.2.1
  have e13 : A 13 = M 2 5 := rel_at hN (by omega) rfl
  have hco := h.2.2.2.1.2.2.2.2.1
  refine b_X9_withdraw hn hP (c_X5_has hn hP (x_rows4 hn hP) (by omega) ?_)
  rw [← a0, ← e13]
  refine ⟨fun hz => ?_, fun hz => H0 ?_⟩
  · have hc := bi_n0.mp hz
    refine k_keep hn hP h (fun M1 o1 h1 => ?_)
    have b0 : rKeep A 0 = M1 4 1 := h1.1.1
    have k0 := keep_at h (j := 0) (by omega) (by omega)
    have k13 := keep_at h (j := 13) (by omega) (by omega)
    have hN1 : relN (rKeep A) (M1 2) := h1.2.2.1
    refine c_X0_release hn hP (by omega) (by omega) ?_
    rw [x_upd_up M1, x_upd_up2, x_upd_up2, x_upd_up2, x_upd_up2]
    refine H1 (by omega) _ (offC_set o1 (by omega)) ?_
    have sl := (h1.2.2.2.1).2.2.1 (A 13) (by omega) (by omega)
    have c24 : A (24 + 7 * A 13) = 1 := by
      rcases hco with ⟨hc1, _⟩ | ⟨_, c2, _⟩
      · omega
      · exact c2
    have z25 : rKeep A (25 + 7 * rKeep A 13) = 0 := by
      rw [k13]
      refine sl.2.2.2.1 ?_
      rw [keep_at h (by omega) (by omega), c24]
      decide
    have q := rel_release (w := 0) hN1 (by omega) z25
    rw [k13] at q
    exact relC_set h1 (frm_leave (by omega)) q (inv_release h1.2.2.2.1 (by omega))
  · have hc := bi_0.mp hz
    rcases hco with ⟨hc1, _⟩ | ⟨c1, _, _⟩
    · exact hc1
    · exact absurd c1 hc
end OpC
