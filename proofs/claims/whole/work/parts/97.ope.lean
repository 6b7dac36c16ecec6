/-! the class's calls that tell, take back, keep an image -/
theorem offC_add {M : xM} {r : Nat} {a b c e : Int} (hr : 1 ≤ r ∧ r < 25) : offC M (cAdd M r a b c e) := offC_upd (offC_blk (offC_refl M) (by omega)) (by omega)
theorem cAdd_n {M : xM} {r : Nat} {a b c e : Int} : cAdd M r a b c e r 1 = M r 1 + 1 := by
  unfold cAdd
  rw [x_upd_at]
theorem cAdd_c {M : xM} {r : Nat} {a b c e : Int} (j : Int) : cAdd M r a b c e (r + 1) j = if 4 * M r 1 ≤ j ∧ j < 4 * M r 1 + 4 then (if j = 4 * M r 1 then a else if j = 4 * M r 1 + 1 then b else if j = 4 * M r 1 + 2 then c else e) else M (r + 1) j := by
  unfold cAdd
  rw [x_upd_nb (by omega)]
  by_cases h : 4 * M r 1 ≤ j ∧ j < 4 * M r 1 + 4
  · rw [if_pos h, x_blk_in h.1 h.2]
  · rw [if_neg h, x_blk_out (fun z => h z.2)]
theorem cAdd_o {M : xM} {r : Nat} {a b c e : Int} {q : Nat} (h1 : q ≠ r) (h2 : q ≠ r + 1) : cAdd M r a b c e q = M q := by
  funext j
  unfold cAdd
  rw [x_upd_nb h1]
  exact x_blk_out (fun z => h2 z.1)
theorem cpy_ne {M : xM} {s t b : Nat} {sp dp k : Int} (h : b ≠ t) (j : Int) : x_cpy M s t sp dp k b j = M b j := if_neg (fun z => h z.1)
theorem cpy_in {M : xM} {s t : Nat} {k j : Int} (h0 : 0 ≤ j) (h1 : j < k) : x_cpy M s t 0 0 k t j = M s j := by
  unfold x_cpy
  rw [if_pos ⟨rfl, h0, by omega⟩]
  congr 1
  omega
section OpE
variable {g : Option Nat} {d n : Nat} {P : xP} {M : xM} {F : xM → Int → Prop} {G : xM → Prop}
theorem k_newCase (hn : 82 ≤ n) (hP : x_PP P) {A : Int → Int} {k r e s : Int} (h : relC A (CC M)) (H0 : ¬ (((0 ≤ k ∧ k ≤ 5) ∧ (1 ≤ r ∧ r ≤ 9) ∧ (1 ≤ e ∧ e ≤ 9) ∧ (0 ≤ s ∧ s ≤ 255)) ∧ A 0 ≠ 8) → F M (-1))
    (H1 : (((0 ≤ k ∧ k ≤ 5) ∧ (1 ≤ r ∧ r ≤ 9) ∧ (1 ≤ e ∧ e ≤ 9) ∧ (0 ≤ s ∧ s ≤ 255)) ∧ A 0 ≠ 8) → ∀ M', offC M M' → relC (rCase A k r e s) (CC M') → F M' (A 0)) : xCI Y_X9_newCase g (d + 1) [vR (some 0), vI k, vI r, vI e, vI s] n P M F := by
  have a0 : A 0 = M 4 1 := h.1.1
  have hm := h.2.2.2.1.1
  have no : ¬ ((0 ≤ k ∧ k ≤ 5) ∧ (1 ≤ r ∧ r ≤ 9) ∧ (1 ≤ e ∧ e ≤ 9) ∧ (0 ≤ s ∧ s ≤ 255)) → xW Y_X9_newCase g (d + 1) 0 0 45 [(0, vR (some 0)), (1, vI k), (2, vI r), (3, vI e), (4, vI s)] [] (0, 0) (n, P, M) (kI n P F) := fun hh => b_X9_newCase_45 hn hP (b_X9_newCase_46 hn hP ⟨fun _ => H0 (fun z => hh z.1), fun z => absurd rfl z⟩)
  refine b_X9_newCase hn hP (c_X9_within hn ⟨fun h1 => no (fun z => bi_0.mp h1 z.1), fun h1 => c_X9_within hn ⟨fun h2 => no (fun z => bi_0.mp h2 z.2.1), fun h2 => c_X9_within hn ⟨fun h3 => no (fun z => bi_0.mp h3 z.2.2.1), fun h3 => c_X9_within hn ⟨fun h4 => no (fun z => bi_0.mp h4 z.2.2.2), fun h4 => ?_⟩⟩⟩⟩)
  have b1 := bi_n0.mp h1
  have b2 := bi_n0.mp h2
  have b3 := bi_n0.mp h3
  have b4 := bi_n0.mp h4
  refine b_X9_newCase_46 hn hP ⟨fun z => absurd z (by decide), fun _ => c_X5_isFull hn hP (x_rows4 hn hP) ⟨fun hz => ?_, fun hz => H0 (fun z => by have := bi_n0.mp hz; omega)⟩⟩
  have hl := bi_0.mp hz
  refine c_X5_add hn hP (x_rows4 hn hP) (by omega) ⟨by unfold inR; omega, ?_⟩
  rw [show M 4 1 + 1 - 1 = A 0 by omega]
  refine H1 ⟨⟨b1, b2, b3, b4⟩, by omega⟩ _ (offC_add (by omega)) ?_
  exact relC_case h b1 b2 b3 b4 (by omega) cAdd_n (fun j => cAdd_c j) (fun i i3 i4 => cAdd_o (q := 1 + i) (by omega) (by omega))
theorem k_record (hn : 82 ≤ n) (hP : x_PP P) {A : Int → Int} {c q y : Int} (h : relC A (CC M)) (hy : y = 0 ∨ y = 1)
    (He : c = -1 → ∀ M', offC M M' → relC (up A 4 0) (CC M') → F M' 0) (Hn : c ≠ -1 → ¬ ((0 ≤ c ∧ c < A 0) ∧ (0 ≤ q ∧ q ≤ 3) ∧ A 4 < 8) → F M (-2)) (Hy : (0 ≤ c ∧ c < A 0) ∧ (0 ≤ q ∧ q ≤ 3) ∧ A 4 < 8 → ∀ M', offC M M' → relC (rRec A c q y) (CC M') → F M' (A 4 + 1)) : xCI Y_X9_record g (d + 1) [vR (some 0), vI c, vI q, vI y] n P M F := by
  have a0 : A 0 = M 4 1 := h.1.1
  have a4 : A 4 = M 6 1 := h.1.2.2.2.2.1
  have hm := h.2.2.2.1.1
  have g4 := h.2.1.2.2.2.2.1
  refine b_X9_record hn hP ⟨fun hc => c_X5_has hn hP (x_rows4 hn hP) (by omega) ?_, fun hc => ?_⟩
  · rw [← a0]
    refine ⟨fun h1 => Hn hc (fun z => bi_0.mp h1 z.1), fun h1 => c_X9_within hn ⟨fun h2 => Hn hc (fun z => bi_0.mp h2 z.2.1), fun h2 => c_X5_isFull hn hP (x_rows6 hn hP) ⟨fun h3 => ?_, fun h3 => Hn hc (fun z => by have := bi_n0.mp h3; omega)⟩⟩⟩
    have b1 := bi_n0.mp h1
    have b2 := bi_n0.mp h2
    have b3 := bi_0.mp h3
    have fin : ∀ y', y' = y → xW Y_X9_record g (d + 1) 0 0 72 [(2, vI q)] [vI y', vI c, vR (some 6)] (0, 0) (n, P, M) (kI n P F) := by
      intro y' e
      subst e
      refine b_X9_record_72 hn hP (c_X5_add hn hP (x_rows6 hn hP) (by omega) ?_)
      rw [← a4]
      exact Hy ⟨b1, b2, by omega⟩ _ (offC_add (by omega)) (relC_rec h b1 b2 (by omega) hy cAdd_n (fun j => cAdd_c j) (fun i i3 i4 => cAdd_o (q := 1 + i) (by omega) (by omega)))
    exact ⟨fun z => fin 0 z.symm, fun z => fin 1 (by omega)⟩
  · refine c_X5_empty hn hP (x_rows6 hn hP) ?_
    refine He hc _ (offC_upd (offC_refl M) (by omega)) (relC_empty h (Or.inl rfl) (x_upd_at _ _ _ _) (fun j => x_upd_nb (by decide)) (fun i hi => ?_))
    funext j
    exact x_upd_nb (by have : i ≠ 5 := hi; omega)
theorem k_learn (hn : 82 ≤ n) (hP : x_PP P) {A : Int → Int} {c y : Int} (h : relC A (CC M)) (hy : y = 0 ∨ y = 1)
    (He : c = -1 → ∀ M', offC M M' → relC (up A 5 0) (CC M') → F M' 0) (Hn : c ≠ -1 → ¬ ((0 ≤ c ∧ c < A 0) ∧ A 5 < 8) → F M (-2)) (Hy : (0 ≤ c ∧ c < A 0) ∧ A 5 < 8 → ∀ M', offC M M' → relC (rLearn A c y) (CC M') → F M' (A 5 + 1)) : xCI Y_X9_learn g (d + 1) [vR (some 0), vI c, vI y] n P M F := by
  have a0 : A 0 = M 4 1 := h.1.1
  have a5 : A 5 = M 8 1 := h.1.2.2.2.2.2.1
  have hm := h.2.2.2.1.1
  have g5 := h.2.1.2.2.2.2.2.1
  refine b_X9_learn hn hP ⟨fun hc => c_X5_has hn hP (x_rows4 hn hP) (by omega) ?_, fun hc => ?_⟩
  · rw [← a0]
    refine ⟨fun h1 => Hn hc (fun z => bi_0.mp h1 z.1), fun h1 => c_X5_isFull hn hP (x_rows8 hn hP) ⟨fun h3 => ?_, fun h3 => Hn hc (fun z => by have := bi_n0.mp h3; omega)⟩⟩
    have b1 := bi_n0.mp h1
    have b3 := bi_0.mp h3
    have fin : ∀ y', y' = y → xW Y_X9_learn g (d + 1) 0 0 63 [] [vI y', vI c, vR (some 8)] (0, 0) (n, P, M) (kI n P F) := by
      intro y' e
      subst e
      refine b_X9_learn_63 hn hP (c_X5_add hn hP (x_rows8 hn hP) (by omega) ?_)
      rw [← a5]
      exact Hy ⟨b1, by omega⟩ _ (offC_add (by omega)) (relC_learn h b1 (by omega) hy cAdd_n (fun j => cAdd_c j) (fun i i3 i4 => cAdd_o (q := 1 + i) (by omega) (by omega)))
    exact ⟨fun z => fin 0 z.symm, fun z => fin 1 (by omega)⟩
  · refine c_X5_empty hn hP (x_rows8 hn hP) ?_
    refine He hc _ (offC_upd (offC_refl M) (by omega)) (relC_empty h (Or.inr (Or.inl rfl)) (x_upd_at _ _ _ _) (fun j => x_upd_nb (by decide)) (fun i hi => ?_))
    funext j
    exact x_upd_nb (by have : i ≠ 7 := hi; omega)
theorem k_counsel (hn : 82 ≤ n) (hP : x_PP P) {A : Int → Int} {p s : Int} (h : relC A (CC M))
    (He : p = -1 → ∀ M', offC M M' → relC (up A 6 0) (CC M') → F M' 0) (Hn : p ≠ -1 → ¬ ((1 ≤ p ∧ p ≤ 999) ∧ (0 ≤ s ∧ s ≤ 99) ∧ A 6 < 8) → F M (-2)) (Hy : (1 ≤ p ∧ p ≤ 999) ∧ (0 ≤ s ∧ s ≤ 99) ∧ A 6 < 8 → ∀ M', offC M M' → relC (rCouns A p s) (CC M') → F M' (A 6 + 1)) : xCI Y_X9_counsel g (d + 1) [vR (some 0), vI p, vI s] n P M F := by
  have a6 : A 6 = M 10 1 := h.1.2.2.2.2.2.2
  have g6 := h.2.1.2.2.2.2.2.2
  refine b_X9_counsel hn hP ⟨fun hc => c_X9_within hn ⟨fun h1 => Hn hc (fun z => bi_0.mp h1 z.1), fun h1 => c_X9_within hn ⟨fun h2 => Hn hc (fun z => bi_0.mp h2 z.2.1), fun h2 => c_X5_isFull hn hP (x_rows10 hn hP) ⟨fun h3 => ?_, fun h3 => Hn hc (fun z => by have := bi_n0.mp h3; omega)⟩⟩⟩, fun hc => ?_⟩
  · have b1 := bi_n0.mp h1
    have b2 := bi_n0.mp h2
    have b3 := bi_0.mp h3
    refine c_X5_add hn hP (x_rows10 hn hP) (by omega) ?_
    rw [← a6]
    exact Hy ⟨b1, b2, by omega⟩ _ (offC_add (by omega)) (relC_couns h b1 b2 (by omega) cAdd_n (fun j => cAdd_c j) (fun i i3 i4 => cAdd_o (q := 1 + i) (by omega) (by omega)))
  · refine c_X5_empty hn hP (x_rows10 hn hP) ?_
    refine He hc _ (offC_upd (offC_refl M) (by omega)) (relC_empty h (Or.inr (Or.inr rfl)) (x_upd_at _ _ _ _) (fun j => x_upd_nb (by decide)) (fun i hi => ?_))
    funext j
    exact x_upd_nb (by have : i ≠ 9 := hi; omega)
theorem k_undo (hn : 82 ≤ n) (hP : x_PP P) {A : Int → Int} (h : relC A (CC M)) (H0 : A 3 = 0 → F M (-1)) (H1 : A 3 ≠ 0 → ∀ M', offC M M' → relC (rUndo A) (CC M') → F M' (A 3 - 1)) : xCI Y_X9_undo none (d + 2) [vR (some 0)] n P M F := by
  have a3 : A 3 = M 1 2 := h.1.2.2.2.1
  have r := h.2.1
  refine b_X9_undo hn hP (c_X0_takeBack hn hP r.2.2.2.1 (by have := r.2.2.1; omega) (fun hz => ⟨fun _ => H0 (by omega), fun z => absurd rfl z⟩) (fun hz => ⟨fun z => absurd z (by decide), fun _ => ?_⟩))
  have e1 : cBack M 1 2 = A 3 - 1 := by
    unfold cBack
    rw [cpy_ne (by decide), x_upd_nj (by decide), x_upd_at, a3]
  rw [e1]
  refine H1 (by omega) _ (offC_cpy (offC_upd (offC_upd (offC_refl M) (by omega)) (by omega)) (by omega)) ?_
  refine relC_undo h (by omega) ?_ ?_ ?_ ?_ (fun j j0 j1 => ?_) (fun i i0 i1 => ?_)
  · show cBack M 1 2 = M 1 2 - 1
    rw [e1, a3]
  · show cBack M 1 3 = (M 1 3 + 29) % 30
    unfold cBack
    rw [cpy_ne (by decide), x_upd_at]
  · show cBack M 1 8 = M 1 8
    unfold cBack
    rw [cpy_ne (by decide), x_upd_nj (by decide), x_upd_nj (by decide)]
  · show cBack M 1 9 = M 1 9
    unfold cBack
    rw [cpy_ne (by decide), x_upd_nj (by decide), x_upd_nj (by decide)]
  · show cBack M 2 j = M 3 (64 * ((M 1 3 + 29) % 30) + j)
    unfold cBack x_cpy
    rw [if_pos ⟨rfl, j0, by omega⟩, x_upd_nb (by decide), x_upd_nb (by decide)]
    congr 1
    omega
  · funext j
    show cBack M (1 + i) j = M (1 + i) j
    unfold cBack
    rw [cpy_ne (by omega), x_upd_nb (by omega), x_upd_nb (by omega)]
theorem k_by (hn : 82 ≤ n) (hP : x_PP P) {A : Int → Int} {t : Int} (h : relC A (CC M)) (H0 : ¬ (-1 ≤ t ∧ t < A 1) → F M 0) (H1 : (-1 ≤ t ∧ t < A 1) → ∀ M', offC M M' → relC (up A 2 t) (CC M') → F M' 1) : xCI Y_X9_by g (d + 1) [vR (some 0), vI t] n P M F := by
  have a1 : A 1 = M 1 8 := h.1.2.1
  have r := h.2.1.1
  have go : (-1 ≤ t ∧ t < A 1) → F (x_upd M 1 9 t) 1 := fun hh => H1 hh _ (offC_upd (offC_refl M) (by omega)) (relC_by h hh (x_upd_nj (by decide)) (x_upd_nj (by decide)) (x_upd_nj (by decide)) (x_upd_at _ _ _ _) (fun i hi => by funext j; exact x_upd_nb (by omega)))
  refine b_X9_by hn hP ⟨fun hz => go (by omega), fun hz => b_X9_isText hn hP ⟨fun h1 => ⟨fun z => absurd rfl z, fun _ => H0 (by omega)⟩, fun h1 => ⟨fun h2 => ⟨fun z => absurd rfl z, fun _ => H0 (by omega)⟩, fun h2 => ⟨fun h3 => absurd h3 (by omega), fun _ => ⟨fun _ => go (by omega), fun z => absurd z (by decide)⟩⟩⟩⟩⟩
/-- a court copied whole -/
theorem k_copy (hn : 82 ≤ n) (hP : x_PP P) {c e : Nat} (hC : x_Court n P c) (hE : x_Court n P e) (hce : (c = 1 ∧ e = 26) ∨ (c = 26 ∧ e = 1)) (H : ∀ M', (∀ b, ¬ (c ≤ b ∧ b < c + 11) → M' b = M b) → (∀ A, relC A (fun i => M (e + i)) → relC A (fun i => M' (c + i))) → G M') : xCV Y_X0_copyFrom none (d + 2) [vR (some c), vR (some e)] n P M G := by
  refine b_X0_copyFrom hn hP hC hE ?_
  generalize hM0 : x_upd (x_upd (x_cpy (x_cpy M (e + 1) (c + 1) 0 0 64) (e + 2) (c + 2) 0 0 1920) c 2 ((x_cpy (x_cpy M (e + 1) (c + 1) 0 0 64) (e + 2) (c + 2) 0 0 1920) e 2)) c 3 ((x_upd (x_cpy (x_cpy M (e + 1) (c + 1) 0 0 64) (e + 2) (c + 2) 0 0 1920) c 2 ((x_cpy (x_cpy M (e + 1) (c + 1) 0 0 64) (e + 2) (c + 2) 0 0 1920) e 2)) e 3) = M0
  have a0 : ∀ b, ¬ (c ≤ b ∧ b < c + 3) → ∀ j, M0 b j = M b j := fun b hb j => by
    rw [← hM0, x_upd_nb (by omega), x_upd_nb (by omega), cpy_ne (by omega), cpy_ne (by omega)]
  have a1 : M0 c 2 = M e 2 ∧ M0 c 3 = M e 3 := by
    rw [← hM0]
    refine ⟨?_, ?_⟩
    · rw [x_upd_nj (by decide), x_upd_at, cpy_ne (by omega), cpy_ne (by omega)]
    · rw [x_upd_at, x_upd_nb (by omega), cpy_ne (by omega), cpy_ne (by omega)]
  have a2 : ∀ j, 0 ≤ j → j < 64 → M0 (c + 1) j = M (e + 1) j := fun j j0 j1 => by
    rw [← hM0, x_upd_nb (by omega), x_upd_nb (by omega), cpy_ne (by omega), cpy_in j0 j1]
  have a3 : ∀ j, 0 ≤ j → j < 1920 → M0 (c + 2) j = M (e + 2) j := fun j j0 j1 => by
    rw [← hM0, x_upd_nb (by omega), x_upd_nb (by omega), cpy_in j0 j1, cpy_ne (by omega)]
  obtain ⟨_, _, _, _, _, _, _, _, _, c3, c5, c7, c9⟩ := hC
  obtain ⟨_, _, _, _, _, _, _, _, _, e3, e5, e7, e9⟩ := hE
  have row : ∀ (N : xM) (r q : Nat), r ≠ q → r + 1 ≠ q → r ≠ q + 1 → (∀ b, b ≠ r → b ≠ r + 1 → ∀ j, x_upd (x_cpy N (q + 1) (r + 1) 0 0 32) r 1 (N q 1) b j = N b j) ∧ x_upd (x_cpy N (q + 1) (r + 1) 0 0 32) r 1 (N q 1) r 1 = N q 1 ∧ ∀ j, 0 ≤ j → j < 32 → x_upd (x_cpy N (q + 1) (r + 1) 0 0 32) r 1 (N q 1) (r + 1) j = N (q + 1) j := by
    intro N r q h1 h2 h3
    refine ⟨fun b b1 b2 j => by rw [x_upd_nb b1, cpy_ne b2], x_upd_at _ _ _ _, fun j j0 j1 => by rw [x_upd_nb (by omega), cpy_in j0 j1]⟩
  refine c_X5_copyFrom hn hP c3 e3 (by omega) ?_
  obtain ⟨r3o, r3n, r3c⟩ := row M0 (c + 3) (e + 3) (by omega) (by omega) (by omega)
  generalize x_upd (x_cpy M0 (e + 3 + 1) (c + 3 + 1) 0 0 32) (c + 3) 1 (M0 (e + 3) 1) = M1 at *
  refine c_X5_copyFrom hn hP c5 e5 (by omega) ?_
  obtain ⟨r5o, r5n, r5c⟩ := row M1 (c + 5) (e + 5) (by omega) (by omega) (by omega)
  generalize x_upd (x_cpy M1 (e + 5 + 1) (c + 5 + 1) 0 0 32) (c + 5) 1 (M1 (e + 5) 1) = M2 at *
  refine c_X5_copyFrom hn hP c7 e7 (by omega) ?_
  obtain ⟨r7o, r7n, r7c⟩ := row M2 (c + 7) (e + 7) (by omega) (by omega) (by omega)
  generalize x_upd (x_cpy M2 (e + 7 + 1) (c + 7 + 1) 0 0 32) (c + 7) 1 (M2 (e + 7) 1) = M3 at *
  refine c_X5_copyFrom hn hP c9 e9 (by omega) ?_
  obtain ⟨r9o, r9n, r9c⟩ := row M3 (c + 9) (e + 9) (by omega) (by omega) (by omega)
  generalize x_upd (x_cpy M3 (e + 9 + 1) (c + 9 + 1) 0 0 32) (c + 9) 1 (M3 (e + 9) 1) = M4 at *
  have o4 : ∀ b, ¬ (c ≤ b ∧ b < c + 11) → ∀ j, M4 b j = M b j := fun b hb j => by
    rw [r9o b (by omega) (by omega), r7o b (by omega) (by omega), r5o b (by omega) (by omega), r3o b (by omega) (by omega), a0 b (by omega)]
  have lo : ∀ b, c ≤ b → b < c + 3 → ∀ j, M4 b j = M0 b j := fun b b0 b1 j => by
    rw [r9o b (by omega) (by omega), r7o b (by omega) (by omega), r5o b (by omega) (by omega), r3o b (by omega) (by omega)]
  have s4 : ∀ b, b ≠ c → ∀ j, x_upd (x_upd M4 c 8 (M4 e 8)) c 9 ((x_upd M4 c 8 (M4 e 8)) e 9) b j = M4 b j := fun b hb j => by rw [x_upd_nb hb, x_upd_nb hb]
  have s2 : ∀ j, j ≠ 8 → j ≠ 9 → x_upd (x_upd M4 c 8 (M4 e 8)) c 9 ((x_upd M4 c 8 (M4 e 8)) e 9) c j = M4 c j := fun j j1 j2 => by rw [x_upd_nj j2, x_upd_nj j1]
  refine H _ (fun b hb => ?_) (fun A hA => ?_)
  · funext j
    rw [s4 b (by omega)]
    exact o4 b hb j
  · refine relC_of hA (fun _ _ _ => rfl) ?_ ?_ ?_ ?_ (fun j j0 j1 => ?_) (fun j j0 j1 => ?_) ?_ (fun j j0 j1 => ?_) ?_ (fun j j0 j1 => ?_) ?_ (fun j j0 j1 => ?_) ?_ (fun j j0 j1 => ?_)
    · show x_upd (x_upd M4 c 8 (M4 e 8)) c 9 ((x_upd M4 c 8 (M4 e 8)) e 9) c 2 = M e 2
      rw [s2 2 (by decide) (by decide), lo c (by omega) (by omega)]; exact a1.1
    · show x_upd (x_upd M4 c 8 (M4 e 8)) c 9 ((x_upd M4 c 8 (M4 e 8)) e 9) c 3 = M e 3
      rw [s2 3 (by decide) (by decide), lo c (by omega) (by omega)]; exact a1.2
    · show x_upd (x_upd M4 c 8 (M4 e 8)) c 9 ((x_upd M4 c 8 (M4 e 8)) e 9) c 8 = M e 8
      rw [x_upd_nj (by decide), x_upd_at]; exact o4 e (by omega) 8
    · show x_upd (x_upd M4 c 8 (M4 e 8)) c 9 ((x_upd M4 c 8 (M4 e 8)) e 9) c 9 = M e 9
      rw [x_upd_at, x_upd_nb (by omega)]; exact o4 e (by omega) 9
    · rw [s4 (c + 1) (by omega), lo (c + 1) (by omega) (by omega)]; exact a2 j j0 j1
    · rw [s4 (c + 2) (by omega), lo (c + 2) (by omega) (by omega)]; exact a3 j j0 j1
    · rw [s4 (c + 3) (by omega), r9o (c + 3) (by omega) (by omega), r7o (c + 3) (by omega) (by omega), r5o (c + 3) (by omega) (by omega), r3n]; exact a0 (e + 3) (by omega) 1
    · rw [s4 (c + 4) (by omega), r9o (c + 4) (by omega) (by omega), r7o (c + 4) (by omega) (by omega), r5o (c + 4) (by omega) (by omega)]; exact (r3c j j0 j1).trans (a0 (e + 4) (by omega) j)
    · rw [s4 (c + 5) (by omega), r9o (c + 5) (by omega) (by omega), r7o (c + 5) (by omega) (by omega), r5n, r3o (e + 5) (by omega) (by omega)]; exact a0 (e + 5) (by omega) 1
    · rw [s4 (c + 6) (by omega), r9o (c + 6) (by omega) (by omega), r7o (c + 6) (by omega) (by omega)]; exact (r5c j j0 j1).trans ((r3o (e + 6) (by omega) (by omega) j).trans (a0 (e + 6) (by omega) j))
    · rw [s4 (c + 7) (by omega), r9o (c + 7) (by omega) (by omega), r7n, r5o (e + 7) (by omega) (by omega), r3o (e + 7) (by omega) (by omega)]; exact a0 (e + 7) (by omega) 1
    · rw [s4 (c + 8) (by omega), r9o (c + 8) (by omega) (by omega)]; exact (r7c j j0 j1).trans ((r5o (e + 8) (by omega) (by omega) j).trans ((r3o (e + 8) (by omega) (by omega) j).trans (a0 (e + 8) (by omega) j)))
    · rw [s4 (c + 9) (by omega), r9n, r7o (e + 9) (by omega) (by omega), r5o (e + 9) (by omega) (by omega), r3o (e + 9) (by omega) (by omega)]; exact a0 (e + 9) (by omega) 1
    · rw [s4 (c + 10) (by omega)]; exact (r9c j j0 j1).trans ((r7o (e + 10) (by omega) (by omega) j).trans ((r5o (e + 10) (by omega) (by omega) j).trans ((r3o (e + 10) (by omega) (by omega) j).trans (a0 (e + 10) (by omega) j))))
end OpE
