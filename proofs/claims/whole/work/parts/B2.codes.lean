/-! codes read from few cases; counsel hired -/
abbrev byP (A : Int → Int) (s c : Int) : Prop := x_and (A (20 + 7 * c + 3)) s = s
abbrev cdP (A : Int → Int) (s : Int) : Prop := ∀ i : Fin 8, ((i.val : Nat) : Int) < A 5 → bi (byP A s (A (100 + 2 * ((i.val : Nat) : Int)))) = A (100 + 2 * ((i.val : Nat) : Int) + 1)
def nF (p : Nat → Prop) [DecidablePred p] : Nat → Nat
  | 0 => 0
  | k + 1 => if p k then nF p k + 1 else nF p k
theorem nF_le (p : Nat → Prop) [DecidablePred p] : ∀ k, nF p k ≤ k
  | 0 => Nat.le_refl _
  | k + 1 => by
    have ih := nF_le p k
    show (if p k then nF p k + 1 else nF p k) ≤ k + 1
    split <;> omega
theorem nF_mono (p : Nat → Prop) [DecidablePred p] {a : Nat} : ∀ {b}, a ≤ b → nF p a ≤ nF p b
  | 0, h => by
    have : a = 0 := by omega
    subst this
    exact Nat.le_refl _
  | b + 1, h => by
    by_cases hb : a = b + 1
    · subst hb; exact Nat.le_refl _
    · have ih := nF_mono p (a := a) (b := b) (by omega)
      show nF p a ≤ (if p b then nF p b + 1 else nF p b)
      split <;> omega
theorem nF_lt (p : Nat → Prop) [DecidablePred p] {a b : Nat} (ha : p a) (h : a < b) : nF p a < nF p b := by
  have h1 : nF p (a + 1) = nF p a + 1 := by
    show (if p a then nF p a + 1 else nF p a) = _
    rw [if_pos ha]
  have := nF_mono p (show a + 1 ≤ b by omega)
  omega
theorem nF_surj (p : Nat → Prop) [DecidablePred p] {i : Nat} : ∀ {k}, i < nF p k → ∃ s, s < k ∧ p s ∧ nF p s = i
  | 0, h => absurd h (by show ¬ i < 0; omega)
  | k + 1, h => by
    have e : nF p (k + 1) = if p k then nF p k + 1 else nF p k := rfl
    rw [e] at h
    by_cases hp : p k
    · rw [if_pos hp] at h
      by_cases hi : i = nF p k
      · exact ⟨k, by omega, hp, hi.symm⟩
      · obtain ⟨s, s1, s2, s3⟩ := nF_surj p (i := i) (k := k) (by omega)
        exact ⟨s, by omega, s2, s3⟩
    · rw [if_neg hp] at h
      obtain ⟨s, s1, s2, s3⟩ := nF_surj p (i := i) (k := k) h
      exact ⟨s, by omega, s2, s3⟩
theorem nF_and (p q : Nat → Prop) [DecidablePred p] [DecidablePred q] : ∀ k, nF (fun s => p s ∧ q s) k ≤ nF p k
  | 0 => Nat.le_refl _
  | k + 1 => by
    have ih := nF_and p q k
    show (if p k ∧ q k then nF (fun s => p s ∧ q s) k + 1 else nF (fun s => p s ∧ q s) k) ≤ (if p k then nF p k + 1 else nF p k)
    by_cases hp : p k
    · rw [if_pos hp]
      split <;> omega
    · rw [if_neg hp, if_neg (fun z => hp z.1)]
      exact ih
/-- counted along a row that holds the sets in their order -/
def gF (f : Int → Int) (q : Int → Prop) [DecidablePred q] : Nat → Int
  | 0 => 0
  | k + 1 => gF f q k + (if q (f k) then 1 else 0)
theorem gF_r (f : Int → Int) (q : Int → Prop) [DecidablePred q] : ∀ k, 0 ≤ gF f q k ∧ gF f q k ≤ k
  | 0 => ⟨Int.le_refl _, Int.le_refl _⟩
  | k + 1 => by
    have ih := gF_r f q k
    show 0 ≤ gF f q k + (if q (f k) then 1 else 0) ∧ gF f q k + (if q (f k) then 1 else 0) ≤ _
    split <;> omega
theorem gF_eq (p : Nat → Prop) [DecidablePred p] (q : Int → Prop) [DecidablePred q] (f : Int → Int) {K : Nat} (hf : ∀ s, s < K → p s → f ((nF p s : Nat) : Int) = (s : Int)) : ∀ k, k ≤ K → gF f q (nF p k) = ((nF (fun s => p s ∧ q (s : Int)) k : Nat) : Int)
  | 0, _ => rfl
  | k + 1, hk => by
    have ih := gF_eq p q f hf k (by omega)
    have e1 : nF p (k + 1) = if p k then nF p k + 1 else nF p k := rfl
    have e2 : nF (fun s => p s ∧ q (s : Int)) (k + 1) = if p k ∧ q (k : Int) then nF (fun s => p s ∧ q (s : Int)) k + 1 else nF (fun s => p s ∧ q (s : Int)) k := rfl
    rw [e1, e2]
    by_cases hp : p k
    · rw [if_pos hp]
      show gF f q (nF p k) + (if q (f ((nF p k : Nat) : Int)) then 1 else 0) = _
      rw [hf k (by omega) hp, ih]
      by_cases hq : q (k : Int)
      · rw [if_pos hq, if_pos ⟨hp, hq⟩]; omega
      · rw [if_neg hq, if_neg (fun z => hq z.2)]; omega
    · rw [if_neg hp, if_neg (fun z => hp z.1)]
      exact ih
abbrev cdN (A : Int → Int) : Nat → Prop := fun s => cdP A (s : Int)
theorem oka_lrn {A : Int → Int} (h : oka A) {i : Int} (hi : 0 ≤ i ∧ i < A 5) : (0 ≤ A (100 + 2 * i) ∧ A (100 + 2 * i) < A 0) ∧ (A (100 + 2 * i + 1) = 0 ∨ A (100 + 2 * i + 1) = 1) ∧ i < 8 := by
  obtain ⟨C, h⟩ := h
  have r := h.2.2.2.2.1.2.1 i hi.1 hi.2
  have g5 := h.2.1.2.2.2.2.2.1
  exact ⟨r.2.1, r.2.2, by omega⟩
section Codes
variable {g : Option Nat} {d n : Nat} {P : xP} {M : xM} {F : xM → Int → Prop} {G : xM → Prop}
theorem k_fits (hn : 82 ≤ n) (hP : x_PP P) {A : Int → Int} {s : Int} (h : relC A (CC M)) (H : F M (bi (cdP A s))) : xCI Y_X9_fitsLearned g (d + 2) [vR (some 0), vI s] n P M F := by
  have ok : oka A := ⟨_, h⟩
  have a0 : A 0 = M 4 1 := h.1.1
  have a5 : A 5 = M 8 1 := h.1.2.2.2.2.2.1
  have g5 := h.2.1.2.2.2.2.2.1
  have hm := h.2.2.2.1.1
  have loop : ∀ (m i : Nat), (i : Int) + m = A 5 → (∀ j : Fin 8, j.val < i → bi (byP A s (A (100 + 2 * ((j.val : Nat) : Int)))) = A (100 + 2 * ((j.val : Nat) : Int) + 1)) → xW Y_X9_fitsLearned g (d + 2) 0 0 2 [(0, vR (some 0)), (1, vI s), (2, vI (i : Int))] [] (0, 0) (n, P, M) (kI n P F) := by
    intro m
    induction m with
    | zero =>
      intro i hi hall
      refine b_X9_fitsLearned_2 hn hP ⟨fun _ => ?_, fun z => absurd z (by omega)⟩
      rw [bi_t (fun j hj => hall j (by omega))] at H
      exact H
    | succ m ih =>
      intro i hi hall
      obtain ⟨r1, r2, r3⟩ := oka_lrn ok (i := (i : Int)) (by omega)
      obtain ⟨⟨q1, q2⟩, _⟩ := h.2.2.2.2.1.2.1 (i : Int) (by omega) (by omega)
      obtain ⟨k0, k1, k2, k3⟩ := relC_told h r1
      refine b_X9_fitsLearned_2 hn hP ⟨fun z => absurd z (by omega), fun _ => c_X5_at hn hP (x_rows8 hn hP) (by omega) (by omega) (by omega) ?_⟩
      rw [show M (8 + 1) (4 * (i : Int) + 0) = A (100 + 2 * i) by rw [Int.add_zero]; exact q1.symm]
      refine c_X5_at hn hP (x_rows4 hn hP) (by omega) (by omega) (by omega) ?_
      rw [show M (4 + 1) (4 * A (100 + 2 * i) + 3) = A (20 + 7 * A (100 + 2 * i) + 3) from k3.symm]
      have fin : ∀ s0, s0 = bi (byP A s (A (100 + 2 * i))) → xW Y_X9_fitsLearned g (d + 2) 0 0 52 [(0, vR (some 0)), (1, vI s), (2, vI (i : Int))] [vI s0] (0, 0) (n, P, M) (kI n P F) := by
        intro s0 hs
        refine b_X9_fitsLearned_52 hn hP (c_X5_at hn hP (x_rows8 hn hP) (by omega) (by omega) (by omega) ?_)
        rw [show M (8 + 1) (4 * (i : Int) + 1) = A (100 + 2 * i + 1) from q2.symm]
        have go : ∀ s1, s1 = A (100 + 2 * i + 1) → xW Y_X9_fitsLearned g (d + 2) 0 0 77 [(0, vR (some 0)), (1, vI s), (2, vI (i : Int))] [vI s1, vI s0] (0, 0) (n, P, M) (kI n P F) := by
          intro s1 hs1
          refine b_X9_fitsLearned_77 hn hP ⟨fun e => ⟨by unfold inR; omega, ?_⟩, fun e => ?_⟩
          · have := ih (i + 1) (by omega) (fun j hj => by
              by_cases hji : j.val = i
              · rw [hji, ← hs, ← hs1]; exact e
              · exact hall j (by omega))
            rw [show (((i + 1 : Nat) : Nat) : Int) = (i : Int) + 1 by omega] at this
            exact this
          · rw [bi_f (fun z => e (by rw [hs, hs1]; exact z ⟨i, by omega⟩ (by show (i : Int) < A 5; omega)))] at H
            exact H
        exact ⟨fun z => go 0 (by omega), fun z => go 1 z.symm⟩
      exact ⟨fun z => fin 0 (by rw [bi_f z]), fun z => fin 1 (by rw [bi_t z])⟩
  exact b_X9_fitsLearned hn hP (loop (A 5).toNat 0 (by omega) (fun j hj => absurd hj (by omega)))
theorem q_isBy (hn : 82 ≤ n) (hP : x_PP P) {s c : Int} (h : oka (M 65)) (hc : 0 ≤ c ∧ c < M 65 0) (H : F M (bi (byP (M 65) s c))) : xCI Y_X10_isBy g (d + 1) [vR (some 64), vI s, vI c] n P M F := by
  obtain ⟨c8, _⟩ := oka_told h hc
  refine b_X10_isBy hn hP (c_X10_get hn hP c8 (by omega) ⟨fun z => ?_, fun z => ?_⟩)
  · rwa [bi_f z] at H
  · rwa [bi_t z] at H
theorem q_isCode (hn : 82 ≤ n) (hP : x_PP P) {s : Int} (h : oka (M 65)) (H : F M (bi (cdP (M 65) s))) : xCI Y_X10_isCode g (d + 2) [vR (some 64), vI s] n P M F := by
  have g5 : 0 ≤ M 65 5 ∧ M 65 5 ≤ 8 := by obtain ⟨C, hC⟩ := h; exact hC.2.1.2.2.2.2.2.1
  have loop : ∀ (m i : Nat), (i : Int) + m = M 65 5 → (∀ j : Fin 8, j.val < i → bi (byP (M 65) s (M 65 (100 + 2 * ((j.val : Nat) : Int)))) = M 65 (100 + 2 * ((j.val : Nat) : Int) + 1)) → xW Y_X10_isCode g (d + 2) 0 0 2 [(0, vR (some 64)), (1, vI s), (2, vI (i : Int))] [] (0, 0) (n, P, M) (kI n P F) := by
    intro m
    induction m with
    | zero =>
      intro i hi hall
      refine b_X10_isCode_2 hn hP ⟨fun _ => ?_, fun z => absurd z (by omega)⟩
      rw [bi_t (fun j hj => hall j (by omega))] at H
      exact H
    | succ m ih =>
      intro i hi hall
      obtain ⟨r1, r2, r3⟩ := oka_lrn h (i := (i : Int)) (by omega)
      refine b_X10_isCode_2 hn hP ⟨fun z => absurd z (by omega), fun _ => ⟨by unfold inR; omega, by unfold inR; omega, by omega, q_isBy hn hP h r1 ⟨by unfold inR; omega, by unfold inR; omega, by unfold inR; omega, by omega, ?_⟩⟩⟩
      have go : ∀ s1, s1 = M 65 (100 + 2 * i + 1) → xW Y_X10_isCode g (d + 2) 0 0 50 [(0, vR (some 64)), (1, vI s), (2, vI (i : Int))] [vI s1, vI (bi (byP (M 65) s (M 65 (100 + 2 * i))))] (0, 0) (n, P, M) (kI n P F) := by
        intro s1 hs1
        refine b_X10_isCode_50 hn hP ⟨fun e => ⟨by unfold inR; omega, ?_⟩, fun e => ?_⟩
        · have := ih (i + 1) (by omega) (fun j hj => by
            by_cases hji : j.val = i
            · rw [hji, ← hs1]; exact e
            · exact hall j (by omega))
          rw [show (((i + 1 : Nat) : Nat) : Int) = (i : Int) + 1 by omega] at this
          exact this
        · rw [bi_f (fun z => e (by rw [hs1]; exact z ⟨i, by omega⟩ (by show (i : Int) < M 65 5; omega)))] at H
          exact H
      exact ⟨fun z => go 0 (by omega), fun z => go 1 z.symm⟩
  exact b_X10_isCode hn hP (loop (M 65 5).toNat 0 (by omega) (fun j hj => absurd hj (by omega)))
theorem k_gather (hn : 82 ≤ n) (hP : x_PP P) {A : Int → Int} (h : relC A (CC M)) (H : ∀ f, (∀ s, s < 256 → cdN A s → f ((nF (cdN A) s : Nat) : Int) = (s : Int)) → F (setA M 63 f) ((nF (cdN A) 256 : Nat) : Int)) : xCI Y_X9_gatherCodes g (d + 3) [vR (some 0)] n P M F := by
  have loop : ∀ (m k : Nat), k + m = 256 → ∀ f : Int → Int, (∀ s, s < k → cdN A s → f ((nF (cdN A) s : Nat) : Int) = (s : Int)) → xW Y_X9_gatherCodes g (d + 3) 0 0 4 [(0, vR (some 0)), (1, vI ((nF (cdN A) k : Nat) : Int)), (2, vI (k : Int))] [] (0, 0) (n, P, setA M 63 f) (kI n P F) := by
    intro m
    induction m with
    | zero =>
      intro k hk f hf
      refine b_X9_gatherCodes_4 hn hP ⟨fun _ => ?_, fun z => absurd z (by omega)⟩
      have : k = 256 := by omega
      subst this
      exact H f hf
    | succ m ih =>
      intro k hk f hf
      have rN : relC A (CC (setA M 63 f)) := relC_same h (fun c c0 c1 => setA_ne (by omega))
      have nl := nF_le (cdN A) k
      have e : nF (cdN A) (k + 1) = if cdN A k then nF (cdN A) k + 1 else nF (cdN A) k := rfl
      refine b_X9_gatherCodes_4 hn hP ⟨fun z => absurd z (by omega), fun _ => k_fits hn hP rN ⟨fun hz => b_X9_gatherCodes_29 hn hP ⟨by unfold inR; omega, ?_⟩, fun hz => ⟨by omega, by unfold inR; omega, b_X9_gatherCodes_29 hn hP ⟨by unfold inR; omega, ?_⟩⟩⟩⟩
      · have hp := bi_0.mp hz
        have := ih (k + 1) (by omega) f (fun s hs hc => hf s (by
          by_cases hsk : s = k
          · subst hsk; exact absurd hc hp
          · omega) hc)
        rw [e, if_neg hp, show (((k + 1 : Nat) : Nat) : Int) = (k : Int) + 1 by omega] at this
        exact this
      · have hp := bi_n0.mp hz
        rw [x_upd_up2]
        have := ih (k + 1) (by omega) (up f ((nF (cdN A) k : Nat) : Int) (k : Int)) (fun s hs hc => by
          by_cases hsk : s = k
          · subst hsk; rw [up_at]
          · have := nF_lt (cdN A) hc (show s < k by omega)
            rw [up_ne (by omega)]
            exact hf s (by omega) hc)
        rw [e, if_pos hp, show (((k + 1 : Nat) : Nat) : Int) = (k : Int) + 1 by omega, show (((nF (cdN A) k + 1 : Nat) : Nat) : Int) = ((nF (cdN A) k : Nat) : Int) + 1 by omega] at this
        exact this
  have := loop 256 0 (by omega) (M 63) (fun s hs => absurd hs (by omega))
  rw [setA_self] at this
  exact b_X9_gatherCodes hn hP this
theorem q_codesBy (hn : 82 ≤ n) (hP : x_PP P) {c : Int} (h : oka (M 65)) (hc : c = -1 ∨ (0 ≤ c ∧ c < M 65 0)) (H : F M ((nF (fun s => cdN (M 65) s ∧ (c = -1 ∨ byP (M 65) (s : Int) c)) 256 : Nat) : Int)) : xCI Y_X10_codesBy g (d + 3) [vR (some 64), vI c] n P M F := by
  have loop : ∀ (m k : Nat), k + m = 256 → xW Y_X10_codesBy g (d + 3) 0 0 4 [(0, vR (some 64)), (1, vI c), (2, vI ((nF (fun s => cdN (M 65) s ∧ (c = -1 ∨ byP (M 65) (s : Int) c)) k : Nat) : Int)), (3, vI (k : Int))] [] (0, 0) (n, P, M) (kI n P F) := by
    intro m
    induction m with
    | zero =>
      intro k hk
      refine b_X10_codesBy_4 hn hP ⟨fun _ => ?_, fun z => absurd z (by omega)⟩
      have : k = 256 := by omega
      subst this
      exact H
    | succ m ih =>
      intro k hk
      have nl := nF_le (fun s => cdN (M 65) s ∧ (c = -1 ∨ byP (M 65) (s : Int) c)) k
      have e : nF (fun s => cdN (M 65) s ∧ (c = -1 ∨ byP (M 65) (s : Int) c)) (k + 1) = if cdN (M 65) k ∧ (c = -1 ∨ byP (M 65) (k : Int) c) then nF (fun s => cdN (M 65) s ∧ (c = -1 ∨ byP (M 65) (s : Int) c)) k + 1 else nF (fun s => cdN (M 65) s ∧ (c = -1 ∨ byP (M 65) (s : Int) c)) k := rfl
      have nx := ih (k + 1) (by omega)
      rw [e, show (((k + 1 : Nat) : Nat) : Int) = (k : Int) + 1 by omega] at nx
      have no : ¬ (cdN (M 65) k ∧ (c = -1 ∨ byP (M 65) (k : Int) c)) → xW Y_X10_codesBy g (d + 3) 0 0 38 [(0, vR (some 64)), (1, vI c), (3, vI (k : Int))] [vI ((nF (fun s => cdN (M 65) s ∧ (c = -1 ∨ byP (M 65) (s : Int) c)) k : Nat) : Int)] (0, 0) (n, P, M) (kI n P F) := fun hh => by
        refine b_X10_codesBy_38 hn hP (b_X10_codesBy_39 hn hP ⟨by unfold inR; omega, by unfold inR; omega, ?_⟩)
        rw [if_neg hh] at nx
        rw [Int.add_zero]
        exact nx
      have yes : (cdN (M 65) k ∧ (c = -1 ∨ byP (M 65) (k : Int) c)) → xW Y_X10_codesBy g (d + 3) 0 0 34 [(0, vR (some 64)), (1, vI c), (3, vI (k : Int))] [vI ((nF (fun s => cdN (M 65) s ∧ (c = -1 ∨ byP (M 65) (s : Int) c)) k : Nat) : Int)] (0, 0) (n, P, M) (kI n P F) := fun hh => by
        refine b_X10_codesBy_34 hn hP (b_X10_codesBy_39 hn hP ⟨by unfold inR; omega, by unfold inR; omega, ?_⟩)
        rw [if_pos hh, Int.natCast_add] at nx
        exact nx
      refine b_X10_codesBy_4 hn hP ⟨fun z => absurd z (by omega), fun _ => q_isCode hn hP h ⟨fun hz => no (fun z => bi_0.mp hz z.1), fun hz => ⟨fun h1 => yes ⟨bi_n0.mp hz, Or.inl h1⟩, fun h1 => q_isBy hn hP h (by omega) ⟨fun hy => no (fun z => ?_), fun hy => yes ⟨bi_n0.mp hz, Or.inr (bi_n0.mp hy)⟩⟩⟩⟩⟩
      rcases z.2 with q | q
      · exact h1 q
      · exact bi_0.mp hy q
  exact b_X10_codesBy hn hP (loop 256 0 (by omega))
theorem nF_none (A : Int → Int) : ∀ k, nF (fun s => cdN A s ∧ ((-1 : Int) = -1 ∨ byP A (s : Int) (-1))) k = nF (cdN A) k
  | 0 => rfl
  | k + 1 => by
    have ih := nF_none A k
    show (if cdN A k ∧ ((-1 : Int) = -1 ∨ byP A (k : Int) (-1)) then _ else _) = (if cdN A k then _ else _)
    rw [ih]
    by_cases h : cdN A k
    · rw [if_pos h, if_pos ⟨h, Or.inl rfl⟩]
    · rw [if_neg h, if_neg (fun z => h z.1)]
theorem nF_by (A : Int → Int) {c : Int} (hc : c ≠ -1) : ∀ k, nF (fun s => cdN A s ∧ (c = -1 ∨ byP A (s : Int) c)) k = nF (fun s => cdN A s ∧ byP A (s : Int) c) k
  | 0 => rfl
  | k + 1 => by
    have ih := nF_by A hc k
    show (if cdN A k ∧ (c = -1 ∨ byP A (k : Int) c) then _ else _) = (if cdN A k ∧ byP A (k : Int) c then _ else _)
    rw [ih]
    by_cases h : cdN A k ∧ byP A (k : Int) c
    · rw [if_pos h, if_pos ⟨h.1, Or.inr h.2⟩]
    · rw [if_neg h, if_neg (fun z => h ⟨z.1, z.2.resolve_left hc⟩)]
theorem k_gathered (hn : 82 ≤ n) (hP : x_PP P) {fa : Int} {k : Nat} (hk : k ≤ 256) (H : F M (gF (M 63) (fun s => x_and fa s = s) k)) : xCI Y_X9_guiltyByGathered g d [vR (some 0), vI fa, vI (k : Int)] n P M F := by
  have loop : ∀ (m j : Nat), j + m = k → xW Y_X9_guiltyByGathered g d 0 0 5 [(0, vR (some 0)), (1, vI fa), (2, vI (k : Int)), (3, vI (gF (M 63) (fun s => x_and fa s = s) j)), (4, vI (j : Int))] [] (0, 0) (n, P, M) (kI n P F) := by
    intro m
    induction m with
    | zero =>
      intro j hj
      refine b_X9_guiltyByGathered_5 hn hP ⟨fun _ => ?_, fun z => absurd z (by omega)⟩
      have : j = k := by omega
      subst this
      exact H
    | succ m ih =>
      intro j hj
      have gr := gF_r (M 63) (fun s => x_and fa s = s) j
      have nx := ih (j + 1) (by omega)
      have e : gF (M 63) (fun s => x_and fa s = s) (j + 1) = gF (M 63) (fun s => x_and fa s = s) j + (if x_and fa (M 63 j) = M 63 j then 1 else 0) := rfl
      rw [e, show (((j + 1 : Nat) : Nat) : Int) = (j : Int) + 1 by omega] at nx
      refine b_X9_guiltyByGathered_5 hn hP ⟨fun z => absurd z (by omega), fun _ => ⟨fun z => absurd z (by omega), fun _ => ⟨by omega, by omega, fun hz => b_X9_guiltyByGathered_41 hn hP ⟨by unfold inR; omega, ?_⟩, fun hz => ⟨by unfold inR; omega, b_X9_guiltyByGathered_41 hn hP ⟨by unfold inR; omega, ?_⟩⟩⟩⟩⟩
      · rwa [if_neg hz, Int.add_zero] at nx
      · rwa [if_pos hz] at nx
  exact b_X9_guiltyByGathered hn hP (loop k 0 (by omega))
end Codes
