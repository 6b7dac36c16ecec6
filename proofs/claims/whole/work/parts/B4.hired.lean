/-! counsel hired -/
def smF (A : Int → Int) (s w : Int) : Nat → Int
  | 0 => 0
  | k + 1 => smF A s w k + (if x_and (x_shr s k) 1 = 1 then A (116 + 2 * k + w) else 0)
theorem oka_cns {A : Int → Int} (h : oka A) {i : Int} (hi : 0 ≤ i ∧ i < A 6) : (1 ≤ A (116 + 2 * i) ∧ A (116 + 2 * i) ≤ 999) ∧ (0 ≤ A (116 + 2 * i + 1) ∧ A (116 + 2 * i + 1) ≤ 99) ∧ i < 8 := by
  obtain ⟨C, h⟩ := h
  have r := h.2.2.2.2.1.2.2 i hi.1 hi.2
  have g6 := h.2.1.2.2.2.2.2.2
  exact ⟨r.2.1, r.2.2, by omega⟩
theorem smF_r {A : Int → Int} (h : oka A) {s w : Int} (hw : w = 0 ∨ w = 1) : ∀ k : Nat, (k : Int) ≤ A 6 → 0 ≤ smF A s w k ∧ smF A s w k ≤ 999 * k
  | 0, _ => ⟨Int.le_refl _, Int.le_refl _⟩
  | k + 1, hk => by
    have ih := smF_r h hw (s := s) k (by omega)
    obtain ⟨r1, r2, _⟩ := oka_cns h (i := (k : Int)) (by omega)
    show 0 ≤ smF A s w k + (if x_and (x_shr s k) 1 = 1 then A (116 + 2 * k + w) else 0) ∧ smF A s w k + (if x_and (x_shr s k) 1 = 1 then A (116 + 2 * k + w) else 0) ≤ _
    rcases hw with rfl | rfl
    · rw [Int.add_zero]
      split <;> omega
    · split <;> omega
theorem shl1_f : ∀ k : Fin 9, 1 ≤ x_shl 1 (k.val : Int) ∧ x_shl 1 (k.val : Int) ≤ 256 := by decide +kernel
theorem shl1_r {k : Int} (h : 0 ≤ k ∧ k ≤ 8) : 1 ≤ x_shl 1 k ∧ x_shl 1 k ≤ 256 := by
  have := shl1_f ⟨k.toNat, by omega⟩
  rwa [show (((⟨k.toNat, by omega⟩ : Fin 9).val : Nat) : Int) = k by show (k.toNat : Int) = k; omega] at this
/-- the best set of those below k -/
def hrF (A : Int → Int) (p : Int) : Nat → Int
  | 0 => 0
  | k + 1 => if smF A k 0 (A 6).toNat ≤ p ∧ (smF A (hrF A p k) 1 (A 6).toNat < smF A k 1 (A 6).toNat ∨ (smF A k 1 (A 6).toNat = smF A (hrF A p k) 1 (A 6).toNat ∧ smF A k 0 (A 6).toNat < smF A (hrF A p k) 0 (A 6).toNat)) then (k : Int) else hrF A p k
theorem smF_0 (A : Int → Int) (w : Int) : ∀ k : Nat, k ≤ 8 → smF A 0 w k = 0
  | 0, _ => rfl
  | k + 1, hk => by
    have ih := smF_0 A w k (by omega)
    show smF A 0 w k + (if x_and (x_shr 0 k) 1 = 1 then A (116 + 2 * k + w) else 0) = 0
    have z : ∀ j : Fin 8, ¬ x_and (x_shr 0 (j.val : Int)) 1 = 1 := by decide +kernel
    rw [ih, if_neg (z ⟨k, by omega⟩)]
    rfl
section Hired
variable {g : Option Nat} {d n : Nat} {P : xP} {M : xM} {F : xM → Int → Prop} {G : xM → Prop}
theorem k_sum (hn : 82 ≤ n) (hP : x_PP P) {A : Int → Int} {s w : Int} (h : relC A (CC M)) (hw : w = 0 ∨ w = 1) (H : F M (smF A s w (A 6).toNat)) : xCI Y_X5_sum g (d + 2) [vR (some 10), vI s, vI w] n P M F := by
  have ok : oka A := ⟨_, h⟩
  have a6 : A 6 = M 10 1 := h.1.2.2.2.2.2.2
  have g6 := h.2.1.2.2.2.2.2.2
  have loop : ∀ (m k : Nat), (k : Int) + m = A 6 → xW Y_X5_sum g (d + 2) 0 0 5 [(0, vR (some 10)), (1, vI s), (2, vI w), (3, vI (smF A s w k)), (4, vI (k : Int))] [] (0, 0) (n, P, M) (kI n P F) := by
    intro m
    induction m with
    | zero =>
      intro k hk
      refine b_X5_sum_5 hn hP (x_rows10 hn hP) ⟨fun _ => ?_, fun z => absurd z (by omega)⟩
      rw [show k = (A 6).toNat by omega]
      exact H
    | succ m ih =>
      intro k hk
      obtain ⟨r1, r2, r3⟩ := oka_cns ok (i := (k : Int)) (by omega)
      obtain ⟨⟨q1, q2⟩, _⟩ := h.2.2.2.2.1.2.2 (k : Int) (by omega) (by omega)
      have sr := smF_r ok (s := s) hw k (by omega)
      have nx := ih (k + 1) (by omega)
      have e : smF A s w (k + 1) = smF A s w k + (if x_and (x_shr s k) 1 = 1 then A (116 + 2 * k + w) else 0) := rfl
      rw [e, show (((k + 1 : Nat) : Nat) : Int) = (k : Int) + 1 by omega] at nx
      refine b_X5_sum_5 hn hP (x_rows10 hn hP) ⟨fun z => absurd z (by omega), fun _ => ⟨fun hz => b_X5_sum_34 hn hP (x_rows10 hn hP) ⟨by unfold inR; omega, ?_⟩, fun hz => c_X5_at hn hP (x_rows10 hn hP) (by omega) (by omega) (by omega) ?_⟩⟩
      · rwa [if_neg hz, Int.add_zero] at nx
      · have ev : M (10 + 1) (4 * (k : Int) + w) = A (116 + 2 * k + w) ∧ 0 ≤ A (116 + 2 * k + w) ∧ A (116 + 2 * k + w) ≤ 999 := by
          rcases hw with rfl | rfl
          · rw [Int.add_zero, Int.add_zero]; exact ⟨q1.symm, by omega⟩
          · exact ⟨q2.symm, by omega⟩
        rw [ev.1]
        rw [if_pos hz] at nx
        exact ⟨by unfold inR; omega, b_X5_sum_34 hn hP (x_rows10 hn hP) ⟨by unfold inR; omega, nx⟩⟩
  exact b_X5_sum hn hP (x_rows10 hn hP) (loop (A 6).toNat 0 (by omega))
theorem q_together (hn : 82 ≤ n) (hP : x_PP P) {s w : Int} (h : oka (M 65)) (hw : w = 0 ∨ w = 1) (H : F M (smF (M 65) s w (M 65 6).toNat)) : xCI Y_X10_together g (d + 1) [vR (some 64), vI s, vI w] n P M F := by
  have g6 : 0 ≤ M 65 6 ∧ M 65 6 ≤ 8 := by obtain ⟨C, hC⟩ := h; exact hC.2.1.2.2.2.2.2.2
  have loop : ∀ (m k : Nat), (k : Int) + m = M 65 6 → xW Y_X10_together g (d + 1) 0 0 5 [(0, vR (some 64)), (1, vI s), (2, vI w), (3, vI (smF (M 65) s w k)), (4, vI (k : Int))] [] (0, 0) (n, P, M) (kI n P F) := by
    intro m
    induction m with
    | zero =>
      intro k hk
      refine b_X10_together_5 hn hP ⟨fun _ => ?_, fun z => absurd z (by omega)⟩
      rw [show k = (M 65 6).toNat by omega]
      exact H
    | succ m ih =>
      intro k hk
      obtain ⟨r1, r2, r3⟩ := oka_cns h (i := (k : Int)) (by omega)
      have sr := smF_r h (s := s) hw k (by omega)
      have nx := ih (k + 1) (by omega)
      have e : smF (M 65) s w (k + 1) = smF (M 65) s w k + (if x_and (x_shr s k) 1 = 1 then M 65 (116 + 2 * k + w) else 0) := rfl
      rw [e, show (((k + 1 : Nat) : Nat) : Int) = (k : Int) + 1 by omega] at nx
      refine b_X10_together_5 hn hP ⟨fun z => absurd z (by omega), fun _ => c_X10_has hn ⟨fun hz => b_X10_together_45 hn hP ⟨by unfold inR; omega, by unfold inR; omega, ?_⟩, fun hz => ⟨by unfold inR; omega, by unfold inR; omega, by unfold inR; omega, by omega, b_X10_together_45 hn hP ⟨?_, by unfold inR; omega, ?_⟩⟩⟩⟩
      · rwa [if_neg (by omega)] at nx
      · have ev : 0 ≤ M 65 (116 + 2 * k + w) ∧ M 65 (116 + 2 * k + w) ≤ 999 := by
          rcases hw with rfl | rfl
          · rw [Int.add_zero]; omega
          · omega
        unfold inR
        omega
      · rcases x_and_1 (x_shr s k) with e1 | e1
        · exact absurd e1 hz
        · rwa [if_pos e1] at nx
  exact b_X10_together hn hP (loop (M 65 6).toNat 0 (by omega))
theorem op_hired (hn : 82 ≤ n) (hP : x_PP P) {p y : Int} (h : Rel M) : op2 n P Y_X9_hired Y_X10_hired (d + 100) [vI p, vI y] M := by
  have ok := Rel_oka h
  have g6 := h.1.2.1.2.2.2.2.2.2
  have a6 : M 65 6 = M 10 1 := h.1.1.2.2.2.2.2.2
  have sh := shl1_r (k := M 65 6) g6
  generalize hA : M 65 = A at *
  have pr : ∀ s, 0 ≤ smF A s 0 (A 6).toNat ∧ smF A s 0 (A 6).toNat ≤ 9000 := fun s => by
    have := smF_r ok (s := s) (w := 0) (Or.inl rfl) (A 6).toNat (by omega)
    omega
  have sr : ∀ s, 0 ≤ smF A s 1 (A 6).toNat ∧ smF A s 1 (A 6).toNat ≤ 9000 := fun s => by
    have := smF_r ok (s := s) (w := 1) (Or.inr rfl) (A 6).toNat (by omega)
    omega
  have he : ∀ k : Nat, hrF A p (k + 1) = if smF A k 0 (A 6).toNat ≤ p ∧ (smF A (hrF A p k) 1 (A 6).toNat < smF A k 1 (A 6).toNat ∨ (smF A k 1 (A 6).toNat = smF A (hrF A p k) 1 (A 6).toNat ∧ smF A k 0 (A 6).toNat < smF A (hrF A p k) 0 (A 6).toNat)) then (k : Int) else hrF A p k := fun k => rfl
  have z0 : smF A 0 0 (A 6).toNat = 0 := smF_0 A 0 _ (by omega)
  have z1 : smF A 0 1 (A 6).toNat = 0 := smF_0 A 1 _ (by omega)
  have ref : ∀ z, (¬ (0 ≤ p ∧ p ≤ 9999) → z = -1) → ((0 ≤ p ∧ p ≤ 9999) → z = if y = 0 then smF A (hrF A p (x_shl 1 (A 6)).toNat) 1 (A 6).toNat else hrF A p (x_shl 1 (A 6)).toNat) → xCI Y_X10_hired none (d + 100) [vR (some 64), vI p, vI y] n P M (fun M2 z2 => z2 = z ∧ Rel M2) := by
    intro z hz0 hz1
    refine b_X10_hired hn hP (c_X10_isIn hn ⟨fun hz => ?_, fun hz => ⟨(hz0 (bi_0.mp hz)).symm, h⟩⟩)
    have hp := bi_n0.mp hz
    have zz := hz1 hp
    have ok' : oka (M 65) := by rw [hA]; exact ok
    have loop : ∀ (m k : Nat), (k : Int) + m = x_shl 1 (A 6) → 1 ≤ k → xW Y_X10_hired none (d + 100) 0 0 18 [(0, vR (some 64)), (1, vI p), (2, vI y), (3, vI (hrF A p k)), (4, vI (k : Int))] [] (0, 0) (n, P, M) (kI n P (fun M2 z2 => z2 = z ∧ Rel M2)) := by
      intro m
      induction m with
      | zero =>
        intro k hk h1
        refine b_X10_hired_18 hn hP ⟨fun _ => ⟨fun hy => q_together hn hP ok' (Or.inr rfl) ⟨?_, h⟩, fun hy => ⟨?_, h⟩⟩, fun q => absurd (by rw [hA]; omega) q⟩
        · rw [zz, if_pos hy, hA, show k = (x_shl 1 (A 6)).toNat by omega]
        · rw [zz, if_neg hy, show k = (x_shl 1 (A 6)).toNat by omega]
      | succ m ih =>
        intro k hk h1
        have e := he k
        have pk := pr k
        have sk := sr k
        have pf := pr (hrF A p k)
        have sf := sr (hrF A p k)
        have skip : ¬ (smF A k 0 (A 6).toNat ≤ p ∧ (smF A (hrF A p k) 1 (A 6).toNat < smF A k 1 (A 6).toNat ∨ (smF A k 1 (A 6).toNat = smF A (hrF A p k) 1 (A 6).toNat ∧ smF A k 0 (A 6).toNat < smF A (hrF A p k) 0 (A 6).toNat))) → xW Y_X10_hired none (d + 100) 0 0 91 [(0, vR (some 64)), (1, vI p), (2, vI y), (3, vI (hrF A p k)), (4, vI (k : Int))] [] (0, 0) (n, P, M) (kI n P (fun M2 z2 => z2 = z ∧ Rel M2)) := fun hh => by
          have := ih (k + 1) (by omega) (by omega)
          rw [e, if_neg hh, show (((k + 1 : Nat) : Nat) : Int) = (k : Int) + 1 by omega] at this
          exact b_X10_hired_91 hn hP ⟨by unfold inR; omega, this⟩
        have take : (smF A k 0 (A 6).toNat ≤ p ∧ (smF A (hrF A p k) 1 (A 6).toNat < smF A k 1 (A 6).toNat ∨ (smF A k 1 (A 6).toNat = smF A (hrF A p k) 1 (A 6).toNat ∧ smF A k 0 (A 6).toNat < smF A (hrF A p k) 0 (A 6).toNat))) → xW Y_X10_hired none (d + 100) 0 0 88 [(0, vR (some 64)), (1, vI p), (2, vI y), (4, vI (k : Int))] [] (0, 0) (n, P, M) (kI n P (fun M2 z2 => z2 = z ∧ Rel M2)) := fun hh => by
          have := ih (k + 1) (by omega) (by omega)
          rw [e, if_pos hh, show (((k + 1 : Nat) : Nat) : Int) = (k : Int) + 1 by omega] at this
          exact b_X10_hired_88 hn hP (b_X10_hired_91 hn hP ⟨by unfold inR; omega, this⟩)
        refine b_X10_hired_18 hn hP ⟨fun q => absurd q (by rw [hA]; omega), fun _ => q_together hn hP ok' (Or.inl rfl) ?_⟩
        rw [hA]
        refine ⟨fun hl => q_together hn hP ok' (Or.inr rfl) (q_together hn hP ok' (Or.inr rfl) ?_), fun hl => skip (fun q => hl q.1)⟩
        rw [hA]
        refine ⟨by unfold inR; omega, fun q => take ⟨hl, Or.inl (by omega)⟩, fun q => ⟨fun q2 => skip (by omega), fun q2 => q_together hn hP ok' (Or.inl rfl) (q_together hn hP ok' (Or.inl rfl) ?_)⟩⟩
        rw [hA]
        exact ⟨fun q3 => skip (by omega), fun q3 => take ⟨hl, Or.inr (by omega)⟩⟩
    have e1 : hrF A p 1 = 0 := by
      rw [he 0]
      rw [if_neg]
      · rfl
      show ¬ (smF A ((0 : Nat) : Int) 0 (A 6).toNat ≤ p ∧ (smF A 0 1 (A 6).toNat < smF A ((0 : Nat) : Int) 1 (A 6).toNat ∨ (smF A ((0 : Nat) : Int) 1 (A 6).toNat = smF A 0 1 (A 6).toNat ∧ smF A ((0 : Nat) : Int) 0 (A 6).toNat < smF A 0 0 (A 6).toNat)))
      rw [show ((0 : Nat) : Int) = 0 from rfl]
      omega
    have := loop (x_shl 1 (A 6) - 1).toNat 1 (by omega) (by omega)
    rw [e1] at this
    exact this
  refine b_X9_hired hn hP (c_X9_within hn ⟨fun hz => ?_, fun hz => ref (-1) (fun _ => rfl) (fun q => absurd q (bi_0.mp hz))⟩)
  have hp := bi_n0.mp hz
  have hrel : relC A (CC M) := by have := h.1; rwa [hA] at this
  have loop : ∀ (m k : Nat), (k : Int) + m = x_shl 1 (A 6) → xW Y_X9_hired none (d + 100) 0 0 24 [(0, vR (some 0)), (1, vI p), (2, vI y), (3, vI (hrF A p k)), (4, vI (smF A (hrF A p k) 0 (A 6).toNat)), (5, vI (smF A (hrF A p k) 1 (A 6).toNat)), (6, vI (k : Int))] [] (0, 0) (n, P, M) (kI n P (fun M1 z1 => xCI Y_X10_hired none (d + 100) [vR (some 64), vI p, vI y] n P M1 (fun M2 z2 => z2 = z1 ∧ Rel M2))) := by
    intro m
    induction m with
    | zero =>
      intro k hk
      refine b_X9_hired_24 hn hP ⟨fun _ => ⟨fun hy => ref _ (fun q => absurd hp q) (fun _ => ?_), fun hy => ref _ (fun q => absurd hp q) (fun _ => ?_)⟩, fun q => absurd (by rw [← a6]; omega) q⟩
      · rw [if_pos hy, show k = (x_shl 1 (A 6)).toNat by omega]
      · rw [if_neg hy, show k = (x_shl 1 (A 6)).toNat by omega]
    | succ m ih =>
      intro k hk
      have e := he k
      have nx := ih (k + 1) (by omega)
      rw [e, show (((k + 1 : Nat) : Nat) : Int) = (k : Int) + 1 by omega] at nx
      have fin : ∀ s0, (s0 = 0 ∨ s0 = 1) → (s0 = 1 ↔ (smF A (hrF A p k) 1 (A 6).toNat < smF A k 1 (A 6).toNat ∨ (smF A k 1 (A 6).toNat = smF A (hrF A p k) 1 (A 6).toNat ∧ smF A k 0 (A 6).toNat < smF A (hrF A p k) 0 (A 6).toNat))) → xW Y_X9_hired none (d + 100) 0 0 97 [(0, vR (some 0)), (1, vI p), (2, vI y), (3, vI (hrF A p k)), (4, vI (smF A (hrF A p k) 0 (A 6).toNat)), (5, vI (smF A (hrF A p k) 1 (A 6).toNat)), (6, vI (k : Int)), (7, vI (smF A k 0 (A 6).toNat)), (8, vI (smF A k 1 (A 6).toNat))] [vI s0] (0, 0) (n, P, M) (kI n P (fun M1 z1 => xCI Y_X10_hired none (d + 100) [vR (some 64), vI p, vI y] n P M1 (fun M2 z2 => z2 = z1 ∧ Rel M2))) := by
        intro s0 hs0 hs
        refine b_X9_hired_97 hn hP ⟨fun q => b_X9_hired_121 hn hP ⟨by unfold inR; omega, ?_⟩, fun q => ⟨fun q2 => b_X9_hired_121 hn hP ⟨by unfold inR; omega, ?_⟩, fun q2 => b_X9_hired_121 hn hP ⟨by unfold inR; omega, ?_⟩⟩⟩
        · rwa [if_neg (fun z => by have := z.1; omega)] at nx
        · rwa [if_neg (fun z => by have := hs.mpr z.2; omega)] at nx
        · rwa [if_pos ⟨by omega, hs.mp (by omega)⟩] at nx
      refine b_X9_hired_24 hn hP ⟨fun q => absurd q (by rw [← a6]; omega), fun _ => k_sum hn hP hrel (Or.inl rfl) (k_sum hn hP hrel (Or.inr rfl) ?_)⟩
      exact ⟨fun q => b_X9_hired_92 hn hP (fin 1 (Or.inr rfl) ⟨fun _ => Or.inl q, fun _ => rfl⟩), fun q => ⟨fun q2 => b_X9_hired_96 hn hP (fin 0 (Or.inl rfl) ⟨fun z => absurd z (by decide), fun z => by omega⟩), fun q2 => ⟨fun q3 => b_X9_hired_96 hn hP (fin 0 (Or.inl rfl) ⟨fun z => absurd z (by decide), fun z => by omega⟩), fun q3 => b_X9_hired_92 hn hP (fin 1 (Or.inr rfl) ⟨fun _ => Or.inr (by omega), fun _ => rfl⟩)⟩⟩⟩
  have := loop (x_shl 1 (A 6)).toNat 0 (by omega)
  rw [show hrF A p 0 = 0 from rfl, z0, z1] at this
  exact this
end Hired
