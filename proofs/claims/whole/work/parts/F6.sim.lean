/-! the machine reads as sp does -/
section Sim
variable {K V : Nat → Int} {κ tr : Int} {X : pS → Prop} {Z : Int → Nat → Prop} {Z0 : Nat → List (Int × Int) → Prop}
def C9 (K V : Nat → Int) (κ tr : Int) (X : pS → Prop) (Z : Int → Nat → Prop) (f : Nat) : Prop := ∀ dp j p c l u, ops p = dp → (K j = 23 ∨ K j = 24 ∨ K j = 25 → ¬ ahd tr p) → Go Z (sp K V κ f 9 dp j) (fun j' cs => X (true, j', (stl 8 p (l ++ cs)).1, c, (stl 8 p (l ++ cs)).2, u)) (X (false, j, p, c, l, u))
def CLp (m : Int) (mo : Nat) (e0 e1 : Int → Prop) (K V : Nat → Int) (κ : Int) (X : pS → Prop) (Z : Int → Nat → Prop) (f : Nat) : Prop := ∀ dp j p p1 c l l1 u, ops p = dp → ltT m p → p.head? ≠ some 16 → sS m p1 l1 p l → e0 (K j) → Go Z (sp K V κ f mo dp j) (fun j' cs => e1 (K j') → ∀ p2 l2, sS m p2 l2 p (l ++ cs) → X (true, j', p2, c, l2, u)) (X (true, j, p1, c, l1, u))
def CEn (m : Int) (mo : Nat) (e1 : Int → Prop) (K V : Nat → Int) (κ tr : Int) (X : pS → Prop) (Z : Int → Nat → Prop) (f : Nat) : Prop := ∀ dp j p c l u, ops p = dp → ltT m p → p.head? ≠ some 16 → (K j = 23 ∨ K j = 24 ∨ K j = 25 → ¬ ahd tr p) → Go Z (sp K V κ f mo dp j) (fun j' cs => e1 (K j') → ∀ p2 l2, sS m p2 l2 p (l ++ cs) → X (true, j', p2, c, l2, u)) (X (false, j, p, c, l, u))
def C4 (K V : Nat → Int) (κ tr : Int) (X : pS → Prop) (Z : Int → Nat → Prop) (f : Nat) : Prop := ∀ dp j p c l u, ops p = dp → ahd tr p → Go Z (sp K V κ f 4 dp j) (fun j' cs => ∀ p2 l2, kS 4 (K j') p2 l2 p (l ++ cs) → X (true, j', p2, c, l2, u)) (X (false, j, p, c, l, u))
def CLk (m : Int) (mo : Nat) (e0 e1 : Int → Prop) (K V : Nat → Int) (κ tr : Int) (X : pS → Prop) (Z : Int → Nat → Prop) (f : Nat) : Prop := ∀ dp j p p1 c l l1 u, ops p = dp → ltT m p → hre tr p → kS m (K j) p1 l1 p l → e0 (K j) → Go Z (sp K V κ f mo dp j) (fun j' cs => e1 (K j') → ∀ p2 l2, kS m (K j') p2 l2 p (l ++ cs) → X (true, j', p2, c, l2, u)) (X (true, j, p1, c, l1, u))
def CEk (m : Int) (mo : Nat) (e1 : Int → Prop) (K V : Nat → Int) (κ tr : Int) (X : pS → Prop) (Z : Int → Nat → Prop) (f : Nat) : Prop := ∀ dp j p c l u, ops p = dp → ltT m p → ahd tr p → Go Z (sp K V κ f mo dp j) (fun j' cs => e1 (K j') → ∀ p2 l2, kS m (K j') p2 l2 p (l ++ cs) → X (true, j', p2, c, l2, u)) (X (false, j, p, c, l, u))
def CMo (K V : Nat → Int) (κ tr : Int) (X : pS → Prop) (Z : Int → Nat → Prop) (f : Nat) : Prop := ∀ (q dp j : Nat) p p1 c l l1 u, ops p + 1 = dp → tr ≠ 0 → (1 ≤ q ∧ q ≤ 6) → kS 2 (K j) p1 l1 (41 :: p) l → (K j ≠ 22 ∧ K j ≠ 21) → ahd tr (41 :: p) → Go Z (sp K V κ f (10 + q) dp j) (fun j' cs => X (true, j', 16 :: p, c, l ++ cs, u)) (X (true, j, p1, (q : Int) :: c, l1, u))
theorem na_hi {tr o : Int} {p : List Int} (h : o ≠ 41) (h2 : rkO o = 0 ∨ 5 ≤ rkO o) : ¬ ahd tr (o :: p) := fun z => by
  have z2 : o = 41 ∨ (1 ≤ rkO o ∧ rkO o ≤ 4) := z.2
  omega
theorem hd_ne {o : Int} {p : List Int} (h : o ≠ 16) : (o :: p).head? ≠ some 16 := fun z => h (Option.some.inj z)
theorem sS_self {m : Int} {p : List Int} {l : List (Int × Int)} (h : p.head? ≠ some 16) : sS m p l p l := ⟨aS_refl m p l, rfl, h⟩
/-- one -/
theorem c9_step (R : RLs K V κ tr X Z Z0) {f : Nat} (a5 : CEn 6 5 nar K V κ tr X Z f) (a9 : C9 K V κ tr X Z f) : C9 K V κ tr X Z (f + 1) := by
  obtain ⟨R1, R2, R3, -, -, -, -, -, -, R10, R11, -⟩ := R
  intro dp j p c l u hd he
  rw [sp_9]
  by_cases k40 : K j = 40
  · rw [if_pos k40]
    by_cases h8 : 8 ≤ dp
    · rw [if_pos h8]
      exact Go_bad (by decide) (R2 j p c l u 3 j (Or.inr (Or.inr (Or.inl ⟨by omega, Or.inl k40, rfl, rfl⟩))))
    · rw [if_neg h8]
      have o40 : opn (40 :: p) = 40 := rfl
      have g1 := a5 (dp + 1) (j + 1) (40 :: p) c l u (by rw [ops_yes (by decide), hd]) (show rkO 40 < 6 by decide) (hd_ne (by decide)) (fun _ => na_hi (by decide) (Or.inl (by decide)))
      refine Go_sq (Go_to g1 (R3 j p c l u 40 (by omega) (Or.inl ⟨k40, rfl⟩))) ?_
      generalize (sp K V κ f 5 (dp + 1) (j + 1)).2.1 = j1
      generalize (sp K V κ f 5 (dp + 1) (j + 1)).2.2 = cs
      show Go Z (if K j1 = 41 then (0, j1 + 1, []) else (1, j1, [])) _ _
      by_cases k41 : K j1 = 41
      · rw [if_pos k41]
        refine Go_ok (fun h nr p2 l2 s2 => ?_)
        have o2 : opn p2 = 40 := s2.1.2.trans o40
        refine R10 j1 p2 c l2 u p (l ++ cs) ⟨Or.inr nr, fun z => absurd o2 z.2⟩ o2 k41 ?_ ?_
        · rw [s2.1.1 1 (by decide)]
          exact stl_no (by decide)
        · rw [List.append_nil] at h
          exact h
      · rw [if_neg k41]
        refine Go_bad (by decide) (fun z nr p2 l2 s2 => ?_)
        have o2 : opn p2 = 40 := s2.1.2.trans o40
        exact R11 j1 p2 c l2 u ⟨Or.inr nr, fun z => absurd o2 z.2⟩ (Or.inr (Or.inr ⟨o2, k41⟩)) z
  rw [if_neg k40]
  by_cases k45 : K j = 45
  · rw [if_pos k45]
    by_cases h8 : 8 ≤ dp
    · rw [if_pos h8]
      exact Go_bad (by decide) (R2 j p c l u 3 j (Or.inr (Or.inr (Or.inl ⟨by omega, Or.inr (Or.inl k45), rfl, rfl⟩))))
    · rw [if_neg h8]
      have g1 := a9 (dp + 1) (j + 1) (4 :: p) c l u (by rw [ops_yes (by decide), hd]) (fun _ => na_hi (by decide) (Or.inr (by decide)))
      refine Go_em (Go_to (Go_mono g1 (fun j' cs h => ?_)) (R3 j p c l u 4 (by omega) (Or.inr (Or.inl ⟨k45, rfl⟩))))
      have e : stl 8 (4 :: p) (l ++ cs) = stl 8 p (l ++ (cs ++ [(76, 0)])) := by
        rw [stl_go (by decide), if_neg (by decide), List.append_assoc]
        rfl
      rw [e]
      exact h
  rw [if_neg k45]
  by_cases kn : 11 ≤ K j ∧ K j ≤ 18
  · rw [if_pos kn]
    by_cases ho : ofL κ (K j - 11)
    · rw [if_pos ho]
      exact Go_ok (R1 j p c l u 75 (K j - 11) (Or.inr ⟨kn, ho, rfl, rfl⟩))
    · rw [if_neg ho]
      exact Go_bad (by decide) (R2 j p c l u 5 j (Or.inr (Or.inl ⟨kn, ho, rfl, rfl⟩)))
  rw [if_neg kn]
  by_cases k72 : K j = 72
  · rw [if_pos k72]
    by_cases hv : 9999 < V j
    · rw [if_pos hv]
      exact Go_bad (by decide) (R2 j p c l u 2 j (Or.inl ⟨k72, hv, rfl, rfl⟩))
    · rw [if_neg hv]
      exact Go_ok (R1 j p c l u 72 (V j) (Or.inl ⟨k72, by omega, rfl, rfl⟩))
  · rw [if_neg k72]
    exact Go_bad (by decide) (R2 j p c l u 1 j (Or.inr (Or.inr (Or.inr (Or.inr (Or.inr (Or.inr (Or.inr ⟨k72, kn, k40, k45, he, rfl, rfl⟩))))))))
/-- products -/
theorem c8_step (R : RLs K V κ tr X Z Z0) {f : Nat} (a9 : C9 K V κ tr X Z f) (a8 : CLp 7 8 (fun _ => True) (fun k => k ≠ 42 ∧ k ≠ 47) K V κ X Z f) : CLp 7 8 (fun _ => True) (fun k => k ≠ 42 ∧ k ≠ 47) K V κ X Z (f + 1) := by
  obtain ⟨-, -, -, -, -, R6, -⟩ := R
  intro dp j p p1 c l l1 u hd hl h16 s1 _
  rw [sp_8]
  by_cases k : K j = 42 ∨ K j = 47
  · rw [if_pos k]
    have st : ∀ o, arO (K j) o → rkO o = 7 → ¬ isOp o → o ≠ 16 → ¬ 40 ≤ o → enO o = K j → Go Z (sq (em (sp K V κ f 9 dp (j + 1)) (K j, 0)) (fun j => sp K V κ f 8 dp j)) (fun j' cs => (K j' ≠ 42 ∧ K j' ≠ 47) → ∀ p2 l2, sS 7 p2 l2 p (l ++ cs) → X (true, j', p2, c, l2, u)) (X (true, j, p1, c, l1, u)) := fun o ho r7 nop n16 n40 en => by
      have e1 : stl (rkO o) p1 l1 = (p, l) := by rw [s1.1.1 _ (by omega), r7, stl_lt hl]
      have u1 : (u || decide (o = 23)) = u := by rw [decide_eq_false (by omega), Bool.or_false]
      have g1 := a9 dp (j + 1) (o :: p) c l u (by rw [ops_no nop, hd]) (fun _ => na_hi (by omega) (by omega))
      have up := R6 j p1 c l1 u o (Or.inl ⟨s1.2.2, ho⟩)
      rw [e1, u1] at up
      refine Go_sq (Go_em (H := fun j' cs => ∀ l0, l0 ++ [(K j, 0)] = cs → X (true, j', o :: p, c, l ++ l0, u)) (Go_to (Go_mono g1 (fun j' cs h => ?_)) up)) ?_
      · have e : stl 8 (o :: p) (l ++ cs) = (o :: p, l ++ cs) := stl_no (by omega)
        rw [e]
        exact h cs rfl
      · generalize (em (sp K V κ f 9 dp (j + 1)) (K j, 0)).2.1 = j1
        generalize (em (sp K V κ f 9 dp (j + 1)) (K j, 0)).2.2 = cs
        refine Go_to (A := ∀ l0, l0 ++ [(K j, 0)] = cs → X (true, j1, o :: p, c, l ++ l0, u)) (B := ∀ l0, l0 ++ [(K j, 0)] = cs → X (true, j1, o :: p, c, l ++ l0, u)) ?_ id
        intro hm h0 hz l0 e0
        subst e0
        have s2 : sS 7 (o :: p) (l ++ l0) p (l ++ l0 ++ [(K j, 0)]) := by
          have := sS_pop (m' := 7) (sS_self (m := 7) (p := o :: p) (l := l ++ l0) (hd_ne n16)) n40 n16 (by omega) (by omega) (by decide)
          rw [en] at this
          exact this
        refine a8 dp j1 p (o :: p) c _ _ u hd hl h16 s2 trivial hm (fun q nr p2 l2 s3 => h0 q nr p2 l2 ?_) hz
        rw [List.append_assoc l l0, List.append_assoc] at s3
        exact s3
    rcases k with k | k
    · exact st 7 (Or.inr (Or.inr (Or.inl ⟨k, rfl⟩))) (by decide) (by decide) (by decide) (by decide) (by rw [k]; decide)
    · exact st 8 (Or.inr (Or.inr (Or.inr ⟨k, rfl⟩))) (by decide) (by decide) (by decide) (by decide) (by rw [k]; decide)
  · rw [if_neg k]
    refine Go_ok (fun h => h (by omega) p1 l1 ?_)
    rw [List.append_nil]
    exact s1
theorem c7_step {f : Nat} (a9 : C9 K V κ tr X Z f) (a8 : CLp 7 8 (fun _ => True) (fun k => k ≠ 42 ∧ k ≠ 47) K V κ X Z f) : CEn 7 7 (fun k => k ≠ 42 ∧ k ≠ 47) K V κ tr X Z (f + 1) := by
  intro dp j p c l u hd hl h16 he
  rw [sp_7]
  refine Go_sq (a9 dp j p c l u hd he) ?_
  rw [stl_lt (ltT_le (by decide) hl)]
  refine Go_mono (a8 dp _ p p c _ _ u hd hl h16 (sS_self h16) trivial) (fun j' cs h nr p2 l2 s2 => h nr p2 l2 ?_)
  rw [List.append_assoc] at s2
  exact s2
end Sim
