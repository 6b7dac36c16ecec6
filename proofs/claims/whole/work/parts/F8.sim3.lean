/-! the machine reads as sp does: and, or, most, all at once -/
section Sim3
variable {K V : Nat → Int} {κ tr : Int} {X : pS → Prop} {Z : Int → Nat → Prop} {Z0 : Nat → List (Int × Int) → Prop}
theorem kS_self {m k : Int} {p : List Int} {l : List (Int × Int)} (h : cmd p = true) (hk : p.head? = some 16 ∨ nar k) : kS m k p l p l := ⟨aS_refl m p l, h, hk⟩
theorem c3_step (R : RLs K V κ tr X Z Z0) {f : Nat} (a4 : C4 K V κ tr X Z f) (a3 : CLk 3 3 (fun _ => True) (fun k => k ≠ 22) K V κ tr X Z f) : CLk 3 3 (fun _ => True) (fun k => k ≠ 22) K V κ tr X Z (f + 1) := by
  obtain ⟨-, -, -, -, -, R6, -⟩ := R
  intro dp j p p1 c l l1 u hd hl hh s1 hk
  rw [sp_3]
  by_cases k : K j = 22
  · rw [if_pos k]
    have e1 : stl (rkO 21) p1 l1 = (p, l) := by rw [s1.1.1 _ (by decide)]; exact stl_lt hl
    have u1 : (u || decide ((21 : Int) = 23)) = u := by rw [decide_eq_false (by decide), Bool.or_false]
    have h1 : hre tr p1 := ⟨hh.1, by rw [s1.1.2]; exact hh.2⟩
    have ha : ahd tr (21 :: p) := ⟨⟨hh.1, by rw [opn_cons (by decide)]; exact hh.2⟩, Or.inr (by decide)⟩
    have g1 := a4 dp (j + 1) (21 :: p) c l u (by rw [ops_no (by decide), hd]) ha
    have up := R6 j p1 c l1 u 21 (Or.inr (Or.inr ⟨h1, s1.2.1, Or.inl ⟨k, rfl⟩⟩))
    rw [e1, u1] at up
    refine Go_sq (Go_em (H := fun j' cs => ∀ l0, l0 ++ [(22, 0)] = cs → ∀ p2 l2, kS 4 (K j') p2 l2 (21 :: p) (l ++ l0) → X (true, j', p2, c, l2, u)) (Go_to (Go_mono g1 (fun j' cs h => h cs rfl)) up)) ?_
    generalize (em (sp K V κ f 4 dp (j + 1)) (22, 0)).2.1 = j1
    generalize (em (sp K V κ f 4 dp (j + 1)) (22, 0)).2.2 = cs
    intro hm h0 hz l0 e0 p2 l2 s2
    subst e0
    have s3 : kS 3 (K j1) p2 l2 p (l ++ l0 ++ [(22, 0)]) := kS_pop (m' := 3) s2 (by decide) (by decide) (by decide) (by decide)
    refine a3 dp j1 p p2 c _ _ u hd hl hh s3 trivial hm (fun q nr p3 l3 s4 => h0 q nr p3 l3 ?_) hz
    rw [List.append_assoc l l0, List.append_assoc] at s4
    exact s4
  · rw [if_neg k]
    refine Go_ok (fun h => h k p1 l1 ?_)
    rw [List.append_nil]
    exact s1
theorem c2_step {f : Nat} (a4 : C4 K V κ tr X Z f) (a3 : CLk 3 3 (fun _ => True) (fun k => k ≠ 22) K V κ tr X Z f) : CEk 3 2 (fun k => k ≠ 22) K V κ tr X Z (f + 1) := by
  intro dp j p c l u hd hl ha
  rw [sp_2]
  refine Go_sq (a4 dp j p c l u hd ha) ?_
  generalize (sp K V κ f 4 dp j).2.1 = j1
  generalize (sp K V κ f 4 dp j).2.2 = cs
  intro hm h0 hz p2 l2 s2
  refine a3 dp j1 p p2 c _ _ u hd hl ha.1 (kS_le s2 (by decide)) trivial hm (fun q nr p3 l3 s4 => h0 q nr p3 l3 ?_) hz
  rw [List.append_assoc] at s4
  exact s4
theorem c1_step (R : RLs K V κ tr X Z Z0) {f : Nat} (a2 : CEk 3 2 (fun k => k ≠ 22) K V κ tr X Z f) (a1 : CLk 2 1 (fun k => k ≠ 22) (fun k => k ≠ 22 ∧ k ≠ 21) K V κ tr X Z f) : CLk 2 1 (fun k => k ≠ 22) (fun k => k ≠ 22 ∧ k ≠ 21) K V κ tr X Z (f + 1) := by
  obtain ⟨-, -, -, -, -, R6, -⟩ := R
  intro dp j p p1 c l l1 u hd hl hh s1 hk
  rw [sp_1]
  by_cases k : K j = 21
  · rw [if_pos k]
    have e1 : stl (rkO 22) p1 l1 = (p, l) := by rw [s1.1.1 _ (by decide)]; exact stl_lt hl
    have u1 : (u || decide ((22 : Int) = 23)) = u := by rw [decide_eq_false (by decide), Bool.or_false]
    have h1 : hre tr p1 := ⟨hh.1, by rw [s1.1.2]; exact hh.2⟩
    have ha : ahd tr (22 :: p) := ⟨⟨hh.1, by rw [opn_cons (by decide)]; exact hh.2⟩, Or.inr (by decide)⟩
    have g1 := a2 dp (j + 1) (22 :: p) c l u (by rw [ops_no (by decide), hd]) (show rkO 22 < 3 by decide) ha
    have up := R6 j p1 c l1 u 22 (Or.inr (Or.inr ⟨h1, s1.2.1, Or.inr (Or.inl ⟨k, rfl⟩)⟩))
    rw [e1, u1] at up
    refine Go_sq (Go_em (H := fun j' cs => ∀ l0, l0 ++ [(21, 0)] = cs → K j' ≠ 22 → ∀ p2 l2, kS 3 (K j') p2 l2 (22 :: p) (l ++ l0) → X (true, j', p2, c, l2, u)) (Go_to (Go_mono g1 (fun j' cs h => h cs rfl)) up)) ?_
    generalize (em (sp K V κ f 2 dp (j + 1)) (21, 0)).2.1 = j1
    generalize (em (sp K V κ f 2 dp (j + 1)) (21, 0)).2.2 = cs
    intro hm h0 hz l0 e0 nk p2 l2 s2
    subst e0
    have s3 : kS 2 (K j1) p2 l2 p (l ++ l0 ++ [(21, 0)]) := kS_pop (m' := 2) s2 (by decide) (by decide) (by decide) (by decide)
    refine a1 dp j1 p p2 c _ _ u hd hl hh s3 nk hm (fun q nr p3 l3 s4 => h0 q nr p3 l3 ?_) hz
    rw [List.append_assoc l l0, List.append_assoc] at s4
    exact s4
  · rw [if_neg k]
    refine Go_ok (fun h => h ⟨hk, k⟩ p1 l1 ?_)
    rw [List.append_nil]
    exact s1
theorem c0_step {f : Nat} (a2 : CEk 3 2 (fun k => k ≠ 22) K V κ tr X Z f) (a1 : CLk 2 1 (fun k => k ≠ 22) (fun k => k ≠ 22 ∧ k ≠ 21) K V κ tr X Z f) : CEk 2 0 (fun k => k ≠ 22 ∧ k ≠ 21) K V κ tr X Z (f + 1) := by
  intro dp j p c l u hd hl ha
  rw [sp_0]
  refine Go_sq (a2 dp j p c l u hd (ltT_le (by decide) hl) ha) ?_
  generalize (sp K V κ f 2 dp j).2.1 = j1
  generalize (sp K V κ f 2 dp j).2.2 = cs
  intro hm h0 hz nk p2 l2 s2
  refine a1 dp j1 p p2 c _ _ u hd hl ha.1 (kS_le s2 (by decide)) nk hm (fun q nr p3 l3 s4 => h0 q nr p3 l3 ?_) hz
  rw [List.append_assoc] at s4
  exact s4
theorem cM_step (R : RLs K V κ tr X Z Z0) {f : Nat} (a0 : CEk 2 0 (fun k => k ≠ 22 ∧ k ≠ 21) K V κ tr X Z f) (aM : CMo K V κ tr X Z f) : CMo K V κ tr X Z (f + 1) := by
  obtain ⟨-, -, -, -, -, -, R7, R8, R9, -, R11, -⟩ := R
  intro q dp j p p1 c l l1 u hd htr hq s1 hk ha
  rw [sp_p]
  have o1 : opn p1 = 41 := s1.1.2
  have nb : nob (K j) tr u p1 := ⟨s1.2.2, fun _ => ⟨fun w => absurd (s1.2.1.symm.trans w) (by decide), fun _ => ⟨hk.1, hk.2, fun _ => Or.inl (by rw [o1]; decide)⟩⟩⟩
  have e1 : stl 1 p1 l1 = (41 :: p, l) := by rw [s1.1.1 1 (by decide)]; exact stl_no (by decide)
  by_cases k44 : K j = 44
  · rw [if_pos k44]
    by_cases h6 : 16 ≤ 10 + q
    · rw [if_pos h6]
      have q6 : q = 6 := by omega
      subst q6
      exact Go_bad (by decide) (R8 j p1 c l1 u nb o1 s1.2.1 k44)
    · rw [if_neg h6]
      have g1 := a0 dp (j + 1) (41 :: p) (((q : Int) + 1) :: c) l u (by rw [ops_yes (by decide)]; omega) (show rkO 41 < 2 by decide) ha
      have up := R7 j p1 c l1 u (q : Int) nb o1 s1.2.1 k44 (by omega)
      rw [e1] at up
      refine Go_sq (Go_to g1 up) ?_
      generalize (sp K V κ f 0 dp (j + 1)).2.1 = j1
      generalize (sp K V κ f 0 dp (j + 1)).2.2 = cs
      intro hm h0 hz nk p2 l2 s2
      replace h0 : (sp K V κ f (10 + q + 1) dp j1).1 = 0 → X (true, (sp K V κ f (10 + q + 1) dp j1).2.1, 16 :: p, c, l ++ (cs ++ (sp K V κ f (10 + q + 1) dp j1).2.2), u) := h0
      have := aM (q + 1) dp j1 p p2 c _ l2 u hd htr (by omega) s2 nk ha hm (fun w => by have := h0 w; rw [← List.append_assoc] at this; exact this) hz
      exact this
  · rw [if_neg k44]
    by_cases k41 : K j = 41
    · rw [if_pos k41]
      refine Go_ok (fun h => ?_)
      have e : ((10 + q : Nat) : Int) - 10 = (q : Int) := by omega
      rw [e] at h
      exact R9 j p1 c l1 u (q : Int) p l nb o1 s1.2.1 k41 e1 h
    · rw [if_neg k41]
      exact Go_bad (by decide) (R11 j p1 ((q : Int) :: c) l1 u nb (Or.inr (Or.inl ⟨o1, k44, k41⟩)))
theorem sim_all (R : RLs K V κ tr X Z Z0) : ∀ f, C9 K V κ tr X Z f ∧ CLp 7 8 (fun _ => True) (fun k => k ≠ 42 ∧ k ≠ 47) K V κ X Z f ∧ CEn 7 7 (fun k => k ≠ 42 ∧ k ≠ 47) K V κ tr X Z f ∧ CLp 6 6 (fun k => k ≠ 42 ∧ k ≠ 47) nar K V κ X Z f ∧ CEn 6 5 nar K V κ tr X Z f ∧ C4 K V κ tr X Z f ∧ CLk 3 3 (fun _ => True) (fun k => k ≠ 22) K V κ tr X Z f ∧ CEk 3 2 (fun k => k ≠ 22) K V κ tr X Z f ∧ CLk 2 1 (fun k => k ≠ 22) (fun k => k ≠ 22 ∧ k ≠ 21) K V κ tr X Z f ∧ CEk 2 0 (fun k => k ≠ 22 ∧ k ≠ 21) K V κ tr X Z f ∧ CMo K V κ tr X Z f := by
  intro f
  induction f with
  | zero =>
    have z : ∀ {mo dp j : Nat} {H : Nat → List (Int × Int) → Prop} {A : Prop}, Go Z (sp K V κ 0 mo dp j) H A := fun hm _ _ => absurd rfl hm
    refine ⟨?_, ?_, ?_, ?_, ?_, ?_, ?_, ?_, ?_, ?_, ?_⟩
    · intro _ _ _ _ _ _ _ _; exact z
    · intro _ _ _ _ _ _ _ _ _ _ _ _ _; exact z
    · intro _ _ _ _ _ _ _ _ _ _; exact z
    · intro _ _ _ _ _ _ _ _ _ _ _ _ _; exact z
    · intro _ _ _ _ _ _ _ _ _ _; exact z
    · intro _ _ _ _ _ _ _ _; exact z
    · intro _ _ _ _ _ _ _ _ _ _ _ _ _; exact z
    · intro _ _ _ _ _ _ _ _ _; exact z
    · intro _ _ _ _ _ _ _ _ _ _ _ _ _; exact z
    · intro _ _ _ _ _ _ _ _ _; exact z
    · intro _ _ _ _ _ _ _ _ _ _ _ _ _ _ _; exact z
  | succ f ih =>
    obtain ⟨a9, a8, a7, a6, a5, a4, a3, a2, a1, a0, aM⟩ := ih
    exact ⟨c9_step R a5 a9, c8_step R a9 a8, c7_step a9 a8, c6_step R a7 a6, c5_step a7 a6, c4_step R a5 a4 a0 aM, c3_step R a4 a3, c2_step a4 a3, c1_step R a2 a1, c0_step a2 a1, cM_step R a0 aM⟩
/-- a law's words -/
theorem sim_law (R : RLs K V κ tr X Z Z0) {f j : Nat} {l : List (Int × Int)} : Go Z (lwS K V κ f tr j) (fun j' cs => Z0 j' (l ++ cs)) (X (false, j, [], [], l, false)) := by
  obtain ⟨-, -, -, -, a5, -, -, -, -, a0, -⟩ := sim_all R f
  obtain ⟨-, -, -, -, -, R6, -, -, -, -, -, R12⟩ := R
  unfold lwS
  by_cases h0 : tr = 0
  · rw [if_pos h0]
    refine Go_mono (a5 0 j [] [] l false rfl trivial (fun z => by cases z) (fun _ z => z.1.1 h0)) (fun j' cs h nr p2 l2 s2 => ?_)
    refine R12 j' p2 [] l2 false ⟨Or.inr nr, fun z => absurd h0 z.1⟩ s2.1.2 (fun z => absurd h0 z) ?_
    rw [s2.1.1 1 (by decide)]
    exact h
  · rw [if_neg h0]
    have ha : ahd tr [] := ⟨⟨h0, by show (-1 : Int) ≠ 40; decide⟩, trivial⟩
    refine Go_sq (a0 0 j [] [] l false rfl trivial ha) ?_
    generalize (sp K V κ f 0 0 j).2.1 = j1
    generalize (sp K V κ f 0 0 j).2.2 = cs
    show Go Z (if K j1 = 20 then em (sp K V κ f 0 0 (j1 + 1)) (20, 0) else (0, j1, [])) _ _
    by_cases k20 : K j1 = 20
    · rw [if_pos k20]
      have ha2 : ahd tr [23] := ⟨⟨h0, by show (-1 : Int) ≠ 40; decide⟩, Or.inr (by decide)⟩
      refine Go_em (Go_to (Go_mono (a0 0 (j1 + 1) [23] [] (l ++ cs) true rfl (show rkO 23 < 2 by decide) ha2) (fun j' cs' h nk p2 l2 s2 => ?_)) (fun hx nk p2 l2 s2 => ?_))
      · refine R12 j' p2 [] l2 true ⟨s2.2.2, fun _ => ⟨fun w => absurd (s2.2.1.symm.trans w) (by decide), fun _ => ⟨nk.1, nk.2, fun _ => Or.inr rfl⟩⟩⟩ s2.1.2 (fun _ => s2.2.1) ?_
        have e : stl 1 [23] (l ++ cs ++ cs') = ([], l ++ (cs ++ (cs' ++ [(20, 0)]))) := by
          rw [stl_go (by decide), if_neg (by decide), List.append_assoc, List.append_assoc]
          rfl
        rw [s2.1.1 1 (by decide), e]
        exact h
      · have o2 : opn p2 = -1 := s2.1.2
        have e1 : stl (rkO 23) p2 l2 = ([], l ++ cs) := s2.1.1 _ (by decide)
        have up := R6 j1 p2 [] l2 false 23 (Or.inr (Or.inr ⟨⟨h0, by rw [o2]; decide⟩, s2.2.1, Or.inr (Or.inr ⟨k20, rfl, o2, rfl⟩)⟩))
        rw [e1] at up
        exact up hx
    · rw [if_neg k20]
      refine Go_ok (fun h nk p2 l2 s2 => ?_)
      refine R12 j1 p2 [] l2 false ⟨s2.2.2, fun _ => ⟨fun w => absurd (s2.2.1.symm.trans w) (by decide), fun _ => ⟨nk.1, nk.2, fun w => absurd w k20⟩⟩⟩ s2.1.2 (fun _ => s2.2.1) ?_
      rw [s2.1.1 1 (by decide)]
      rw [List.append_nil] at h
      exact h
end Sim3
