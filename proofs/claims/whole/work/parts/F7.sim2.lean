/-! the machine reads as sp does: sums, what is asked -/
section Sim2
variable {K V : Nat → Int} {κ tr : Int} {X : pS → Prop} {Z : Int → Nat → Prop} {Z0 : Nat → List (Int × Int) → Prop}
theorem c6_step (R : RLs K V κ tr X Z Z0) {f : Nat} (a7 : CEn 7 7 (fun k => k ≠ 42 ∧ k ≠ 47) K V κ tr X Z f) (a6 : CLp 6 6 (fun k => k ≠ 42 ∧ k ≠ 47) nar K V κ X Z f) : CLp 6 6 (fun k => k ≠ 42 ∧ k ≠ 47) nar K V κ X Z (f + 1) := by
  obtain ⟨-, -, -, -, -, R6, -⟩ := R
  intro dp j p p1 c l l1 u hd hl h16 s1 hk
  rw [sp_6]
  by_cases k : K j = 43 ∨ K j = 45
  · rw [if_pos k]
    have st : ∀ o, arO (K j) o → rkO o = 6 → ¬ isOp o → o ≠ 16 → ¬ 40 ≤ o → enO o = K j → Go Z (sq (em (sp K V κ f 7 dp (j + 1)) (K j, 0)) (fun j => sp K V κ f 6 dp j)) (fun j' cs => nar (K j') → ∀ p2 l2, sS 6 p2 l2 p (l ++ cs) → X (true, j', p2, c, l2, u)) (X (true, j, p1, c, l1, u)) := fun o ho r7 nop n16 n40 en => by
      have e1 : stl (rkO o) p1 l1 = (p, l) := by rw [s1.1.1 _ (by omega), r7, stl_lt hl]
      have u1 : (u || decide (o = 23)) = u := by rw [decide_eq_false (by omega), Bool.or_false]
      have g1 := a7 dp (j + 1) (o :: p) c l u (by rw [ops_no nop, hd]) (show rkO o < 7 by omega) (hd_ne n16) (fun _ => na_hi (by omega) (by omega))
      have up := R6 j p1 c l1 u o (Or.inl ⟨s1.2.2, ho⟩)
      rw [e1, u1] at up
      refine Go_sq (Go_em (H := fun j' cs => ∀ l0, l0 ++ [(K j, 0)] = cs → (K j' ≠ 42 ∧ K j' ≠ 47) → ∀ p2 l2, sS 7 p2 l2 (o :: p) (l ++ l0) → X (true, j', p2, c, l2, u)) (Go_to (Go_mono g1 (fun j' cs h => h cs rfl)) up)) ?_
      generalize (em (sp K V κ f 7 dp (j + 1)) (K j, 0)).2.1 = j1
      generalize (em (sp K V κ f 7 dp (j + 1)) (K j, 0)).2.2 = cs
      intro hm h0 hz l0 e0 nk p2 l2 s2
      subst e0
      have s3 : sS 6 p2 l2 p (l ++ l0 ++ [(K j, 0)]) := by
        have := sS_pop (m' := 6) s2 n40 n16 (by omega) (by omega) (by decide)
        rw [en] at this
        exact this
      refine a6 dp j1 p p2 c _ _ u hd hl h16 s3 nk hm (fun q nr p3 l3 s4 => h0 q nr p3 l3 ?_) hz
      rw [List.append_assoc l l0, List.append_assoc] at s4
      exact s4
    rcases k with k | k
    · exact st 5 (Or.inl ⟨k, rfl⟩) (by decide) (by decide) (by decide) (by decide) (by rw [k]; decide)
    · exact st 6 (Or.inr (Or.inl ⟨k, rfl⟩)) (by decide) (by decide) (by decide) (by decide) (by rw [k]; decide)
  · rw [if_neg k]
    refine Go_ok (fun h => h (by omega) p1 l1 ?_)
    rw [List.append_nil]
    exact s1
theorem c5_step {f : Nat} (a7 : CEn 7 7 (fun k => k ≠ 42 ∧ k ≠ 47) K V κ tr X Z f) (a6 : CLp 6 6 (fun k => k ≠ 42 ∧ k ≠ 47) nar K V κ X Z f) : CEn 6 5 nar K V κ tr X Z (f + 1) := by
  intro dp j p c l u hd hl h16 he
  rw [sp_5]
  refine Go_sq (a7 dp j p c l u hd (ltT_le (by decide) hl) h16 he) ?_
  generalize (sp K V κ f 7 dp j).2.1 = j1
  generalize (sp K V κ f 7 dp j).2.2 = cs
  intro hm h0 hz nk p2 l2 s2
  refine a6 dp j1 p p2 c _ _ u hd hl h16 (sS_le s2 (by decide)) nk hm (fun q nr p3 l3 s4 => h0 q nr p3 l3 ?_) hz
  rw [List.append_assoc] at s4
  exact s4
/-- what is asked -/
theorem c4_step (R : RLs K V κ tr X Z Z0) {f : Nat} (a5 : CEn 6 5 nar K V κ tr X Z f) (a4 : C4 K V κ tr X Z f) (a0 : CEk 2 0 (fun k => k ≠ 22 ∧ k ≠ 21) K V κ tr X Z f) (aM : CMo K V κ tr X Z f) : C4 K V κ tr X Z (f + 1) := by
  obtain ⟨-, R2, R3, R4, R5, R6, -, -, -, -, R11, -⟩ := R
  intro dp j p c l u hd ha
  rw [sp_4]
  by_cases k23 : K j = 23
  · rw [if_pos k23]
    by_cases h8 : 8 ≤ dp
    · rw [if_pos h8]
      exact Go_bad (by decide) (R2 j p c l u 3 j (Or.inr (Or.inr (Or.inl ⟨by omega, Or.inr (Or.inr ⟨ha, Or.inl k23⟩), rfl, rfl⟩))))
    · rw [if_neg h8]
      have ha2 : ahd tr (20 :: p) := ⟨⟨ha.1.1, by rw [opn_cons (by decide)]; exact ha.1.2⟩, Or.inr (by decide)⟩
      have g1 := a4 (dp + 1) (j + 1) (20 :: p) c l u (by rw [ops_yes (by decide), hd]) ha2
      refine Go_em (Go_to (Go_mono g1 (fun j' cs h p2 l2 s2 => h p2 l2 ?_)) (R3 j p c l u 20 (by omega) (Or.inr (Or.inr ⟨k23, ha, rfl⟩))))
      have := kS_pop (m' := 4) s2 (by decide) (by decide) (by decide) (by decide)
      rw [List.append_assoc] at this
      exact this
  rw [if_neg k23]
  by_cases k25 : K j = 25
  · rw [if_pos k25]
    by_cases h8 : 8 ≤ dp
    · rw [if_pos h8]
      exact Go_bad (by decide) (R2 j p c l u 3 j (Or.inr (Or.inr (Or.inl ⟨by omega, Or.inr (Or.inr ⟨ha, Or.inr k25⟩), rfl, rfl⟩))))
    rw [if_neg h8]
    by_cases k40 : K (j + 1) = 40
    · rw [if_pos k40]
      have ha2 : ahd tr (41 :: p) := ⟨⟨ha.1.1, by show (41 : Int) ≠ 40; decide⟩, Or.inl rfl⟩
      have g1 := a0 (dp + 1) (j + 2) (41 :: p) (1 :: c) l u (by rw [ops_yes (by decide), hd]) (show rkO 41 < 2 by decide) ha2
      refine Go_sq (Go_to g1 (R4 j p c l u (by omega) ha k25 k40)) ?_
      generalize (sp K V κ f 0 (dp + 1) (j + 2)).2.1 = j1
      generalize (sp K V κ f 0 (dp + 1) (j + 2)).2.2 = cs
      intro hm h0 hz nk p2 l2 s2
      refine aM 1 (dp + 1) j1 p p2 c _ l2 u (by omega) ha.1.1 (by decide) s2 nk ha2 hm (fun q => h0 q _ _ ?_) hz
      rw [← List.append_assoc]
      exact ⟨⟨fun m' hm' => by rw [stl_go (by have : rkO 16 = 5 := by decide
                                              omega), if_pos rfl], opn_cons (by decide)⟩, cmd_5 (by decide), Or.inl rfl⟩
    · rw [if_neg k40]
      exact Go_bad (by decide) (R2 j p c l u 1 (j + 1) (Or.inr (Or.inr (Or.inr (Or.inl ⟨by omega, ha, k25, k40, rfl, rfl⟩)))))
  rw [if_neg k25]
  by_cases k24 : K j = 24
  · rw [if_pos k24]
    by_cases h4 : 4 ≤ κ
    · rw [if_pos h4]
      exact Go_bad (by decide) (R2 j p c l u 5 j (Or.inr (Or.inr (Or.inr (Or.inr (Or.inl ⟨ha, k24, h4, rfl, rfl⟩))))))
    rw [if_neg h4]
    by_cases k72 : K (j + 1) = 72
    · rw [if_pos k72]
      by_cases h7 : 7 < V (j + 1)
      · rw [if_pos h7]
        exact Go_bad (by decide) (R2 j p c l u 2 (j + 1) (Or.inr (Or.inr (Or.inr (Or.inr (Or.inr (Or.inr (Or.inl ⟨ha, k24, by omega, k72, h7, rfl, rfl⟩))))))))
      · rw [if_neg h7]
        refine Go_ok (fun h => R5 j p c l u ha k24 (by omega) k72 (by omega) (h _ _ ?_))
        exact ⟨⟨fun m' hm' => by rw [stl_go (by have : rkO 16 = 5 := by decide
                                                omega), if_pos rfl], opn_cons (by decide)⟩, cmd_5 (by decide), Or.inl rfl⟩
    · rw [if_neg k72]
      exact Go_bad (by decide) (R2 j p c l u 1 (j + 1) (Or.inr (Or.inr (Or.inr (Or.inr (Or.inr (Or.inl ⟨ha, k24, by omega, k72, rfl, rfl⟩)))))))
  rw [if_neg k24]
  have hl5 := ahd_lt ha
  have hc := ahd_cmd ha
  refine Go_sq (a5 dp j p c l u hd (ltT_le (by decide) hl5) (ahd_16 ha) (fun z => absurd z (by omega))) ?_
  generalize (sp K V κ f 5 dp j).2.1 = j1
  generalize (sp K V κ f 5 dp j).2.2 = cs
  show Go Z (if cmpK (K j1) then em (sp K V κ f 5 dp (j1 + 1)) (K j1, 0) else (1, j1, [])) _ _
  by_cases kc : cmpK (K j1)
  · rw [if_pos kc]
    have st : ∀ o, cmO (K j1) o → rkO o = 5 → ¬ isOp o → o ≠ 16 → ¬ 40 ≤ o → enO o = K j1 → Go Z (em (sp K V κ f 5 dp (j1 + 1)) (K j1, 0)) (fun j' cs' => ∀ p2 l2, kS 4 (K j') p2 l2 p (l ++ (cs ++ cs')) → X (true, j', p2, c, l2, u)) (nar (K j1) → ∀ p2 l2, sS 6 p2 l2 p (l ++ cs) → X (true, j1, p2, c, l2, u)) := fun o ho r5 nop n16 n40 en => by
      have g1 := a5 dp (j1 + 1) (o :: p) c (l ++ cs) u (by rw [ops_no nop, hd]) (show rkO o < 6 by omega) (hd_ne n16) (fun _ => na_hi (by omega) (by omega))
      refine Go_em (Go_to (Go_mono g1 (fun j' cs' h nr p2 l2 s2 => h p2 l2 ?_)) (fun hx nr p2 l2 s2 => ?_))
      · have s3 := aS_pop (m' := 4) s2.1 n40 n16 (by omega) (by decide)
        rw [en, List.append_assoc, List.append_assoc] at s3
        exact ⟨s3, by rw [s2.2.1]; exact cmd_5 r5, Or.inr nr⟩
      · have e1 : stl (rkO o) p2 l2 = (p, l ++ cs) := by rw [s2.1.1 _ (by omega), r5, stl_lt hl5]
        have u1 : (u || decide (o = 23)) = u := by rw [decide_eq_false (by omega), Bool.or_false]
        have up := R6 j1 p2 c l2 u o (Or.inr (Or.inl ⟨⟨ha.1.1, by rw [s2.1.2]; exact ha.1.2⟩, by rw [s2.2.1]; exact hc, nr, ho⟩))
        rw [e1, u1] at up
        exact up hx
    rcases kc with q | q | q | q | q | q
    · exact st 10 (by omega) (by decide) (by decide) (by decide) (by decide) (by rw [q]; decide)
    · exact st 12 (by omega) (by decide) (by decide) (by decide) (by decide) (by rw [q]; decide)
    · exact st 14 (by omega) (by decide) (by decide) (by decide) (by decide) (by rw [q]; decide)
    · exact st 15 (by omega) (by decide) (by decide) (by decide) (by decide) (by rw [q]; decide)
    · exact st 11 (by omega) (by decide) (by decide) (by decide) (by decide) (by rw [q]; decide)
    · exact st 13 (by omega) (by decide) (by decide) (by decide) (by decide) (by rw [q]; decide)
  · rw [if_neg kc]
    refine Go_bad (by decide) (fun z nr p2 l2 s2 => ?_)
    have c2 : cmd p2 = false := by rw [s2.2.1]; exact hc
    have o2 : opn p2 = opn p := s2.1.2
    have h2 : hre tr p2 := ⟨ha.1.1, by rw [o2]; exact ha.1.2⟩
    exact R11 j1 p2 c l2 u ⟨Or.inr nr, fun _ => ⟨fun _ => kc, fun w => absurd (c2.symm.trans w) (by decide)⟩⟩ (Or.inl ⟨h2, c2⟩) z
end Sim2
