/-! the class's Reader: ask; all together -/
section Reader10
variable {g : Option Nat} {n : Nat} {P : xP} {t J : Nat} {K V p : Nat → Int} {κ : Int}
theorem c_compares {d : Nat} {M : xM} {F : xM → Int → Prop} (hn : 83 ≤ n) (hT : x_Text n P t) (hr0 : P 82 0 = some 37) (hr1 : P 82 1 = some t) {a : Int} (H : F M (bi (cmpK a))) : xCI Y_X4_compares g d [vI a] n P M F := by
  have yes : cmpK a → F M 1 := fun h => by rwa [bi_t h] at H
  have no : ¬ cmpK a → F M 0 := fun h => by rwa [bi_f h] at H
  exact b_X4_compares hn hT hr0 hr1 ⟨fun q => yes (by omega), fun q1 => ⟨fun q => yes (by omega), fun q2 => ⟨fun q => yes (by omega), fun q3 => ⟨fun q => yes (by omega), fun q4 => ⟨fun q => yes (by omega), fun q5 => ⟨fun q => no (by omega), fun q => yes (by omega)⟩⟩⟩⟩⟩⟩
theorem ask_step (hn : 83 ≤ n) (hP : x_PP P) (hT : x_Text n P t) (hr0 : P 82 0 = some 37) (hr1 : P 82 1 = some t) (ht : 43 ≤ t ∧ t ≤ 58) (hJ : ∀ j, j ≤ J → (K j = 73 ↔ j = J)) (hV : ∀ j, 0 ≤ V j ∧ V j ≤ 10000) {f : Nat} (hS : CR g n P t J K V p κ Y_X4_readSum 5 4 f) (hA : CR g n P t J K V p κ Y_X4_readAsk 4 5 f) (hE : CR g n P t J K V p κ Y_X4_readEither 0 7 f) (hM : CM g n P t J K V p κ f) : CR g n P t J K V p κ Y_X4_readAsk 4 5 (f + 1) := by
  intro dp j l M F D hdp hD hf hc H
  obtain ⟨D', rfl⟩ : ∃ D', D = D' + 3 := ⟨D - 3, by omega⟩
  have hn2 : 82 ≤ n := by omega
  have h2 := hc.2.1.2.1
  have h3 := hc.2.1.2.2.1
  have h4 := hc.2.1.2.2.2
  have hl := hc.2.2.2
  have r0 : rkM 0 = 6 := rfl
  have r4 : rkM 4 = 4 := rfl
  have r5 : rkM 5 = 3 := rfl
  have c0 : cM 0 = 1 := rfl
  have c4 : cM 4 = 1 := rfl
  have c5 : cM 5 = 1 := rfl
  have lt : ∀ k : Int, K j = k → k ≠ 73 → j < J := fun k e hk => by
    have : j ≠ J := fun q => hk (by rw [← e]; exact (hJ j h3).mpr q)
    omega
  rw [sp_4] at H
  refine b_X4_readAsk hn hP hT hr0 hr1 ⟨fun n23 => ⟨fun n25 => ⟨fun n24 => ?_, fun y24 => ?_⟩, fun y25 => ?_⟩, fun y23 => ?_⟩
  · -- a comparison
    rw [h2] at n23 n25 n24
    rw [if_neg n23, if_neg n25, if_neg n24] at H
    have so := sp_ok (V := V) (κ := κ) hJ f 5 dp j h3 (by omega) (by omega)
    refine hS dp j l M _ (D' + 2) hdp (by omega) (by omega) hc (fun M1 z1 o1 r1 => ⟨fun z => ?_, fun z => ?_⟩)
    · obtain ⟨q1, q2, q3⟩ := rdP_ok r1 z
      have sz := so.2.2 q1
      generalize hj1 : (sp K V κ f 5 dp j).2.1 = j1 at *
      generalize hl1 : (sp K V κ f 5 dp j).2.2 = l1 at *
      have e3 := q3.2.1.2.1
      have j1J := q3.2.1.2.2.1
      refine c_compares hn hT hr0 hr1 ⟨fun y => ?_, fun y => ?_⟩
      · rw [e3] at y ⊢
        have yc := bi_n0.mp y
        have lt1 : j1 < J := by
          have : j1 ≠ J := fun e => by have := (hJ j1 j1J).mpr e; omega
          omega
        have so2 := sp_ok (V := V) (κ := κ) hJ f 5 dp (j1 + 1) lt1 (by omega) (by omega)
        have res : ∀ M' z, rdP t J K V p κ (l ++ l1) (em (sp K V κ f 5 dp (j1 + 1)) (K j1, 0)) M' z → rdP t J K V p κ l (sq (sp K V κ f 5 dp j) (fun j => if cmpK (K j) then em (sp K V κ f 5 dp (j + 1)) (K j, 0) else (1, j, []))) M' z := fun M' z hr => by
          refine rdP_sq2 q1 ?_
          rw [hl1, hj1]
          show rdP t J K V p κ (l ++ l1) (if cmpK (K j1) then em (sp K V κ f 5 dp (j1 + 1)) (K j1, 0) else (1, j1, [])) M' z
          rw [if_pos yc]
          exact hr
        refine k_advance hn hP hT hr0 hr1 ht q3 lt1 (fun M2 o2 c2 _ => hS dp (j1 + 1) _ M2 _ (D' + 2) hdp (by omega) (by omega) c2 (fun M3 z3 o3 r3 => ?_))
        rcases rdP_z r3 with z0 | z1'
        · obtain ⟨p1, p2⟩ := rdP_no r3 z0
          subst z0
          exact k_emitF hn2 hP hT ht p2 (fun M4 o4 f4 => ⟨Or.inl rfl, H M4 0 (offX_trans o1 (offX_trans o2 (offX_trans o3 o4))) (res M4 0 (rdP_em1 p1 f4))⟩)
        · obtain ⟨p1, p2, p3⟩ := rdP_ok r3 (by omega)
          subst z1'
          have sz2 := so2.2.2 p1
          have len1 : (l ++ l1).length = l.length + l1.length := List.length_append
          exact k_emit hn2 hP hT ht p3 (by rw [List.length_append]; omega) (by omega) (by omega) (by decide) (fun M4 o4 c4 => ⟨Or.inr rfl, H M4 1 (offX_trans o1 (offX_trans o2 (offX_trans o3 o4))) (res M4 1 (rdP_em2 p1 c4))⟩)
      · rw [e3] at y
        have nc := bi_0.mp y
        refine k_refuse hn hP hT hr0 hr1 ht q3 (fun M2 o2 f2 => ⟨Or.inl rfl, H M2 0 (offX_trans o1 o2) (rdP_sq2 q1 ?_)⟩)
        rw [hl1, hj1]
        show rdP t J K V p κ (l ++ l1) (if cmpK (K j1) then em (sp K V κ f 5 dp (j1 + 1)) (K j1, 0) else (1, j1, [])) M2 0
        rw [if_neg nc]
        exact Or.inr ⟨by show (1 : Int) ≠ 0; decide, rfl, f2⟩
    · obtain ⟨q1, q2⟩ := rdP_no r1 z
      exact H M1 0 o1 (rdP_sq1 q1 q2)
  · -- a fact
    rw [h2] at n23 n25 y24
    have l1 := lt 24 y24 (by decide)
    rw [if_neg n23, if_neg n25, if_pos y24] at H
    refine b_X4_readFact (d := D') hn hP hT hr0 hr1 ⟨fun k4 => ?_, fun k4 => ?_⟩
    · rw [h4] at k4
      rw [if_neg (by omega)] at H
      refine k_advance hn hP hT hr0 hr1 ht hc l1 (fun M1 o1 c1 _ => k_takeNumber hn hP hT hr0 hr1 ht hJ c1 (fun y72 hv M2 o2 c2 e5 => ?_) (fun y72 hv M2 o2 f2 => ?_) (fun n72 M2 o2 f2 => ?_))
      · rw [if_pos y72, if_neg (by omega)] at H
        rw [e5]
        exact k_emitFact hn2 hP hT ht c2 (by omega) (by omega) (fun M3 o3 c3 => ⟨Or.inr rfl, Or.inr rfl, H M3 1 (offX_trans o1 (offX_trans o2 o3)) (Or.inl ⟨rfl, rfl, c3⟩)⟩)
      · rw [if_pos y72, if_pos (by have := hV (j + 1); omega)] at H
        exact k_emitFactF hn2 hP hT ht f2 (fun M3 o3 f3 => ⟨Or.inl rfl, Or.inl rfl, H M3 0 (offX_trans o1 (offX_trans o2 o3)) (Or.inr ⟨by show (2 : Int) ≠ 0; decide, rfl, f3⟩)⟩)
      · rw [if_neg n72] at H
        exact k_emitFactF hn2 hP hT ht f2 (fun M3 o3 f3 => ⟨Or.inl rfl, Or.inl rfl, H M3 0 (offX_trans o1 (offX_trans o2 o3)) (Or.inr ⟨by show (1 : Int) ≠ 0; decide, rfl, f3⟩)⟩)
    · rw [h4] at k4
      rw [if_pos (by omega)] at H
      exact k_refuse hn hP hT hr0 hr1 ht hc (fun M1 o1 f1 => ⟨Or.inl rfl, Or.inl rfl, H M1 0 o1 (Or.inr ⟨by show (5 : Int) ≠ 0; decide, rfl, f1⟩)⟩)
  · -- most
    rw [h2] at n23 y25
    have l1 := lt 25 y25 (by decide)
    rw [if_neg n23, if_pos y25] at H
    refine k_open hn hP hT hr0 hr1 ht hc l1 (fun d8 M1 o1 c1 => ⟨fun z => absurd z (by decide), fun _ => ⟨by unfold inR; omega, ?_⟩⟩) (fun d8 M1 o1 f1 => ⟨fun _ => ?_, fun z => absurd rfl z⟩)
    · rw [if_neg (by omega)] at H
      obtain ⟨D2, hD2⟩ : ∃ D2, D' + 2 = D2 + 3 := ⟨D' - 1, by omega⟩
      rw [hD2]
      have fail25 : ∀ (N : xM) (e : Int) (i : Nat) (x3 : Int), flt t J K V p N e i → (∀ M', offX t N M' → flt t J K V p M' e i → ((0 : Int) = 0 → F M' 0) ∧ (¬ (0 : Int) = 0 → F M' 1)) → xW Y_X4_readMost g (D2 + 3) 0 0 25 [(0, vR (some 82)), (1, vI ((dp : Int) + 1)), (2, vI 0), (3, vI x3)] [] (0, 0) (n, P, N) (kI n P (fun M' z => ((z = 0 → F M' 0) ∧ (¬ z = 0 → F M' 1)))) := fun N e i x3 hf hF => b_X4_readMost_25 hn hP hT hr0 hr1 ⟨fun _ => b_X4_readMost_60 hn hP hT hr0 hr1 ⟨fun _ => b_X4_readMost_80 hn hP hT hr0 hr1 (k_emitF hn2 hP hT ht hf (fun M' o' f' => ⟨fun _ => hF M' o' f', fun z => absurd rfl z⟩)), fun z => absurd rfl z⟩, fun z => absurd rfl z⟩
      refine b_X4_readMost hn hP hT hr0 hr1 (k_take hn hP hT hr0 hr1 ht hJ (by decide) c1 (fun y40 M2 o2 c2 => ⟨fun z => absurd z (by decide), fun _ => ?_⟩) (fun n40 M2 o2 f2 => ⟨fun _ => ?_, fun z => absurd rfl z⟩))
      · rw [if_pos y40] at H
        have l2 : j + 1 < J := by
          have : j + 1 ≠ J := fun e => by have := (hJ (j + 1) (by omega)).mpr e; omega
          omega
        have so := sp_ok (V := V) (κ := κ) hJ f 0 (dp + 1) (j + 2) (by omega) (by omega) (by omega)
        have := hE (dp + 1) (j + 2) l M2 (fun M3 z3 => ((z3 = 0 → xW Y_X4_readMost g (D2 + 3) 0 0 21 [(0, vR (some 82)), (1, vI ((dp : Int) + 1))] [] (0, 0) (n, P, M3) (kI n P (fun M' z => ((z = 0 → F M' 0) ∧ (¬ z = 0 → F M' 1))))) ∧ (¬ z3 = 0 → xW Y_X4_readMost g (D2 + 3) 0 0 22 [(0, vR (some 82)), (1, vI ((dp : Int) + 1))] [vI 1] (0, 0) (n, P, M3) (kI n P (fun M' z => ((z = 0 → F M' 0) ∧ (¬ z = 0 → F M' 1))))))) (D2 + 2) (by omega) (by omega) (by omega) c2 (fun M3 z3 o3 r3 => ⟨fun z => ?_, fun z => ?_⟩)
        · rw [show ((dp + 1 : Nat) : Int) = (dp : Int) + 1 by omega] at this
          exact this
        · obtain ⟨q1, q2⟩ := rdP_no r3 z
          exact b_X4_readMost_21 hn hP hT hr0 hr1 (b_X4_readMost_22 hn hP hT hr0 hr1 (fail25 M3 _ _ _ q2 (fun M4 o4 f4 => ⟨fun _ => H M4 0 (offX_trans o1 (offX_trans o2 (offX_trans o3 o4))) (rdP_sq1 q1 f4), fun z => absurd rfl z⟩)))
        · obtain ⟨q1, q2, q3⟩ := rdP_ok r3 z
          have sz := so.2.2 q1
          have mm := hM 1 (dp + 1) _ _ M3 (fun M' z => ((z = 0 → F M' 0) ∧ (¬ z = 0 → F M' 1))) (D2 + 3) (by omega) (by omega) (by omega) (by omega) q3 (fun M4 z4 o4 r4 => ⟨fun z => by
            subst z
            exact H M4 0 (offX_trans o1 (offX_trans o2 (offX_trans o3 o4))) (rdP_sq2 q1 r4), fun z => by
            have e1 : z4 = 1 := by rcases rdP_z r4 with w | w; exact absurd w z; exact w
            subst e1
            exact H M4 1 (offX_trans o1 (offX_trans o2 (offX_trans o3 o4))) (rdP_sq2 q1 r4)⟩)
          rw [show ((dp + 1 : Nat) : Int) = (dp : Int) + 1 by omega] at mm
          exact b_X4_readMost_22 hn hP hT hr0 hr1 mm
      · rw [if_neg n40] at H
        exact b_X4_readMost_21 hn hP hT hr0 hr1 (b_X4_readMost_22 hn hP hT hr0 hr1 (fail25 M2 _ _ _ f2 (fun M4 o4 f4 => ⟨fun _ => H M4 0 (offX_trans o1 (offX_trans o2 o4)) (Or.inr ⟨by show (1 : Int) ≠ 0; decide, rfl, f4⟩), fun z => absurd rfl z⟩)))
    · rw [if_pos (by omega)] at H
      exact H M1 0 o1 (Or.inr ⟨by show (3 : Int) ≠ 0; decide, rfl, f1⟩)
  · -- not
    rw [h2] at y23
    have l1 := lt 23 y23 (by decide)
    rw [if_pos y23] at H
    refine k_open hn hP hT hr0 hr1 ht hc l1 (fun d8 M1 o1 c1 => ⟨fun z => absurd z (by decide), fun _ => ⟨by unfold inR; omega, ?_⟩⟩) (fun d8 M1 o1 f1 => ⟨fun _ => ?_, fun z => absurd rfl z⟩)
    · rw [if_neg (by omega)] at H
      obtain ⟨D2, hD2⟩ : ∃ D2, D' + 2 = D2 + 3 := ⟨D' - 1, by omega⟩
      rw [hD2]
      have so := sp_ok (V := V) (κ := κ) hJ f 4 (dp + 1) (j + 1) l1 (by omega) (by omega)
      refine b_X4_readNot hn hP hT hr0 hr1 ?_
      have := hA (dp + 1) (j + 1) l M1 (fun M3 z3 => xCV Y_X7_emit g (D2 + 2) [vR (some t), vI 23, vI 0] n P M3 (fun M2 => (z3 = 0 ∨ z3 = 1) ∧ ((z3 = 0 → F M2 0) ∧ (¬ z3 = 0 → F M2 1)))) (D2 + 2) (by omega) (by omega) (by omega) c1 (fun M3 z3 o3 r3 => ?_)
      · rw [show ((dp + 1 : Nat) : Int) = (dp : Int) + 1 by omega] at this
        exact this
      · rcases rdP_z r3 with z0 | z1
        · obtain ⟨q1, q2⟩ := rdP_no r3 z0
          subst z0
          exact k_emitF hn2 hP hT ht q2 (fun M4 o4 f4 => ⟨Or.inl rfl, fun _ => H M4 0 (offX_trans o1 (offX_trans o3 o4)) (rdP_em1 q1 f4), fun z => absurd rfl z⟩)
        · obtain ⟨q1, q2, q3⟩ := rdP_ok r3 (by omega)
          subst z1
          have sz := so.2.2 q1
          exact k_emit hn2 hP hT ht q3 (by rw [List.length_append]; omega) (by decide) (by decide) (by decide) (fun M4 o4 c4 => ⟨Or.inr rfl, fun z => absurd z (by decide), fun _ => H M4 1 (offX_trans o1 (offX_trans o3 o4)) (rdP_em2 q1 c4)⟩)
    · rw [if_pos (by omega)] at H
      exact H M1 0 o1 (Or.inr ⟨by show (3 : Int) ≠ 0; decide, rfl, f1⟩)
end Reader10
