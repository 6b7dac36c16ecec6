/-! the class's Reader: one -/
section Reader4
variable {g : Option Nat} {d n : Nat} {P : xP} {M : xM} {F : xM → Int → Prop} {G : xM → Prop} {t J : Nat} {K V p : Nat → Int} {κ : Int}
/-- a name is written before its token is gone past -/
theorem k_nameOn (hn : 83 ≤ n) (hP : x_PP P) (hT : x_Text n P t) (hr0 : P 82 0 = some 37) (hr1 : P 82 1 = some t) (ht : 43 ≤ t ∧ t ≤ 58) {j : Nat} {l : List (Int × Int)} {o v : Int} (h : cl t J K V p κ M j l) (hj : j < J) (ho : 0 ≤ o ∧ o < 128) (h24 : o ≠ 24) (hv : 0 ≤ v ∧ v < 16384) (H : ∀ M', offX t M M' → cl t J K V p κ M' (j + 1) (l ++ [(o, v)]) → G M') : xCV Y_X7_emit g d [vR (some t), vI o, vI v] n P M (fun M2 => xCV Y_X4_advance g d [vR (some 82)] n P M2 G) := by
  obtain ⟨⟨k1, k2, k3⟩, ⟨h1, h2, h3, h4⟩, ⟨p1, p2, p3, h82⟩, h6⟩ := h
  have len : (l ++ [(o, v)]).length = l.length + 1 := by rw [List.length_append]; rfl
  refine b_X7_emit (by omega) hP hT ⟨fun q => absurd q (by omega), fun q => ⟨by omega, by rw [x_upd_nb (by omega)]; unfold inR; omega, ?_⟩⟩
  have e1 : x_upd M (t + 1) (M t 1) (x_or (x_shl o 14) v) t 1 = M t 1 := x_upd_nb (by omega)
  rw [e1, p1, x_pack ho hv]
  generalize hN : x_upd (x_upd M (t + 1) (l.length : Int) (o * 16384 + v)) t 1 ((l.length : Int) + 1) = N
  have off : offX t M N := by
    rw [← hN]
    exact ⟨fun c c1 c2 c3 => by funext q; rw [x_upd_nb c2, x_upd_nb c3], fun k k1 _ => by rw [x_upd_nj k1, x_upd_nb (by omega)]⟩
  have n82 : N 82 = M 82 := by rw [← hN]; funext q; rw [x_upd_nb (by omega), x_upd_nb (by omega)]
  have tk := tokC_X ht off ⟨k1, k2, k3⟩
  have pgN : pg t (l ++ [(o, v)]) N := by
    rw [← hN]
    refine ⟨by rw [x_upd_at, len]; omega, fun i hi => ?_, ?_⟩
    · rw [len] at hi
      rw [x_upd_nb (by omega)]
      by_cases q : i = l.length
      · subst q
        rw [x_upd_at, List.getD_eq_getElem?_getD, List.getElem?_append_right (Nat.le_refl _), Nat.sub_self]
        rfl
      · rw [x_upd_nj (by omega), List.getD_eq_getElem?_getD, List.getElem?_append_left (by omega), ← List.getD_eq_getElem?_getD]
        exact p2 i (by omega)
    · refine ⟨?_, by rw [x_upd_nb (by omega), x_upd_nb (by omega)]; exact h82.1, by rw [x_upd_nb (by omega), x_upd_nb (by omega)]; exact h82.2⟩
      rw [x_upd_nj (by decide), x_upd_nb (by omega), fcs_app, p3]
      show fcs l 0 = if o = 24 then _ else fcs l 0
      rw [if_neg h24]
  obtain ⟨t1, t2, t3⟩ := tk
  have kj := (t3 (j + 1) (by omega)).1
  refine b_X4_advance hn hP hT hr0 hr1 ⟨by rw [n82]; unfold inR; omega, fun q => absurd q (by rw [n82]; omega), fun q => ⟨by rw [n82]; unfold inR; omega, by rw [n82]; omega, ?_⟩⟩
  rw [n82, h1, show (j : Int) + 1 = ((j + 1 : Nat) : Int) by omega, kj]
  have o2 : offX t M (x_upd (x_upd N 82 2 ((j + 1 : Nat) : Int)) 82 3 (K (j + 1))) := offX_82 (by omega) (offX_82 (by omega) off)
  refine H _ o2 ⟨tokC_X ht o2 ⟨k1, k2, k3⟩, ⟨?_, ?_, by omega, ?_⟩, pg_82 ht (pg_82 ht pgN), by omega⟩
  · rw [x_upd_nj (by decide), x_upd_at]
  · rw [x_upd_at]
  · rw [x_upd_nj (by decide), x_upd_nj (by decide), n82]; exact h4
theorem k_isOfLaw (hn : 83 ≤ n) (hP : x_PP P) (hT : x_Text n P t) (hr0 : P 82 0 = some 37) (hr1 : P 82 1 = some t) {v : Int} (hv : 0 ≤ v ∧ v ≤ 7) (H : F M (bi (ofL (M 82 4) v))) : xCI Y_X4_isOfLaw g d [vR (some 82), vI v] n P M F := by
  have yes : ofL (M 82 4) v → F M 1 := fun h => by rwa [bi_t h] at H
  have no : ¬ ofL (M 82 4) v → F M 0 := fun h => by rwa [bi_f h] at H
  have fin : ∀ s0 : Int, (s0 = 0 ∨ s0 = 1) → (s0 = 1 ↔ (M 82 4 < 4 ∨ M 82 4 = 7)) → xW Y_X4_isOfLaw g d 0 0 22 [(0, vR (some 82)), (1, vI v)] [vI s0] (0, 0) (n, P, M) (kI n P F) := fun s0 hs hi => by
    have pick : (4 ≤ v ∧ v ≤ 6) → F M s0 := fun hv' => by
      rcases hs with e | e
      · rw [e]; exact no (by omega)
      · rw [e]; exact yes (by omega)
    refine b_X4_isOfLaw_22 hn hP hT hr0 hr1 ⟨fun q => yes (by omega), fun q => ⟨fun q2 => no (by omega), fun q2 => yes (by omega)⟩, fun q => ⟨hs, pick (by omega)⟩, fun q => ⟨hs, pick (by omega)⟩, fun q => ⟨hs, pick (by omega)⟩, fun q => ⟨fun q2 => no (by omega), fun q2 => yes (by omega)⟩, True.intro⟩
  exact b_X4_isOfLaw hn hP hT hr0 hr1 ⟨fun q => b_X4_isOfLaw_17 hn hP hT hr0 hr1 (fin 1 (Or.inr rfl) ⟨fun _ => Or.inl q, fun _ => rfl⟩), fun q => ⟨fun q2 => fin 0 (Or.inl rfl) ⟨fun z => absurd z (by decide), fun z => by omega⟩, fun q2 => b_X4_isOfLaw_17 hn hP hT hr0 hr1 (fin 1 (Or.inr rfl) ⟨fun _ => Or.inr q2, fun _ => rfl⟩)⟩⟩
end Reader4
section Reader5
variable (g : Option Nat) (n : Nat) (P : xP) (t J : Nat) (K V p : Nat → Int) (κ : Int)
def CR (Y : xY) (mo k f : Nat) : Prop := ∀ (dp j : Nat) (l : List (Int × Int)) (M : xM) (F : xM → Int → Prop) (D : Nat), dp ≤ 8 → 5 * (9 - dp) + k ≤ D → 16 * (J - j) + rkM mo ≤ f → cl t J K V p κ M j l → (∀ M' z, offX t M M' → rdP t J K V p κ l (sp K V κ f mo dp j) M' z → F M' z) → xCI Y g D [vR (some 82), vI (dp : Int)] n P M F
def CL (Y : xY) (mo k f : Nat) : Prop := ∀ (dp j : Nat) (l : List (Int × Int)) (M : xM) (F : xM → Int → Prop) (D : Nat) (i : Int), dp ≤ 8 → 5 * (9 - dp) + k ≤ D → 16 * (J - j) + rkM mo ≤ f → cl t J K V p κ M j l → (0 ≤ i ∧ i ≤ j) → (∀ M' z, offX t M M' → rdP t J K V p κ l (sp K V κ f mo dp j) M' z → F M' z) → xW Y g D 0 0 8 [(0, vR (some 82)), (1, vI (dp : Int)), (2, vI 1), (3, vI i)] [] (0, 0) (n, P, M) (kI n P F)
variable {g n P t J K V p κ}
theorem one_step (hn : 83 ≤ n) (hP : x_PP P) (hT : x_Text n P t) (hr0 : P 82 0 = some 37) (hr1 : P 82 1 = some t) (ht : 43 ≤ t ∧ t ≤ 58) (hJ : ∀ j, j ≤ J → (K j = 73 ↔ j = J)) (hV : ∀ j, 0 ≤ V j ∧ V j ≤ 10000) {f : Nat} (hS : CR g n P t J K V p κ Y_X4_readSum 5 4 f) (hO : CR g n P t J K V p κ Y_X4_readOne 9 2 f) : CR g n P t J K V p κ Y_X4_readOne 9 2 (f + 1) := by
  intro dp j l M F D hdp hD hf hc H
  obtain ⟨D', rfl⟩ : ∃ D', D = D' + 2 := ⟨D - 2, by omega⟩
  have hn2 : 82 ≤ n := by omega
  have h2 := hc.2.1.2.1
  have h3 := hc.2.1.2.2.1
  have h4 := hc.2.1.2.2.2
  have hl := hc.2.2.2
  have r9 : rkM 9 = 1 := rfl
  have r5 : rkM 5 = 3 := rfl
  have lt : ∀ k : Int, K j = k → k ≠ 73 → j < J := fun k e hk => by
    have : j ≠ J := fun q => hk (by rw [← e]; exact (hJ j h3).mpr q)
    omega
  rw [sp_9] at H
  refine b_X4_readOne hn hP hT hr0 hr1 ⟨fun n40 => ⟨fun n45 => ?_, fun y45 => ?_⟩, fun y40 => ?_⟩
  · rw [h2] at n40 n45
    rw [if_neg n40, if_neg n45] at H
    have num : ¬ (11 ≤ K j ∧ K j ≤ 18) → xW Y_X4_readOne g (D' + 2) 0 0 117 [(0, vR (some 82))] [] (0, 0) (n, P, M) (kI n P F) := fun hno => by
      rw [if_neg hno] at H
      refine b_X4_readOne_117 hn hP hT hr0 hr1 (k_takeNumber hn hP hT hr0 hr1 ht hJ hc (fun y72 hv M1 o1 c1 e5 => ⟨fun _ => ?_, fun z => absurd z (by decide)⟩) (fun y72 hv M1 o1 f1 => ⟨fun z => absurd rfl z, fun _ => ?_⟩) (fun n72 M1 o1 f1 => ⟨fun z => absurd rfl z, fun _ => ?_⟩))
      · rw [if_pos y72, if_neg (by omega)] at H
        rw [e5]
        exact k_emit hn2 hP hT ht c1 (by omega) (by decide) (by decide) (by have := hV j; omega) (fun M2 o2 c2 => H M2 1 (offX_trans o1 o2) (Or.inl ⟨rfl, rfl, c2⟩))
      · rw [if_pos y72, if_pos (by have := hV j; omega)] at H
        exact H M1 0 o1 (Or.inr ⟨by show (2 : Int) ≠ 0; decide, rfl, f1⟩)
      · rw [if_neg n72] at H
        exact H M1 0 o1 (Or.inr ⟨by show (1 : Int) ≠ 0; decide, rfl, f1⟩)
    rw [h2]
    refine ⟨fun q => num (by omega), fun q => ⟨fun q2 => num (by omega), fun q2 => ⟨by unfold inR; omega, ?_⟩⟩⟩
    rw [if_pos ⟨by omega, by omega⟩] at H
    have l1 := lt (K j) rfl (by omega)
    refine b_X4_readName hn hP hT hr0 hr1 (k_isOfLaw hn hP hT hr0 hr1 (by omega) ?_)
    rw [h4]
    refine ⟨fun y => ?_, fun y => ?_⟩
    · rw [if_pos (bi_n0.mp y)] at H
      exact k_nameOn hn hP hT hr0 hr1 ht hc l1 (by decide) (by decide) (by omega) (fun M2 o2 c2 => ⟨Or.inr rfl, H M2 1 o2 (Or.inl ⟨rfl, rfl, c2⟩)⟩)
    · rw [if_neg (bi_0.mp y)] at H
      exact k_refuse hn hP hT hr0 hr1 ht hc (fun M2 o2 f2 => ⟨Or.inl rfl, Or.inl rfl, H M2 0 o2 (Or.inr ⟨by show (5 : Int) ≠ 0; decide, rfl, f2⟩)⟩)
  · rw [h2] at n40 y45
    have l1 := lt 45 y45 (by decide)
    rw [if_neg n40, if_pos y45] at H
    refine k_open hn hP hT hr0 hr1 ht hc l1 (fun d8 M1 o1 c1 => ⟨fun z => absurd z (by decide), fun _ => ⟨by unfold inR; omega, ?_⟩⟩) (fun d8 M1 o1 f1 => ⟨fun _ => ?_, fun z => absurd rfl z⟩)
    · rw [if_neg (by omega)] at H
      have so := sp_ok (V := V) (κ := κ) hJ f 9 (dp + 1) (j + 1) l1 (by omega) (by omega)
      have := hO (dp + 1) (j + 1) l M1 (fun M5 z5 => ((z5 = 0 → xW Y_X4_readOne g (D' + 2) 0 0 73 [(0, vR (some 82))] [] (0, 0) (n, P, M5) (kI n P F)) ∧ (¬ z5 = 0 → xW Y_X4_readOne g (D' + 2) 0 0 74 [(0, vR (some 82))] [vI 1] (0, 0) (n, P, M5) (kI n P F)))) (D' + 1) (by omega) (by omega) (by omega) c1 (fun M5 z5 o5 r5 => ⟨fun z => ?_, fun z => ?_⟩)
      · rw [show ((dp + 1 : Nat) : Int) = (dp : Int) + 1 by omega] at this
        exact this
      · obtain ⟨q1, q2⟩ := rdP_no r5 z
        exact b_X4_readOne_73 hn hP hT hr0 hr1 (b_X4_readOne_74 hn hP hT hr0 hr1 (k_emitF hn2 hP hT ht q2 (fun M6 o6 f6 => ⟨Or.inl rfl, H M6 0 (offX_trans o1 (offX_trans o5 o6)) (rdP_em1 q1 f6)⟩)))
      · obtain ⟨q1, q2, q3⟩ := rdP_ok r5 z
        have sz := so.2.2 q1
        have c9 : cM 9 = 1 := rfl
        exact b_X4_readOne_74 hn hP hT hr0 hr1 (k_emit hn2 hP hT ht q3 (by rw [List.length_append]; omega) (by decide) (by decide) (by decide) (fun M6 o6 c6 => ⟨Or.inr rfl, H M6 1 (offX_trans o1 (offX_trans o5 o6)) (rdP_em2 q1 c6)⟩))
    · rw [if_pos (by omega)] at H
      exact b_X4_readOne_73 hn hP hT hr0 hr1 (b_X4_readOne_74 hn hP hT hr0 hr1 (k_emitF hn2 hP hT ht f1 (fun M6 o6 f6 => ⟨Or.inl rfl, H M6 0 (offX_trans o1 o6) (Or.inr ⟨by show (3 : Int) ≠ 0; decide, rfl, f6⟩)⟩)))
  · rw [h2] at y40
    have l1 := lt 40 y40 (by decide)
    rw [if_pos y40] at H
    refine k_open hn hP hT hr0 hr1 ht hc l1 (fun d8 M1 o1 c1 => ⟨fun z => absurd z (by decide), fun _ => ⟨by unfold inR; omega, ?_⟩⟩) (fun d8 M1 o1 f1 => ⟨fun _ => ?_, fun z => absurd rfl z⟩)
    · rw [if_neg (by omega)] at H
      have so := sp_ok (V := V) (κ := κ) hJ f 5 (dp + 1) (j + 1) l1 (by omega) (by omega)
      have := hS (dp + 1) (j + 1) l M1 (fun M10 z10 => ((z10 = 0 → F M10 0) ∧ (¬ z10 = 0 → xCI Y_X4_take g (D' + 1) [vR (some 82), vI 41] n P M10 (fun M11 z11 => ((z11 = 0 → F M11 0) ∧ (¬ z11 = 0 → F M11 1)))))) (D' + 1) (by omega) (by omega) (by omega) c1 (fun M5 z5 o5 r5 => ⟨fun z => ?_, fun z => ?_⟩)
      · rw [show ((dp + 1 : Nat) : Int) = (dp : Int) + 1 by omega] at this
        exact this
      · obtain ⟨q1, q2⟩ := rdP_no r5 z
        exact H M5 0 (offX_trans o1 o5) (rdP_sq1 q1 q2)
      · obtain ⟨q1, q2, q3⟩ := rdP_ok r5 z
        refine k_take hn hP hT hr0 hr1 ht hJ (by decide) q3 (fun y41 M6 o6 c6 => ⟨fun z => absurd z (by decide), fun _ => H M6 1 (offX_trans o1 (offX_trans o5 o6)) (rdP_sq2 q1 ?_)⟩) (fun n41 M6 o6 f6 => ⟨fun _ => H M6 0 (offX_trans o1 (offX_trans o5 o6)) (rdP_sq2 q1 ?_), fun z => absurd rfl z⟩)
        · show rdP t J K V p κ _ (if K _ = 41 then _ else _) M6 1
          rw [if_pos y41]
          exact Or.inl ⟨rfl, rfl, by rw [List.append_nil]; exact c6⟩
        · show rdP t J K V p κ _ (if K _ = 41 then _ else _) M6 0
          rw [if_neg n41]
          exact Or.inr ⟨by show (1 : Int) ≠ 0; decide, rfl, f6⟩
    · rw [if_pos (by omega)] at H
      exact H M1 0 o1 (Or.inr ⟨by show (3 : Int) ≠ 0; decide, rfl, f1⟩)
end Reader5
