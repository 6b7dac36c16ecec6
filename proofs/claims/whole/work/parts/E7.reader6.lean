/-! the class's Reader: product, sum -/
section Reader6
variable {g : Option Nat} {n : Nat} {P : xP} {t J : Nat} {K V p : Nat → Int} {κ : Int}
theorem prodLoop_step (hn : 83 ≤ n) (hP : x_PP P) (hT : x_Text n P t) (hr0 : P 82 0 = some 37) (hr1 : P 82 1 = some t) (ht : 43 ≤ t ∧ t ≤ 58) (hJ : ∀ j, j ≤ J → (K j = 73 ↔ j = J)) {f : Nat} (hO : CR g n P t J K V p κ Y_X4_readOne 9 2 f) (hL : CL g n P t J K V p κ Y_X4_readProduct 8 3 f) : CL g n P t J K V p κ Y_X4_readProduct 8 3 (f + 1) := by
  intro dp j l M F D i hdp hD hf hc hi H
  obtain ⟨D', rfl⟩ : ∃ D', D = D' + 2 := ⟨D - 2, by omega⟩
  have hn2 : 82 ≤ n := by omega
  have h2 := hc.2.1.2.1
  have h3 := hc.2.1.2.2.1
  have hl := hc.2.2.2
  have j300 := hc.1.2.1
  have rs : rkM 9 = 1 := rfl
  have rl : rkM 8 = 1 := rfl
  have cs : cM 9 = 1 := rfl
  rw [sp_8] at H
  have stop : ¬ (K j = 42 ∨ K j = 47) → F M 1 := fun hno => by
    rw [if_neg hno] at H
    exact H M 1 (offX_refl t M) (Or.inl ⟨rfl, rfl, by rw [List.append_nil]; exact hc⟩)
  have fail : ∀ (N : xM) (i : Int), F N 0 → xW Y_X4_readProduct g (D' + 2) 0 0 8 [(0, vR (some 82)), (1, vI (dp : Int)), (2, vI 0), (3, vI i)] [] (0, 0) (n, P, N) (kI n P F) := fun N i hF => b_X4_readProduct_8 hn hP hT hr0 hr1 ⟨fun _ => ⟨Or.inl rfl, hF⟩, fun _ => ⟨fun _ => ⟨Or.inl rfl, hF⟩, fun z => absurd rfl z⟩⟩
  have go : (K j = 42 ∨ K j = 47) → xW Y_X4_readProduct g (D' + 2) 0 0 37 [(0, vR (some 82)), (1, vI (dp : Int)), (3, vI i)] [] (0, 0) (n, P, M) (kI n P F) := fun yes => by
    rw [if_pos yes] at H
    have l1 : j < J := by
      have : j ≠ J := fun e => by have := (hJ j h3).mpr e; omega
      omega
    have so := sp_ok (V := V) (κ := κ) hJ f 9 dp (j + 1) l1 (by omega) (by omega)
    refine b_X4_readProduct_37 hn hP hT hr0 hr1 (k_advance hn hP hT hr0 hr1 ht hc l1 (fun M1 o1 c1 _ => hO dp (j + 1) l M1 _ (D' + 1) hdp (by omega) (by omega) c1 (fun M2 z2 o2 r2 => ?_)))
    rw [h2]
    rcases rdP_z r2 with z0 | z1
    · obtain ⟨q1, q2⟩ := rdP_no r2 z0
      subst z0
      exact k_emitF hn2 hP hT ht q2 (fun M3 o3 f3 => ⟨by unfold inR; omega, fail M3 _ (H M3 0 (offX_trans o1 (offX_trans o2 o3)) (rdP_sq1 (by
        have e : em (sp K V κ f 9 dp (j + 1)) (K j, 0) = sp K V κ f 9 dp (j + 1) := if_neg q1
        rw [e]; exact q1) (by
        have e : em (sp K V κ f 9 dp (j + 1)) (K j, 0) = sp K V κ f 9 dp (j + 1) := if_neg q1
        rw [e]; exact f3)))⟩)
    · obtain ⟨q1, q2, q3⟩ := rdP_ok r2 (by omega)
      subst z1
      have sz := so.2.2 q1
      have ee : em (sp K V κ f 9 dp (j + 1)) (K j, 0) = (0, (sp K V κ f 9 dp (j + 1)).2.1, (sp K V κ f 9 dp (j + 1)).2.2 ++ [(K j, 0)]) := if_pos q1
      refine k_emit hn2 hP hT ht q3 (by rw [List.length_append]; omega) (by omega) (by omega) (by decide) (fun M3 o3 c3 => ⟨by unfold inR; omega, hL dp _ _ M3 F (D' + 2) (i + 1) hdp (by omega) (by omega) c3 (by omega) (fun M4 z4 o4 r4 => H M4 z4 (offX_trans o1 (offX_trans o2 (offX_trans o3 o4))) ?_)⟩)
      rw [ee]
      refine rdP_sq2 rfl ?_
      rw [List.append_assoc] at r4
      exact r4
  refine b_X4_readProduct_8 hn hP hT hr0 hr1 ⟨fun q => ⟨Or.inr rfl, stop (fun z => ?_)⟩, fun q => ⟨fun z => absurd z (by decide), fun _ => ⟨fun y => go (Or.inl (by rw [← h2]; exact y)), fun y => ⟨fun y2 => ⟨Or.inr rfl, stop (fun z => ?_)⟩, fun y2 => go (Or.inr (by rw [← h2]; exact y2))⟩⟩⟩⟩
  · have e : j = J := by omega
    have := (hJ j h3).mpr e
    omega
  · rw [h2] at y y2
    rcases z with z | z
    · exact y z
    · exact y2 z
theorem prod_step (hn : 83 ≤ n) (hP : x_PP P) (hT : x_Text n P t) (hr0 : P 82 0 = some 37) (hr1 : P 82 1 = some t) (hJ : ∀ j, j ≤ J → (K j = 73 ↔ j = J)) {f : Nat} (hO : CR g n P t J K V p κ Y_X4_readOne 9 2 f) (hL : CL g n P t J K V p κ Y_X4_readProduct 8 3 f) : CR g n P t J K V p κ Y_X4_readProduct 7 3 (f + 1) := by
  intro dp j l M F D hdp hD hf hc H
  obtain ⟨D', rfl⟩ : ∃ D', D = D' + 2 := ⟨D - 2, by omega⟩
  have h3 := hc.2.1.2.2.1
  have rs : rkM 9 = 1 := rfl
  have rl : rkM 8 = 1 := rfl
  have rm : rkM 7 = 2 := rfl
  have cs : cM 9 = 1 := rfl
  rw [sp_7] at H
  have so := sp_ok (V := V) (κ := κ) hJ f 9 dp j h3 (by omega) (by omega)
  refine b_X4_readProduct hn hP hT hr0 hr1 (hO dp j l M _ (D' + 1) hdp (by omega) (by omega) hc (fun M2 z2 o2 r2 => ?_))
  rcases rdP_z r2 with z0 | z1
  · obtain ⟨q1, q2⟩ := rdP_no r2 z0
    subst z0
    have hF := H M2 0 o2 (rdP_sq1 q1 q2)
    exact b_X4_readProduct_8 hn hP hT hr0 hr1 ⟨fun _ => ⟨Or.inl rfl, hF⟩, fun _ => ⟨fun _ => ⟨Or.inl rfl, hF⟩, fun z => absurd rfl z⟩⟩
  · obtain ⟨q1, q2, q3⟩ := rdP_ok r2 (by omega)
    subst z1
    have sz := so.2.2 q1
    exact hL dp _ _ M2 F (D' + 2) 0 hdp (by omega) (by omega) q3 (by omega) (fun M4 z4 o4 r4 => H M4 z4 (offX_trans o2 o4) (rdP_sq2 q1 r4))
theorem sumLoop_step (hn : 83 ≤ n) (hP : x_PP P) (hT : x_Text n P t) (hr0 : P 82 0 = some 37) (hr1 : P 82 1 = some t) (ht : 43 ≤ t ∧ t ≤ 58) (hJ : ∀ j, j ≤ J → (K j = 73 ↔ j = J)) {f : Nat} (hO : CR g n P t J K V p κ Y_X4_readProduct 7 3 f) (hL : CL g n P t J K V p κ Y_X4_readSum 6 4 f) : CL g n P t J K V p κ Y_X4_readSum 6 4 (f + 1) := by
  intro dp j l M F D i hdp hD hf hc hi H
  obtain ⟨D', rfl⟩ : ∃ D', D = D' + 2 := ⟨D - 2, by omega⟩
  have hn2 : 82 ≤ n := by omega
  have h2 := hc.2.1.2.1
  have h3 := hc.2.1.2.2.1
  have hl := hc.2.2.2
  have j300 := hc.1.2.1
  have rs : rkM 7 = 2 := rfl
  have rl : rkM 6 = 1 := rfl
  have cs : cM 7 = 1 := rfl
  rw [sp_6] at H
  have stop : ¬ (K j = 43 ∨ K j = 45) → F M 1 := fun hno => by
    rw [if_neg hno] at H
    exact H M 1 (offX_refl t M) (Or.inl ⟨rfl, rfl, by rw [List.append_nil]; exact hc⟩)
  have fail : ∀ (N : xM) (i : Int), F N 0 → xW Y_X4_readSum g (D' + 2) 0 0 8 [(0, vR (some 82)), (1, vI (dp : Int)), (2, vI 0), (3, vI i)] [] (0, 0) (n, P, N) (kI n P F) := fun N i hF => b_X4_readSum_8 hn hP hT hr0 hr1 ⟨fun _ => ⟨Or.inl rfl, hF⟩, fun _ => ⟨fun _ => ⟨Or.inl rfl, hF⟩, fun z => absurd rfl z⟩⟩
  have go : (K j = 43 ∨ K j = 45) → xW Y_X4_readSum g (D' + 2) 0 0 37 [(0, vR (some 82)), (1, vI (dp : Int)), (3, vI i)] [] (0, 0) (n, P, M) (kI n P F) := fun yes => by
    rw [if_pos yes] at H
    have l1 : j < J := by
      have : j ≠ J := fun e => by have := (hJ j h3).mpr e; omega
      omega
    have so := sp_ok (V := V) (κ := κ) hJ f 7 dp (j + 1) l1 (by omega) (by omega)
    refine b_X4_readSum_37 hn hP hT hr0 hr1 (k_advance hn hP hT hr0 hr1 ht hc l1 (fun M1 o1 c1 _ => hO dp (j + 1) l M1 _ (D' + 1) hdp (by omega) (by omega) c1 (fun M2 z2 o2 r2 => ?_)))
    rw [h2]
    rcases rdP_z r2 with z0 | z1
    · obtain ⟨q1, q2⟩ := rdP_no r2 z0
      subst z0
      exact k_emitF hn2 hP hT ht q2 (fun M3 o3 f3 => ⟨by unfold inR; omega, fail M3 _ (H M3 0 (offX_trans o1 (offX_trans o2 o3)) (rdP_sq1 (by
        have e : em (sp K V κ f 7 dp (j + 1)) (K j, 0) = sp K V κ f 7 dp (j + 1) := if_neg q1
        rw [e]; exact q1) (by
        have e : em (sp K V κ f 7 dp (j + 1)) (K j, 0) = sp K V κ f 7 dp (j + 1) := if_neg q1
        rw [e]; exact f3)))⟩)
    · obtain ⟨q1, q2, q3⟩ := rdP_ok r2 (by omega)
      subst z1
      have sz := so.2.2 q1
      have ee : em (sp K V κ f 7 dp (j + 1)) (K j, 0) = (0, (sp K V κ f 7 dp (j + 1)).2.1, (sp K V κ f 7 dp (j + 1)).2.2 ++ [(K j, 0)]) := if_pos q1
      refine k_emit hn2 hP hT ht q3 (by rw [List.length_append]; omega) (by omega) (by omega) (by decide) (fun M3 o3 c3 => ⟨by unfold inR; omega, hL dp _ _ M3 F (D' + 2) (i + 1) hdp (by omega) (by omega) c3 (by omega) (fun M4 z4 o4 r4 => H M4 z4 (offX_trans o1 (offX_trans o2 (offX_trans o3 o4))) ?_)⟩)
      rw [ee]
      refine rdP_sq2 rfl ?_
      rw [List.append_assoc] at r4
      exact r4
  refine b_X4_readSum_8 hn hP hT hr0 hr1 ⟨fun q => ⟨Or.inr rfl, stop (fun z => ?_)⟩, fun q => ⟨fun z => absurd z (by decide), fun _ => ⟨fun y => go (Or.inl (by rw [← h2]; exact y)), fun y => ⟨fun y2 => ⟨Or.inr rfl, stop (fun z => ?_)⟩, fun y2 => go (Or.inr (by rw [← h2]; exact y2))⟩⟩⟩⟩
  · have e : j = J := by omega
    have := (hJ j h3).mpr e
    omega
  · rw [h2] at y y2
    rcases z with z | z
    · exact y z
    · exact y2 z
theorem sum_step (hn : 83 ≤ n) (hP : x_PP P) (hT : x_Text n P t) (hr0 : P 82 0 = some 37) (hr1 : P 82 1 = some t) (hJ : ∀ j, j ≤ J → (K j = 73 ↔ j = J)) {f : Nat} (hO : CR g n P t J K V p κ Y_X4_readProduct 7 3 f) (hL : CL g n P t J K V p κ Y_X4_readSum 6 4 f) : CR g n P t J K V p κ Y_X4_readSum 5 4 (f + 1) := by
  intro dp j l M F D hdp hD hf hc H
  obtain ⟨D', rfl⟩ : ∃ D', D = D' + 2 := ⟨D - 2, by omega⟩
  have h3 := hc.2.1.2.2.1
  have rs : rkM 7 = 2 := rfl
  have rl : rkM 6 = 1 := rfl
  have rm : rkM 5 = 3 := rfl
  have cs : cM 7 = 1 := rfl
  rw [sp_5] at H
  have so := sp_ok (V := V) (κ := κ) hJ f 7 dp j h3 (by omega) (by omega)
  refine b_X4_readSum hn hP hT hr0 hr1 (hO dp j l M _ (D' + 1) hdp (by omega) (by omega) hc (fun M2 z2 o2 r2 => ?_))
  rcases rdP_z r2 with z0 | z1
  · obtain ⟨q1, q2⟩ := rdP_no r2 z0
    subst z0
    have hF := H M2 0 o2 (rdP_sq1 q1 q2)
    exact b_X4_readSum_8 hn hP hT hr0 hr1 ⟨fun _ => ⟨Or.inl rfl, hF⟩, fun _ => ⟨fun _ => ⟨Or.inl rfl, hF⟩, fun z => absurd rfl z⟩⟩
  · obtain ⟨q1, q2, q3⟩ := rdP_ok r2 (by omega)
    subst z1
    have sz := so.2.2 q1
    exact hL dp _ _ M2 F (D' + 2) 0 hdp (by omega) (by omega) q3 (by omega) (fun M4 z4 o4 r4 => H M4 z4 (offX_trans o2 o4) (rdP_sq2 q1 r4))
end Reader6
