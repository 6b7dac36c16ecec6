/-! the class's Reader: most -/
section Reader8
variable {g : Option Nat} {d n : Nat} {P : xP} {M : xM} {F : xM → Int → Prop} {G : xM → Prop} {t J : Nat} {K V p : Nat → Int} {κ : Int}
theorem k_emit0 (hn : 82 ≤ n) (hP : x_PP P) (hT : x_Text n P t) (ht : 43 ≤ t ∧ t ≤ 58) {l : List (Int × Int)} {o v : Int} (h : pg t l M) (hl : l.length < 300) (ho : 0 ≤ o ∧ o < 128) (h24 : o ≠ 24) (hv : 0 ≤ v ∧ v < 16384) (H : ∀ N, offX t M N → N 82 = M 82 → pg t (l ++ [(o, v)]) N → G N) : xCV Y_X7_emit g d [vR (some t), vI o, vI v] n P M G := by
  obtain ⟨p1, p2, p3, h82⟩ := h
  have len : (l ++ [(o, v)]).length = l.length + 1 := by rw [List.length_append]; rfl
  refine b_X7_emit hn hP hT ⟨fun q => absurd q (by omega), fun q => ⟨by omega, by rw [x_upd_nb (by omega)]; unfold inR; omega, ?_⟩⟩
  have e1 : x_upd M (t + 1) (M t 1) (x_or (x_shl o 14) v) t 1 = M t 1 := x_upd_nb (by omega)
  rw [e1, p1, x_pack ho hv]
  refine H _ ⟨fun c c1 c2 c3 => by funext q; rw [x_upd_nb c2, x_upd_nb c3], fun k k1 _ => by rw [x_upd_nj k1, x_upd_nb (by omega)]⟩ (by funext q; rw [x_upd_nb (by omega), x_upd_nb (by omega)]) ⟨by rw [x_upd_at, len]; omega, fun i hi => ?_, ?_⟩
  · rw [len] at hi
    rw [x_upd_nb (by omega)]
    by_cases q : i = l.length
    · subst q
      rw [x_upd_at, List.getD_eq_getElem?_getD, List.getElem?_append_right (Nat.le_refl _), Nat.sub_self]
      rfl
    · rw [x_upd_nj (by omega), List.getD_eq_getElem?_getD, List.getElem?_append_left (by omega), ← List.getD_eq_getElem?_getD]
      exact p2 i (by omega)
  · refine ⟨?_, by rw [x_upd_nb (by omega), x_upd_nb (by omega)]; exact h82.1, by rw [x_upd_nb (by omega), x_upd_nb (by omega)]; exact h82.2⟩
    rw [x_upd_nj (by decide), x_upd_nb (by omega), fcs_app, p3]
    show fcs l 0 = if o = 24 then _ else fcs l 0
    rw [if_neg h24]
theorem k_emitW (hn : 82 ≤ n) (hP : x_PP P) (hT : x_Text n P t) (ht : 43 ≤ t ∧ t ≤ 58) {o v : Int} (h : 0 ≤ M t 1) (H : ∀ N, offX t M N → N 82 = M 82 → 0 ≤ N t 1 → G N) : xCV Y_X7_emit g d [vR (some t), vI o, vI v] n P M G := by
  refine b_X7_emit hn hP hT ⟨fun q => H M (offX_refl t M) rfl h, fun q => ⟨by omega, by rw [x_upd_nb (by omega)]; unfold inR; omega, ?_⟩⟩
  refine H _ ⟨fun c c1 c2 c3 => by funext q; rw [x_upd_nb c2, x_upd_nb c3], fun k k1 _ => by rw [x_upd_nj k1, x_upd_nb (by omega)]⟩ (by funext q; rw [x_upd_nb (by omega), x_upd_nb (by omega)]) ?_
  rw [x_upd_at, x_upd_nb (by omega)]
  omega
/-- the parts are told, then ')' -/
theorem k_shut (hn : 83 ≤ n) (hP : x_PP P) (hT : x_Text n P t) (hr0 : P 82 0 = some 37) (hr1 : P 82 1 = some t) (ht : 43 ≤ t ∧ t ≤ 58) (hJ : ∀ j, j ≤ J → (K j = 73 ↔ j = J)) {j : Nat} {l : List (Int × Int)} {v : Int} (h : cl t J K V p κ M j l) (hv : 0 ≤ v ∧ v < 16384) (H1 : K j = 41 → ∀ M', offX t M M' → cl t J K V p κ M' (j + 1) (l ++ [(25, v)]) → F M' 1) (H0 : K j ≠ 41 → ∀ M', offX t M M' → flt t J K V p M' 1 j → F M' 0) : xCV Y_X7_emit g (d + 2) [vR (some t), vI 25, vI v] n P M (fun M13 => (((1 : Int) = 0 → F M13 0) ∧ (¬ (1 : Int) = 0 → xCI Y_X4_take g (d + 2) [vR (some 82), vI 41] n P M13 (fun M14 z14 => ((z14 = 0 → F M14 0) ∧ (¬ z14 = 0 → F M14 1)))))) := by
  obtain ⟨hk, ⟨h1, h2, h3, h4⟩, hp, h6⟩ := h
  obtain ⟨k1, k2, k3⟩ := hk
  by_cases y : K j = 41
  · have lt : j < J := by
      have : j ≠ J := fun e => by have := (hJ j h3).mpr e; omega
      omega
    refine k_emit0 (by omega) hP hT ht hp (by omega) (by decide) (by decide) hv (fun N oN n82 pN => ⟨fun z => absurd z (by decide), fun _ => ?_⟩)
    have tk := tokC_X ht oN ⟨k1, k2, k3⟩
    obtain ⟨t1, t2, t3⟩ := tk
    have kj := (t3 (j + 1) (by omega)).1
    have len : (l ++ [((25 : Int), v)]).length = l.length + 1 := by rw [List.length_append]; rfl
    refine b_X4_take hn hP hT hr0 hr1 ⟨fun _ => ?_, fun q => absurd (by rw [n82, h2]; exact y) q⟩
    refine b_X4_advance hn hP hT hr0 hr1 ⟨by rw [n82]; unfold inR; omega, fun q => absurd q (by rw [n82]; omega), fun q => ⟨by rw [n82]; unfold inR; omega, by rw [n82]; omega, fun z => absurd z (by decide), fun _ => ?_⟩⟩
    rw [n82, h1, show (j : Int) + 1 = ((j + 1 : Nat) : Int) by omega, kj]
    have o2 : offX t M (x_upd (x_upd N 82 2 ((j + 1 : Nat) : Int)) 82 3 (K (j + 1))) := offX_82 (by omega) (offX_82 (by omega) oN)
    refine H1 y _ o2 ⟨tokC_X ht o2 ⟨k1, k2, k3⟩, ⟨?_, ?_, by omega, ?_⟩, pg_82 ht (pg_82 ht pN), by omega⟩
    · rw [x_upd_nj (by decide), x_upd_at]
    · rw [x_upd_at]
    · rw [x_upd_nj (by decide), x_upd_nj (by decide), n82]; exact h4
  · refine k_emitW (by omega) hP hT ht (by rw [hp.1]; omega) (fun N oN n82 pN => ⟨fun z => absurd z (by decide), fun _ => ?_⟩)
    have tk := tokC_X ht oN ⟨k1, k2, k3⟩
    obtain ⟨t1, t2, t3⟩ := tk
    have kj := (t3 j h3).2.1
    refine b_X4_take hn hP hT hr0 hr1 ⟨fun q => absurd (by rw [n82, h2] at q; exact q) y, fun _ => ?_⟩
    refine b_X4_refuse hn hP hT hr0 hr1 ⟨fun q => absurd q (by rw [n82]; omega), fun q => ⟨fun q2 => absurd q2 (by rw [n82]; omega), fun q2 => ⟨by rw [n82]; omega, Or.inl rfl, fun _ => ?_, fun z => absurd rfl z⟩⟩⟩
    rw [n82, h1, kj]
    have o2 : offX t M (x_upd (x_upd N 82 6 1) 82 7 (p j)) := offX_82 (by omega) (offX_82 (by omega) oN)
    refine H0 y _ o2 ⟨tokC_X ht o2 ⟨k1, k2, k3⟩, ?_, ?_, ?_⟩
    · rw [x_upd_nj (by decide), x_upd_at]
    · rw [x_upd_at]
    · rw [x_upd_nb (by omega), x_upd_nb (by omega)]; exact pN
end Reader8
section Reader9
variable (g : Option Nat) (n : Nat) (P : xP) (t J : Nat) (K V p : Nat → Int) (κ : Int)
def CM (f : Nat) : Prop := ∀ (q dp j : Nat) (l : List (Int × Int)) (M : xM) (F : xM → Int → Prop) (D : Nat), (1 ≤ q ∧ q ≤ 6) → dp ≤ 8 → 5 * (9 - dp) + 8 ≤ D → 16 * (J - j) + 1 ≤ f → cl t J K V p κ M j l → (∀ M' z, offX t M M' → rdP t J K V p κ l (sp K V κ f (10 + q) dp j) M' z → F M' z) → xW Y_X4_readMost g D 0 0 25 [(0, vR (some 82)), (1, vI (dp : Int)), (2, vI 1), (3, vI (q : Int))] [] (0, 0) (n, P, M) (kI n P F)
variable {g n P t J K V p κ}
theorem most_step (hn : 83 ≤ n) (hP : x_PP P) (hT : x_Text n P t) (hr0 : P 82 0 = some 37) (hr1 : P 82 1 = some t) (ht : 43 ≤ t ∧ t ≤ 58) (hJ : ∀ j, j ≤ J → (K j = 73 ↔ j = J)) {f : Nat} (hE : CR g n P t J K V p κ Y_X4_readEither 0 7 f) (hM : CM g n P t J K V p κ f) : CM g n P t J K V p κ (f + 1) := by
  intro q dp j l M F D hq hdp hD hf hc H
  obtain ⟨D', rfl⟩ : ∃ D', D = D' + 3 := ⟨D - 3, by omega⟩
  have hn2 : 82 ≤ n := by omega
  have h2 := hc.2.1.2.1
  have h3 := hc.2.1.2.2.1
  have hl := hc.2.2.2
  have r0 : rkM 0 = 6 := rfl
  have c0 : cM 0 = 1 := rfl
  rw [sp_p] at H
  have fail80 : ∀ (N : xM) (e : Int) (i : Nat) (x3 : Int), flt t J K V p N e i → (∀ M', offX t N M' → flt t J K V p M' e i → F M' 0) → xW Y_X4_readMost g (D' + 3) 0 0 80 [(0, vR (some 82)), (2, vI 0), (3, vI x3)] [] (0, 0) (n, P, N) (kI n P F) := fun N e i x3 hf hF => b_X4_readMost_80 hn hP hT hr0 hr1 (k_emitF hn2 hP hT ht hf (fun M' o' f' => ⟨fun _ => hF M' o' f', fun z => absurd rfl z⟩))
  have fail25 : ∀ (N : xM) (e : Int) (i : Nat) (x3 : Int), flt t J K V p N e i → (∀ M', offX t N M' → flt t J K V p M' e i → F M' 0) → xW Y_X4_readMost g (D' + 3) 0 0 25 [(0, vR (some 82)), (1, vI (dp : Int)), (2, vI 0), (3, vI x3)] [] (0, 0) (n, P, N) (kI n P F) := fun N e i x3 hf hF => b_X4_readMost_25 hn hP hT hr0 hr1 ⟨fun _ => b_X4_readMost_60 hn hP hT hr0 hr1 ⟨fun _ => fail80 N e i x3 hf hF, fun z => absurd rfl z⟩, fun z => absurd rfl z⟩
  refine b_X4_readMost_25 hn hP hT hr0 hr1 ⟨fun z => absurd z (by decide), fun _ => ⟨fun n44 => ?_, fun y44 => ?_⟩⟩
  · rw [h2] at n44
    rw [if_neg n44] at H
    refine b_X4_readMost_60 hn hP hT hr0 hr1 ⟨fun z => absurd z (by decide), fun _ => ⟨fun _ => b_X4_readMost_80 hn hP hT hr0 hr1 (k_shut hn hP hT hr0 hr1 ht hJ hc (by omega) (fun y41 M1 o1 c1 => ?_) (fun n41 M1 o1 f1 => ?_)), fun z => absurd (by rw [h2] at z; exact z) n44⟩⟩
    · rw [if_pos y41, show ((10 + q : Nat) : Int) - 10 = (q : Int) by omega] at H
      exact H M1 1 o1 (Or.inl ⟨rfl, rfl, c1⟩)
    · rw [if_neg n41] at H
      exact H M1 0 o1 (Or.inr ⟨by show (1 : Int) ≠ 0; decide, rfl, f1⟩)
  · have y := y44
    rw [h2] at y
    rw [if_pos y] at H
    have l1 : j < J := by
      have : j ≠ J := fun e => by have := (hJ j h3).mpr e; omega
      omega
    refine ⟨fun q6 => ?_, fun q6 => ?_⟩
    · rw [if_pos (by omega)] at H
      exact b_X4_readMost_60 hn hP hT hr0 hr1 ⟨fun z => absurd z (by decide), fun _ => ⟨fun z => absurd y44 z, fun _ => k_refuse hn hP hT hr0 hr1 ht hc (fun M1 o1 f1 => ⟨Or.inl rfl, H M1 0 o1 (Or.inr ⟨by show (7 : Int) ≠ 0; decide, rfl, f1⟩)⟩)⟩⟩
    · rw [if_neg (by omega)] at H
      have so := sp_ok (V := V) (κ := κ) hJ f 0 dp (j + 1) l1 (by omega) (by omega)
      refine k_advance hn hP hT hr0 hr1 ht hc l1 (fun M1 o1 c1 _ => hE dp (j + 1) l M1 _ (D' + 2) hdp (by omega) (by omega) c1 (fun M2 z2 o2 r2 => ⟨by unfold inR; omega, ?_⟩))
      rcases rdP_z r2 with z0 | z1
      · obtain ⟨q1, q2⟩ := rdP_no r2 z0
        subst z0
        exact fail25 M2 _ _ _ q2 (fun M3 o3 f3 => H M3 0 (offX_trans o1 (offX_trans o2 o3)) (rdP_sq1 q1 f3))
      · obtain ⟨q1, q2, q3⟩ := rdP_ok r2 (by omega)
        subst z1
        have sz := so.2.2 q1
        have := hM (q + 1) dp _ _ M2 F (D' + 3) (by omega) hdp (by omega) (by omega) q3 (fun M4 z4 o4 r4 => H M4 z4 (offX_trans o1 (offX_trans o2 o4)) (rdP_sq2 q1 r4))
        rw [show ((q + 1 : Nat) : Int) = (q : Int) + 1 by omega] at this
        exact this
end Reader9
