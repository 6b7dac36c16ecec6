theorem j_X2_judged {g : Option Nat} {d n : Nat} {P : xP} {M : xM} {F : xM → Int → Prop} (hn : 82 ≤ n) (hP : x_PP P) {o : Option Nat} (ho : o = none ∨ ∃ t, o = some t ∧ x_Text n P t) {a2 a3 : Int} (H : xW Y_X2_judged g (d + 3) 0 0 14 [(0, vR (some 12)), (1, vR o), (2, vI a2), (3, vI a3), (4, vI (M 13 1)), (5, vI 0), (6, vI 0)] [] (0, 0) (n, P, M) (kI n P F)) : xCI Y_X2_judged g (d + 3) [vR (some 12), vR o, vI a2, vI a3] n P M F := by
  rcases ho with rfl | ⟨t, rfl, hX⟩
  · exact b_X2_judgedN hn hP H
  · exact b_X2_judgedT hn hP hX H
theorem j_X2_judged_14 {g : Option Nat} {d n : Nat} {P : xP} {M : xM} {F : xM → Int → Prop} (hn : 82 ≤ n) (hP : x_PP P) {o : Option Nat} (ho : o = none ∨ ∃ t, o = some t ∧ x_Text n P t) {x2 x3 x4 x5 x6 : Int} (H : ((4 ≤ x6 → xW Y_X2_judged g (d + 3) 0 0 62 [(0, vR (some 12)), (1, vR o), (3, vI x3), (4, vI x4), (5, vI x5)] [] (0, 0) (n, P, M) (kI n P F)) ∧ (¬ 4 ≤ x6 → ((¬ x2 = 0 → xW Y_X2_judged g (d + 3) 0 0 62 [(0, vR (some 12)), (1, vR o), (3, vI x3), (4, vI x4), (5, vI x5)] [] (0, 0) (n, P, M) (kI n P F)) ∧ (x2 = 0 → ((¬ x5 = 0 → xW Y_X2_judged g (d + 3) 0 0 62 [(0, vR (some 12)), (1, vR o), (3, vI x3), (4, vI x4), (5, vI x5)] [] (0, 0) (n, P, M) (kI n P F)) ∧ (x5 = 0 → ((¬ (x_and (x_shr x3 x6) 1) = 1 → xW Y_X2_judged g (d + 3) 0 0 53 [(0, vR (some 12)), (1, vR o), (2, vI x2), (3, vI x3), (4, vI x4), (6, vI x6)] [] (0, 0) (n, P, M) (kI n P F)) ∧ ((x_and (x_shr x3 x6) 1) = 1 → xCI Y_X2_isGuiltyBy g (d + 2) [vR (some 12), vR o, vI x6] n P M (fun M1 z1 => ((z1 = 0 → xW Y_X2_judged g (d + 3) 0 0 53 [(0, vR (some 12)), (1, vR o), (2, vI x2), (3, vI x3), (4, vI x4), (6, vI x6)] [] (0, 0) (n, P, M1) (kI n P F)) ∧ (¬ z1 = 0 → xW Y_X2_judged g (d + 3) 0 0 54 [(0, vR (some 12)), (1, vR o), (2, vI x2), (3, vI x3), (4, vI x4), (6, vI x6)] [vI 1] (0, 0) (n, P, M1) (kI n P F))))))))))))) : xW Y_X2_judged g (d + 3) 0 0 14 [(0, vR (some 12)), (1, vR o), (2, vI x2), (3, vI x3), (4, vI x4), (5, vI x5), (6, vI x6)] [] (0, 0) (n, P, M) (kI n P F) := by
  rcases ho with rfl | ⟨t, rfl, hX⟩
  · exact b_X2_judgedN_14 hn hP H
  · exact b_X2_judgedT_14 hn hP hX H
theorem j_X2_judged_53 {g : Option Nat} {d n : Nat} {P : xP} {M : xM} {F : xM → Int → Prop} (hn : 82 ≤ n) (hP : x_PP P) {o : Option Nat} (ho : o = none ∨ ∃ t, o = some t ∧ x_Text n P t) {x2 x3 x4 x6 : Int} (H : xW Y_X2_judged g (d + 3) 0 0 54 [(0, vR (some 12)), (1, vR o), (2, vI x2), (3, vI x3), (4, vI x4), (6, vI x6)] [vI 0] (0, 0) (n, P, M) (kI n P F)) : xW Y_X2_judged g (d + 3) 0 0 53 [(0, vR (some 12)), (1, vR o), (2, vI x2), (3, vI x3), (4, vI x4), (6, vI x6)] [] (0, 0) (n, P, M) (kI n P F) := by
  rcases ho with rfl | ⟨t, rfl, hX⟩
  · exact b_X2_judgedN_53 hn hP H
  · exact b_X2_judgedT_53 hn hP hX H
theorem j_X2_judged_54 {g : Option Nat} {d n : Nat} {P : xP} {M : xM} {F : xM → Int → Prop} (hn : 82 ≤ n) (hP : x_PP P) {o : Option Nat} (ho : o = none ∨ ∃ t, o = some t ∧ x_Text n P t) {x2 x3 x4 x6 s0 : Int} (H : inR (x6 + 1) ∧ xW Y_X2_judged g (d + 3) 0 0 14 [(0, vR (some 12)), (1, vR o), (2, vI x2), (3, vI x3), (4, vI x4), (5, vI s0), (6, vI (x6 + 1))] [] (0, 0) (n, P, M) (kI n P F)) : xW Y_X2_judged g (d + 3) 0 0 54 [(0, vR (some 12)), (1, vR o), (2, vI x2), (3, vI x3), (4, vI x4), (6, vI x6)] [vI s0] (0, 0) (n, P, M) (kI n P F) := by
  rcases ho with rfl | ⟨t, rfl, hX⟩
  · exact b_X2_judgedN_54 hn hP H
  · exact b_X2_judgedT_54 hn hP hX H
theorem j_X2_judged_119 {g : Option Nat} {d n : Nat} {P : xP} {M : xM} {F : xM → Int → Prop} (hn : 82 ≤ n) (hP : x_PP P) {o : Option Nat} (ho : o = none ∨ ∃ t, o = some t ∧ x_Text n P t) (H : inR ((M 13 5) * (M 13 6)) ∧ F M ((M 13 5) * (M 13 6))) : xW Y_X2_judged g (d + 3) 0 0 119 [(0, vR (some 12))] [] (0, 0) (n, P, M) (kI n P F) := by
  rcases ho with rfl | ⟨t, rfl, hX⟩
  · exact b_X2_judgedN_119 hn hP H
  · exact b_X2_judgedT_119 hn hP hX H
theorem clR_o {n : Nat} {P : xP} {M : xM} {o : Option Nat} {ρ : Option xTx} (h : clR n P M o ρ) : o = none ∨ ∃ t, o = some t ∧ x_Text n P t := by
  cases ρ with
  | none => exact Or.inl (h.1 rfl)
  | some T =>
    obtain ⟨t, h1, h2, _⟩ := h.2 T rfl
    exact Or.inr ⟨t, h1, h2⟩
theorem up_up (nm : Int → Int) (i a b : Int) : up (up nm i a) i b = up nm i b := by
  funext j
  unfold up
  by_cases h : j = i
  · rw [if_pos h, if_pos h]
  · rw [if_neg h, if_neg h, if_neg h]
theorem up_self (nm : Int → Int) (i : Int) : up nm i (nm i) = nm := by
  funext j
  unfold up
  by_cases h : j = i
  · rw [if_pos h, h]
  · rw [if_neg h]
abbrev hq (ρ : Option xTx) (nm : Int → Int) (fs laws q : Int) : Prop := x_and (x_shr laws q) 1 = 1 ∧ gui ρ q (up nm 1 q) fs = 1
abbrev fd (ρ : Option xTx) (nm : Int → Int) (fs laws : Int) : Prop := hq ρ nm fs laws 0 ∨ hq ρ nm fs laws 1 ∨ hq ρ nm fs laws 2 ∨ hq ρ nm fs laws 3
theorem fd_n {ρ : Option xTx} {nm : Int → Int} {fs laws : Int} (h : ∀ j, 0 ≤ j → j < 4 → ¬ hq ρ nm fs laws j) : ¬ fd ρ nm fs laws := by
  rintro (z | z | z | z)
  · exact h 0 (by omega) (by omega) z
  · exact h 1 (by omega) (by omega) z
  · exact h 2 (by omega) (by omega) z
  · exact h 3 (by omega) (by omega) z
theorem fd_y {ρ : Option xTx} {nm : Int → Int} {fs laws j : Int} (h : 0 ≤ j ∧ j < 4) (z : hq ρ nm fs laws j) : fd ρ nm fs laws := by
  have : j = 0 ∨ j = 1 ∨ j = 2 ∨ j = 3 := by omega
  rcases this with rfl | rfl | rfl | rfl
  · exact Or.inl z
  · exact Or.inr (Or.inl z)
  · exact Or.inr (Or.inr (Or.inl z))
  · exact Or.inr (Or.inr (Or.inr z))
theorem gui_r {ρ : Option xTx} (hR : okR ρ) {q : Int} (hq : 0 ≤ q ∧ q < 4) {nm : Int → Int} (hN : okN q nm) (fs : Int) : gui ρ q nm fs = 0 ∨ gui ρ q nm fs = 1 := by
  unfold gui
  cases e : lw ρ q nm fs with
  | none =>
    rw [Option.getD_none]
    exact bi_or _
  | some z =>
    rw [Option.getD_some]
    exact lw_truth hR (by omega) (Or.inl hq.2) hN e
abbrev x_inRd (x : Int) : Prop := -2147483648 ≤ x ∧ x ≤ 2147483647
set_option maxRecDepth 20000 in
theorem bitCount_ok : ∀ b : Fin 256, ((fun a0 : Int => x_inRd (a0 - (x_and (x_ushr a0 1) 1431655765)) ∧ x_inRd ((x_and (a0 - (x_and (x_ushr a0 1) 1431655765)) 858993459) + (x_and (x_ushr (a0 - (x_and (x_ushr a0 1) 1431655765)) 2) 858993459)) ∧ x_inRd (((x_and (a0 - (x_and (x_ushr a0 1) 1431655765)) 858993459) + (x_and (x_ushr (a0 - (x_and (x_ushr a0 1) 1431655765)) 2) 858993459)) + (x_ushr ((x_and (a0 - (x_and (x_ushr a0 1) 1431655765)) 858993459) + (x_and (x_ushr (a0 - (x_and (x_ushr a0 1) 1431655765)) 2) 858993459)) 4)) ∧ x_inRd ((x_and (((x_and (a0 - (x_and (x_ushr a0 1) 1431655765)) 858993459) + (x_and (x_ushr (a0 - (x_and (x_ushr a0 1) 1431655765)) 2) 858993459)) + (x_ushr ((x_and (a0 - (x_and (x_ushr a0 1) 1431655765)) 858993459) + (x_and (x_ushr (a0 - (x_and (x_ushr a0 1) 1431655765)) 2) 858993459)) 4)) 252645135) + (x_ushr (x_and (((x_and (a0 - (x_and (x_ushr a0 1) 1431655765)) 858993459) + (x_and (x_ushr (a0 - (x_and (x_ushr a0 1) 1431655765)) 2) 858993459)) + (x_ushr ((x_and (a0 - (x_and (x_ushr a0 1) 1431655765)) 858993459) + (x_and (x_ushr (a0 - (x_and (x_ushr a0 1) 1431655765)) 2) 858993459)) 4)) 252645135) 8)) ∧ x_inRd (((x_and (((x_and (a0 - (x_and (x_ushr a0 1) 1431655765)) 858993459) + (x_and (x_ushr (a0 - (x_and (x_ushr a0 1) 1431655765)) 2) 858993459)) + (x_ushr ((x_and (a0 - (x_and (x_ushr a0 1) 1431655765)) 858993459) + (x_and (x_ushr (a0 - (x_and (x_ushr a0 1) 1431655765)) 2) 858993459)) 4)) 252645135) + (x_ushr (x_and (((x_and (a0 - (x_and (x_ushr a0 1) 1431655765)) 858993459) + (x_and (x_ushr (a0 - (x_and (x_ushr a0 1) 1431655765)) 2) 858993459)) + (x_ushr ((x_and (a0 - (x_and (x_ushr a0 1) 1431655765)) 858993459) + (x_and (x_ushr (a0 - (x_and (x_ushr a0 1) 1431655765)) 2) 858993459)) 4)) 252645135) 8)) + (x_ushr ((x_and (((x_and (a0 - (x_and (x_ushr a0 1) 1431655765)) 858993459) + (x_and (x_ushr (a0 - (x_and (x_ushr a0 1) 1431655765)) 2) 858993459)) + (x_ushr ((x_and (a0 - (x_and (x_ushr a0 1) 1431655765)) 858993459) + (x_and (x_ushr (a0 - (x_and (x_ushr a0 1) 1431655765)) 2) 858993459)) 4)) 252645135) + (x_ushr (x_and (((x_and (a0 - (x_and (x_ushr a0 1) 1431655765)) 858993459) + (x_and (x_ushr (a0 - (x_and (x_ushr a0 1) 1431655765)) 2) 858993459)) + (x_ushr ((x_and (a0 - (x_and (x_ushr a0 1) 1431655765)) 858993459) + (x_and (x_ushr (a0 - (x_and (x_ushr a0 1) 1431655765)) 2) 858993459)) 4)) 252645135) 8)) 16)) ∧ (x_and (((x_and (((x_and (a0 - (x_and (x_ushr a0 1) 1431655765)) 858993459) + (x_and (x_ushr (a0 - (x_and (x_ushr a0 1) 1431655765)) 2) 858993459)) + (x_ushr ((x_and (a0 - (x_and (x_ushr a0 1) 1431655765)) 858993459) + (x_and (x_ushr (a0 - (x_and (x_ushr a0 1) 1431655765)) 2) 858993459)) 4)) 252645135) + (x_ushr (x_and (((x_and (a0 - (x_and (x_ushr a0 1) 1431655765)) 858993459) + (x_and (x_ushr (a0 - (x_and (x_ushr a0 1) 1431655765)) 2) 858993459)) + (x_ushr ((x_and (a0 - (x_and (x_ushr a0 1) 1431655765)) 858993459) + (x_and (x_ushr (a0 - (x_and (x_ushr a0 1) 1431655765)) 2) 858993459)) 4)) 252645135) 8)) + (x_ushr ((x_and (((x_and (a0 - (x_and (x_ushr a0 1) 1431655765)) 858993459) + (x_and (x_ushr (a0 - (x_and (x_ushr a0 1) 1431655765)) 2) 858993459)) + (x_ushr ((x_and (a0 - (x_and (x_ushr a0 1) 1431655765)) 858993459) + (x_and (x_ushr (a0 - (x_and (x_ushr a0 1) 1431655765)) 2) 858993459)) 4)) 252645135) + (x_ushr (x_and (((x_and (a0 - (x_and (x_ushr a0 1) 1431655765)) 858993459) + (x_and (x_ushr (a0 - (x_and (x_ushr a0 1) 1431655765)) 2) 858993459)) + (x_ushr ((x_and (a0 - (x_and (x_ushr a0 1) 1431655765)) 858993459) + (x_and (x_ushr (a0 - (x_and (x_ushr a0 1) 1431655765)) 2) 858993459)) 4)) 252645135) 8)) 16)) 63) = popc a0) (b.val : Int)) := by decide +kernel
section Law5
variable {g : Option Nat} {d n : Nat} {P : xP} {M : xM} {F : xM → Int → Prop} {G : xM → Prop}
theorem c_J6_bitCount (hn : 82 ≤ n) {a : Int} (h : 0 ≤ a ∧ a < 256) (H : F M (popc a)) : xCI Y_J6_bitCount_0f7a4 g d [vI a] n P M F := by
  obtain ⟨b, rfl⟩ : ∃ b : Fin 256, a = (b.val : Int) := ⟨⟨a.toNat, by omega⟩, by show a = (a.toNat : Int); omega⟩
  have h := bitCount_ok b
  dsimp only at h
  refine b_J6_bitCount_0f7a4 hn ⟨h.1, h.2.1, h.2.2.1, h.2.2.2.1, h.2.2.2.2.1, ?_⟩
  rw [h.2.2.2.2.2]
  exact H
set_option maxHeartbeats 1000000 in
theorem c_X2_judged (hn : 82 ≤ n) (hP : x_PP P) {o : Option Nat} {ρ : Option xTx} (hR : clR n P M o ρ) {nm st : Int → Int} {fs cm laws : Int} (hl : 0 ≤ laws ∧ laws < 256) (h5 : 0 ≤ nm 5 ∧ nm 5 ≤ 9) (h6 : 0 ≤ nm 6 ∧ nm 6 ≤ 1000) (hN : ∀ q, 0 ≤ q → q < 4 → okN q (up nm 1 q)) (hN7 : okN 7 (up nm 7 (popc laws)))
    (H : ∀ nm' st', F (Lw M nm' st' fs) (if cm = 0 ∧ fd ρ nm fs laws then sent ρ (up nm 7 (popc laws)) else -1)) : xCI Y_X2_judged g (d + 3) [vR (some 12), vR o, vI cm, vI laws] n P (Lw M nm st fs) F := by
  have ho := clR_o hR
  have okr := clR_ok hR
  refine j_X2_judged hn hP ho ?_
  rw [Lw_13]
  -- the end, not guilty
  have end0 : ∀ nm' st', up nm' 1 (nm 1) = nm → ¬ (cm = 0 ∧ fd ρ nm fs laws) → xW Y_X2_judged g (d + 3) 0 0 62 [(0, vR (some 12)), (1, vR o), (3, vI laws), (4, vI (nm 1)), (5, vI 0)] [] (0, 0) (n, P, Lw M nm' st' fs) (kI n P F) := by
    intro nm' st' e1 e2
    have H := H (up nm' 1 (nm 1)) st'
    rw [if_neg e2] at H
    rcases ho with rfl | ⟨t, rfl, hX⟩
    · refine b_X2_judgedN_62 hn hP ⟨fun h => absurd rfl h, fun _ => ?_⟩
      rw [Lw_u13]
      exact H
    · refine b_X2_judgedT_62 hn hP hX ⟨fun h => absurd rfl h, fun _ => ?_⟩
      rw [Lw_u13]
      exact H
  have end1 : ∀ nm' st', up nm' 1 (nm 1) = nm → (cm = 0 ∧ fd ρ nm fs laws) → xW Y_X2_judged g (d + 3) 0 0 62 [(0, vR (some 12)), (1, vR o), (3, vI laws), (4, vI (nm 1)), (5, vI 1)] [] (0, 0) (n, P, Lw M nm' st' fs) (kI n P F) := by
    intro nm' st' e1 e2
    have H : ∀ nm' st', F (Lw M nm' st' fs) (sent ρ (up nm 7 (popc laws))) := fun a b => by
      have := H a b
      rwa [if_pos e2] at this
    have e57 : up nm 7 (popc laws) 5 = nm 5 := rfl
    have e67 : up nm 7 (popc laws) 6 = nm 6 := rfl
    have dflt : ∀ st', lw ρ 7 (up nm 7 (popc laws)) 0 = none → inR (Lw M (up nm 7 (popc laws)) st' fs 13 5 * Lw M (up nm 7 (popc laws)) st' fs 13 6) ∧ F (Lw M (up nm 7 (popc laws)) st' fs) (Lw M (up nm 7 (popc laws)) st' fs 13 5 * Lw M (up nm 7 (popc laws)) st' fs 13 6) := by
      intro st' e
      have H := H (up nm 7 (popc laws)) st'
      unfold sent at H
      rw [e, Option.map_none, Option.getD_none] at H
      rw [Lw_13]
      refine ⟨?_, H⟩
      rw [e57, e67]
      have b1 : 0 ≤ nm 5 * nm 6 := Int.mul_nonneg h5.1 h6.1
      have b2 : nm 5 * nm 6 ≤ 9 * nm 6 := Int.mul_le_mul_of_nonneg_right h5.2 h6.1
      unfold inR
      omega
    cases ρ with
    | none =>
      cases hR.1 rfl
      refine b_X2_judgedN_62 hn hP ⟨fun _ => c_J6_bitCount hn hl ?_, fun h => absurd h (by decide)⟩
      rw [Lw_u13, Lw_u13, e1]
      exact b_X2_judgedN_119 hn hP (dflt st' rfl)
    | some T =>
      obtain ⟨t, rfl, hX, ⟨h43, _⟩, hT, hc⟩ := hR.2 T rfl
      refine b_X2_judgedT_62 hn hP hX ⟨fun _ => c_J6_bitCount hn hl ?_, fun h => absurd h (by decide)⟩
      rw [Lw_u13, Lw_u13, e1]
      refine xCI.mono (c_X2_num hn hP hX h43 hT hc (by omega) hN7 (F2 := fun M2 z2 => F M2 (cutI z2 0 999)) (fun e => dflt st' (((lw_fs okr (by omega) fs).symm.trans lw_some).trans e)) (fun z st1 e => ?_)) ?_
      case refine_2 =>
        intro M1 z1 h
        refine ⟨fun h1 => ?_, fun h1 => xCI.mono (h.2 h1) (fun M2 z2 h2 => c_cut hn (by omega) h2)⟩
        obtain ⟨rfl, h2⟩ := h.1 h1
        exact b_X2_judgedT_119 hn hP hX h2
      · have H := H (up nm 7 (popc laws)) st1
        unfold sent at H
        rw [← lw_fs okr (by omega) fs, lw_some, e, Option.map_some, Option.getD_some] at H
        exact H
  have loop : ∀ (m : Nat) (q a : Int) (st' : Int → Int), 0 ≤ q → q + m = 4 → (∀ j, 0 ≤ j → j < q → ¬ hq ρ nm fs laws j) → xW Y_X2_judged g (d + 3) 0 0 14 [(0, vR (some 12)), (1, vR o), (2, vI cm), (3, vI laws), (4, vI (nm 1)), (5, vI 0), (6, vI q)] [] (0, 0) (n, P, Lw M (up nm 1 a) st' fs) (kI n P F) := by
    intro m
    induction m with
    | zero =>
      intro q a st' q0 q4 hno
      exact j_X2_judged_14 hn hP ho ⟨fun _ => end0 _ _ (by rw [up_up, up_self]) (fun z => fd_n (fun j j1 j2 => hno j j1 (by omega)) z.2), fun h => absurd h (by omega)⟩
    | succ m ih =>
      intro q a st' q0 q4 hno
      refine j_X2_judged_14 hn hP ho ⟨fun h => absurd h (by omega), fun _ => ⟨fun hc => end0 _ _ (by rw [up_up, up_self]) (fun z => hc z.1), fun hc => ⟨fun h => absurd rfl h, fun _ => ⟨fun hb => ?_, fun hb => ?_⟩⟩⟩⟩
      · refine j_X2_judged_53 hn hP ho (j_X2_judged_54 hn hP ho ⟨by unfold inR; omega, ih (q + 1) a st' (by omega) (by omega) (fun j j1 j2 z => ?_)⟩)
        by_cases hj : j = q
        · subst hj; exact hb z.1
        · exact hno j j1 (by omega) z
      · refine c_X2_isGuiltyBy hn hP hR (by omega) (by rw [up_up]; exact hN q q0 (by omega)) (fun st2 => ?_)
        rw [up_up]
        rcases gui_r okr (by omega) (hN q q0 (by omega)) fs with e | e
        · rw [e]
          refine ⟨fun _ => ?_, fun h => absurd rfl h⟩
          refine j_X2_judged_53 hn hP ho (j_X2_judged_54 hn hP ho ⟨by unfold inR; omega, ih (q + 1) q st2 (by omega) (by omega) (fun j j1 j2 z => ?_)⟩)
          by_cases hj : j = q
          · subst hj
            rw [hq, e] at z
            exact absurd z.2 (by decide)
          · exact hno j j1 (by omega) z
        · rw [e]
          refine ⟨fun h => absurd h (by decide), fun _ => ?_⟩
          refine j_X2_judged_54 hn hP ho ⟨by unfold inR; omega, ?_⟩
          have hy : fd ρ nm fs laws := fd_y ⟨q0, by omega⟩ ⟨hb, e⟩
          have e1 : up (up nm 1 q) 1 (nm 1) = nm := by rw [up_up, up_self]
          refine j_X2_judged_14 hn hP ho ⟨fun _ => end1 _ _ e1 ⟨hc, hy⟩, fun _ => ⟨fun hc' => absurd hc hc', fun _ => ⟨fun _ => end1 _ _ e1 ⟨hc, hy⟩, fun h => absurd h (by decide)⟩⟩⟩
  have := loop 4 0 (nm 1) st (by omega) (by omega) (fun j j1 j2 => absurd j2 (by omega))
  rw [up_self] at this
  exact this
end Law5
