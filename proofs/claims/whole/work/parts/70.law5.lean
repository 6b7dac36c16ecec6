theorem j_X2_judged {g : Option Nat} {d n : Nat} {P : xP} {M : xM} {F : xM → Int → Prop} (hn : 82 ≤ n) (hP : x_PP P) {o : Option Nat} (ho : o = none ∨ ∃ t, o = some t ∧ x_Text n P t) {a2 a3 : Int} (H : xW Y_X2_judged g (d + 3) 0 0 14 [(0, vR (some 12)), (1, vR o), (2, vI a2), (3, vI a3), (4, vI (M 13 1)), (5, vI 0), (6, vI 0)] [] (0, 0) (n, P, M) (kI n P F)) : xCI Y_X2_judged g (d + 3) [vR (some 12), vR o, vI a2, vI a3] n P M F := by
  rcases ho with rfl | ⟨t, rfl, hX⟩
  · exact b_X2_judgedN hn hP H
  · exact b_X2_judgedT hn hP hX H
theorem j_X2_judged_14 {g : Option Nat} {d n : Nat} {P : xP} {M : xM} {F : xM → Int → Prop} (hn : 82 ≤ n) (hP : x_PP P) {o : Option Nat} (ho : o = none ∨ ∃ t, o = some t ∧ x_Text n P t) {x2 x3 x4 x5 x6 : Int} (H : ((4 ≤ x6 → xW Y_X2_judged g (d + 3) 0 0 62 [(0, vR (some 12)), (1, vR o), (3, vI x3), (4, vI x4), (5, vI x5)] [] (0, 0) (n, P, M) (kI n P F)) ∧ (¬ 4 ≤ x6 → ((¬ x2 = 0 → xW Y_X2_judged g (d + 3) 0 0 62 [(0, vR (some 12)), (1, vR o), (3, vI x3), (4, vI x4), (5, vI x5)] [] (0, 0) (n, P, M) (kI n P F)) ∧ (x2 = 0 → ((¬ x5 = 0 → xW Y_X2_judged g (d + 3) 0 0 62 [(0, vR (some 12)), (1, vR o), (3, vI x3), (4, vI x4), (5, vI x5)] [] (0, 0) (n, P, M) (kI n P F)) ∧ (x5 = 0 → ((¬ (x_and (x_shr x3 x6) 1) = 1 → xW Y_X2_judged g (d + 3) 0 0 53 [(0, vR (some 12)), (1, vR o), (2, vI x2), (3, vI x3), (4, vI x4), (6, vI x6)] [] (0, 0) (n, P, M) (kI n P F)) ∧ ((x_and (x_shr x3 x6) 1) = 1 → xCI Y_X2_isGuiltyBy g (d + 2) [vR (some 12), vR o, vI x6] n P M (fun M1 z1 => ((z1 = 0 → xW Y_X2_judged g (d + 3) 0 0 53 [(0, vR (some 12)), (1, vR o), (2, vI x2), (3, vI x3), (4, vI x4), (6, vI x6)] [] (0, 0) (n, P, M1) (kI n P F)) ∧ (¬ z1 = 0 → xW Y_X2_judged g (d + 3) 0 0 54 [(0, vR (some 12)), (1, vR o), (2, vI x2), (3, vI x3), (4, vI x4), (6, vI x6)] [vI 1] (0, 0) (n, P, M1) (kI n P F))))))))))))) : xW Y_X2_judged g (d + 3) 0 0 14 [(0, vR (some 12)), (1, vR o), (2, vI x2), (3, vI x3), (4, vI x4), (5, vI x5), (6, vI x6)] [] (0, 0) (n, P, M) (kI n P F) := by
  rcases ho with rfl | ⟨t, rfl, hX⟩
  · exact b_X2_judgedN_14 hn hP H
  · exact b_X2_judgedT_14 hn hP hX H
theorem j_X2_judged_53 {g : Option Nat} {d n : Nat} {P : xP} {M : xM} {F : xM → Int → Prop} (hn : 82 ≤ n) (hP : x_PP P) {o : Option Nat} (ho : o = none ∨ ∃ t, o = some t ∧ x_Text n P t) {x2 x3 x4 x6 : Int} (H : xW Y_X2_judged g (d + 3) 0 0 54 [(0, vR (some 12)), (1, vR o), (2, vI x2), (3, vI x3), (4, vI x4), (6, vI x6)] [vI 0] (0, 0) (n, P, M) (kI n P F)) : xW Y_X2_judged g (d + 3) 0 0 53 [(0, vR (some 12)), (1, vR o), (2, vI x2), (3, vI x3), (4, vI x4), (6, vI x6)] [] (0, 0) (n, P, M) (kI n P F) := by
  rcases ho with rfl | ⟨t, rfl, hX⟩
  · exact b_X2_judgedN_53 hn hP H
  · exact b_X2_judgedT_53 hn hP hX H
theorem j_X2_judged_54 {g : Option Nat} {d n : Nat} {P : xP} {M : xM} {F : xM → Int → Prop} (hn : 82 ≤ n) (hP : x_PP P) {o : Option Nat} (ho : o = none ∨ ∃ t, o = some t ∧ x_Text n P t) {x2 x3 x4 x6 s0 : Int} (H : inR (x6 + 1) ∧ xW Y_X2_judged g (d + 3) 0 0 14 [(0, vR (some 12)), (1, vR o), (2, vI x2), (3, vI x3), (4, vI x4), (5, vI s0), (6, vI (x6 + 1))] [] (0, 0) (n, P, M) (kI n P F)) : xW Y_X2_judged g (d + 3) 0 0 54 [(0, vR (some 12)), (1, vR o), (2, vI x2), (3, vI x3), (4, vI x4), (6, vI x6)] [vI s0] (0, 0) (n, P, M) (kI n P F) := by
  rcases ho with rfl | ⟨t, rfl, hX⟩
  · exact b_X2_judgedN_54 hn hP H
  · exact b_X2_judgedT_54 hn hP hX H
theorem j_X2_judged_119 {g : Option Nat} {d n : Nat} {P : xP} {M : xM} {F : xM → Int → Prop} (hn : 82 ≤ n) (hP : x_PP P) {o : Option Nat} (ho : o = none ∨ ∃ t, o = some t ∧ x_Text n P t) (H : inR ((M 13 5) * (M 13 6)) ∧ F M ((M 13 5) * (M 13 6))) : xW Y_X2_judged g (d + 3) 0 0 119 [(0, vR (some 12))] [] (0, 0) (n, P, M) (kI n P F) := by
  rcases ho with rfl | ⟨t, rfl, hX⟩
  · exact b_X2_judgedN_119 hn hP H
  · exact b_X2_judgedT_119 hn hP hX H
theorem clR_o {n : Nat} {P : xP} {M : xM} {o : Option Nat} {ρ : Option xTx} (h : clR n P M o ρ) : o = none ∨ ∃ t, o = some t ∧ x_Text n P t := by
  cases ρ with
  | none => exact Or.inl (h.1 rfl)
  | some T =>
    obtain ⟨t, h1, h2, _⟩ := h.2 T rfl
    exact Or.inr ⟨t, h1, h2⟩
theorem up_up (nm : Int → Int) (i a b : Int) : up (up nm i a) i b = up nm i b := by
  funext j
  unfold up
  by_cases h : j = i
  · rw [if_pos h, if_pos h]
  · rw [if_neg h, if_neg h, if_neg h]
theorem up_self (nm : Int → Int) (i : Int) : up nm i (nm i) = nm := by
  funext j
  unfold up
  by_cases h : j = i
  · rw [if_pos h, h]
  · rw [if_neg h]
abbrev hq (ρ : Option xTx) (nm : Int → Int) (fs laws q : Int) : Prop := x_and (x_shr laws q) 1 = 1 ∧ gui ρ q (up nm 1 q) fs = 1
abbrev fd (ρ : Option xTx) (nm : Int → Int) (fs laws : Int) : Prop := hq ρ nm fs laws 0 ∨ hq ρ nm fs laws 1 ∨ hq ρ nm fs laws 2 ∨ hq ρ nm fs laws 3
theorem fd_n {ρ : Option xTx} {nm : Int → Int} {fs laws : Int} (h : ∀ j, 0 ≤ j → j < 4 → ¬ hq ρ nm fs laws j) : ¬ fd ρ nm fs laws := by
  rintro (z | z | z | z)
  · exact h 0 (by omega) (by omega) z
  · exact h 1 (by omega) (by omega) z
  · exact h 2 (by omega) (by omega) z
  · exact h 3 (by omega) (by omega) z
theorem fd_y {ρ : Option xTx} {nm : Int → Int} {fs laws j : Int} (h : 0 ≤ j ∧ j < 4) (z : hq ρ nm fs laws j) : fd ρ nm fs laws := by
  have : j = 0 ∨ j = 1 ∨ j = 2 ∨ j = 3 := by omega
  rcases this with rfl | rfl | rfl | rfl
  · exact Or.inl z
  · exact Or.inr (Or.inl z)
  · exact Or.inr (Or.inr (Or.inl z))
  · exact Or.inr (Or.inr (Or.inr z))
theorem gui_r {ρ : Option xTx} (hR : okR ρ) {q : Int} (hq : 0 ≤ q ∧ q < 4) {nm : Int → Int} (hN : okN q nm) (fs : Int) : gui ρ q nm fs = 0 ∨ gui ρ q nm fs = 1 := by
  unfold gui
  cases e : lw ρ q nm fs with
  | none =>
    rw [Option.getD_none]
    exact bi_or _
  | some z =>
    rw [Option.getD_some]
    exact lw_truth hR (by omega) (Or.inl hq.2) hN e
abbrev x_inRd (x : Int) : Prop := -2147483648 ≤ x ∧ x ≤ 2147483647
set_option maxRecDepth 20000 in
theorem bitCount_ok : ∀ b : Fin 256, ((fun a0 : Int => x_inRd (a0 - (x_and (x_ushr a0 1) 1431655765)) ∧ x_inRd ((x_and (a0 - (x_and (x_ushr a0 1) 1431655765)) 858993459) + (x_and (x_ushr (a0 - (x_and (x_ushr a0 1) 1431655765)) 2) 858993459)) ∧ x_inRd (((x_and (a0 - (x_and (x_ushr a0 1) 1431655765)) 858993459) + (x_and (x_ushr (a0 - (x_and (x_ushr a0 1) 1431655765)) 2) 858993459)) + (x_ushr ((x_and (a0 - (x_and (x_ushr a0 1) 1431655765)) 858993459) + (x_and (x_ushr (a0 - (x_and (x_ushr a0 1) 1431655765)) 2) 858993459)) 4)) ∧ x_inRd ((x_and (((x_and (a0 - (x_and (x_ushr a0 1) 1431655765)) 858993459) + (x_and (x_ushr (a0 - (x_and (x_ushr a0 1) 1431655765)) 2) 858993459)) + (x_ushr ((x_and (a0 - (x_and (x_ushr a0 1) 1431655765)) 858993459) + (x_and (x_ushr (a0 - (x_and (x_ushr a0 1) 1431655765)) 2) 858993459)) 4)) 252645135) + (x_ushr (x_and (((x_and (a0 - (x_and (x_ushr a0 1) 1431655765)) 858993459) + (x_and (x_ushr (a0 - (x_and (x_ushr a0 1) 1431655765)) 2) 858993459)) + (x_ushr ((x_and (a0 - (x_and (x_ushr a0 1) 1431655765)) 858993459) + (x_and (x_ushr (a0 - (x_and (x_ushr a0 1) 1431655765)) 2) 858993459)) 4)) 252645135) 8)) ∧ x_inRd (((x_and (((x_and (a0 - (x_and (x_ushr a0 1) 1431655765)) 858993459) + (x_and (x_ushr (a0 - (x_and (x_ushr a0 1) 1431655765)) 2) 858993459)) + (x_ushr ((x_and (a0 - (x_and (x_ushr a0 1) 1431655765)) 858993459) + (x_and (x_ushr (a0 - (x_and (x_ushr a0 1) 1431655765)) 2) 858993459)) 4)) 252645135) + (x_ushr (x_and (((x_and (a0 - (x_and (x_ushr a0 1) 1431655765)) 858993459) + (x_and (x_ushr (a0 - (x_and (x_ushr a0 1) 1431655765)) 2) 858993459)) + (x_ushr ((x_and (a0 - (x_and (x_ushr a0 1) 1431655765)) 858993459) + (x_and (x_ushr (a0 - (x_and (x_ushr a0 1) 1431655765)) 2) 858993459)) 4)) 252645135) 8)) + (x_ushr ((x_and (((x_and (a0 - (x_and (x_ushr a0 1) 1431655765)) 858993459) + (x_and (x_ushr (a0 - (x_and (x_ushr a0 1) 1431655765)) 2) 858993459)) + (x_ushr ((x_and (a0 - (x_and (x_ushr a0 1) 1431655765)) 858993459) + (x_and (x_ushr (a0 - (x_and (x_ushr a0 1) 1431655765)) 2) 858993459)) 4)) 252645135) + (x_ushr (x_and (((x_and (a0 - (x_and (x_ushr a0 1) 1431655765)) 858993459) + (x_and (x_ushr (a0 - (x_and (x_ushr a0 1) 1431655765)) 2) 858993459)) + (x_ushr ((x_and (a0 - (x_and (x_ushr a0 1) 1431655765)) 858993459) + (x_and (x_ushr (a0 - (x_and (x_ushr a0 1) 1431655765)) 2) 858993459)) 4)) 252645135) 8)) 16)) ∧ (x_and (((x_and (((x_and (a0 - (x_and (x_ushr a0 1) 1431655765)) 858993459) + (x_and (x_ushr (a0 - (x_and (x_ushr a0 1) 1431655765)) 2) 858993459)) + (x_ushr ((x_and (a0 - (x_and (x_ushr a0 1) 1431655765)) 858993459) + (x_and (x_ushr (a0 - (x_and (x_ushr a0 1) 1431655765)) 2) 858993459)) 4)) 252645135) + (x_ushr (x_and (((x_and (a0 - (x_and (x_ushr a0 1) 1431655765)) 858993459) + (x_and (x_ushr (a0 - (x_and (x_ushr a0 1) 1431655765)) 2) 858993459)) + (x_ushr ((x_and (a0 - (x_and (x_ushr a0 1) 1431655765)) 858993459) + (x_and (x_ushr (a0 - (x_and (x_ushr a0 1) 1431655765)) 2) 858993459)) 4)) 252645135) 8)) + (x_ushr ((x_and (((x_and (a0 - (x_and (x_ushr a0 1) 1431655765)) 858993459) + (x_and (x_ushr (a0 - (x_and (x_ushr a0 1) 1431655765)) 2) 858993459)) + (x_ushr ((x_and (a0 - (x_and (x_ushr a0 1) 1431655765)) 858993459) + (x_and (x_ushr (a0 - (x_and (x_ushr a0 1) 1431655765)) 2) 858993459)) 4)) 252645135) + (x_ushr (x_and (((x_and (a0 - (x_and (x_ushr a0 1) 1431655765)) 858993459) + (x_and (x_ushr (a0 - (x_and (x_ushr a0 1) 1431655765)) 2) 858993459)) + (x_ushr ((x_and (a0 - (x_and (x_ushr a0 1) 1431655765)) 858993459) + (x_and (x_ushr (a0 - (x_and (x_ushr a0 1) 1431655765)) 2) 858993459)) 4)) 252645135) 8)) 16)) 63) = popc a0) (b.val : Int)) := by decide +kernel
section Law5
variable {g : Option Nat} {d n : Nat} {P : xP} {M : xM} {F : xM → Int → Prop} {G : xM → Prop}
theorem c_J6_bitCount (hn : 82 ≤ n) {a : Int} (h : 0 ≤ a ∧ a < 256) (H : F M (popc a)) : xCI Y_J6_bitCount_0f7a4 g d [vI a] n P M F := by
  obtain ⟨b, rfl⟩ : ∃ b : Fin 256, a = (b.val : Int) := ⟨⟨a.toNat, by omega⟩, by show a = (a.toNat : Int); omega⟩
  have h := bitCount_ok b
  dsimp only at h
  refine b_J6_bitCount_0f7a4 hn ⟨h.1, h.2.1, h.2.2.1, h.2.2.2.1, h.2.2.2.2.1, ?_⟩
  rw [h.2.2.2.2.2]
  exact H
end Law5
