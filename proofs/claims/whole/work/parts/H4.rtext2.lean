/-! the reference's readText -/
section Rtext2
variable {g : Option Nat} {d n : Nat} {P : xP} {M M0 : xM} {F : xM → Int → Prop} {f : Int → Int} {L τ : Int} {J j fu : Nat} {R : tR} {l : List (Int × Int)} {C : List tC}
theorem bX_zero {i : Nat} (hi : i < 8) : bX 0 i = false := by
  have key : ∀ b : Fin 8, bX 0 b.val = false := by decide +kernel
  exact key ⟨i, hi⟩
theorem h_readText (hn : 82 ≤ n) (hP : x_PP P) (ht : tpT f L M) (hτ : 0 ≤ τ ∧ τ ≤ 3) (h1 : M 65 1 = τ) (hJ : tkJ f L J) (hf : 16 * J + 6 ≤ fu)
    (H0 : (rdA (Kf f L) (Vf f L) fu 301 (fun _ => none) [] [] 0).1 = 0 → ∀ M', rB f L τ M M' (rdA (Kf f L) (Vf f L) fu 301 (fun _ => none) [] [] 0).2.2.1 (rdA (Kf f L) (Vf f L) fu 301 (fun _ => none) [] [] 0).2.2.2.1 (rdA (Kf f L) (Vf f L) fu 301 (fun _ => none) [] [] 0).2.2.2.2 (rdA (Kf f L) (Vf f L) fu 301 (fun _ => none) [] [] 0).2.1 → F M' 0)
    (H1 : (rdA (Kf f L) (Vf f L) fu 301 (fun _ => none) [] [] 0).1 ≠ 0 → ∀ M', offQ τ M M' → tkR f L M' (ps f L (rdA (Kf f L) (Vf f L) fu 301 (fun _ => none) [] [] 0).2.1) → F M' (rdA (Kf f L) (Vf f L) fu 301 (fun _ => none) [] [] 0).1) : xCI Y_X10_readText g (d + 13) [vR (some 64)] n P M F := by
  have pr := fun i => ps_r (f := f) ht.2.1.1 i
  have V0 : ∀ i, 0 ≤ Vf f L i ∧ Vf f L i ≤ 10000 := fun i => V_r _ (pr i).2
  have KJ := K_73 hJ
  have J300 := hJ.2.2
  generalize hz : rdA (Kf f L) (Vf f L) fu 301 (fun _ => none) [] [] 0 = z at H0 H1
  have loop : ∀ (q : Nat) (R : tR) (l : List (Int × Int)) (C : List tC) (j : Nat) (N : xM), J - j < q → rdA (Kf f L) (Vf f L) fu q R l C j = z → j ≤ J → inC R l C j → rB f L τ M N R l C j → xW Y_X10_readText g (d + 13) 0 0 48 [(0, vR (some 64))] [] (0, 0) (n, P, N) (kI n P F) := by
    intro q
    induction q with
    | zero => intro R l C j N hq; omega
    | succ q ih =>
      intro R l C j N hq hr hj hC S
      have er : rdA (Kf f L) (Vf f L) fu (q + 1) R l C j = if Kf f L j = 73 then (0, j, R, l, C) else if (czS (Kf f L) (Vf f L) fu R l C j).1 ≠ 0 then czS (Kf f L) (Vf f L) fu R l C j else rdA (Kf f L) (Vf f L) fu q (czS (Kf f L) (Vf f L) fu R l C j).2.2.1 (czS (Kf f L) (Vf f L) fu R l C j).2.2.2.1 (czS (Kf f L) (Vf f L) fu R l C j).2.2.2.2 (czS (Kf f L) (Vf f L) fu R l C j).2.1 := rfl
      rw [er] at hr
      have t0 := (tk_kind S.2.1).1
      refine b_X10_readText_48 (d := d + 1) hn hP ⟨fun y => ?_, fun y => ?_⟩
      · have k73 : Kf f L j = 73 := t0.mp y
        rw [if_pos k73] at hr
        subst hr
        exact H0 rfl N S
      · have k73 : Kf f L j ≠ 73 := fun w => y (t0.mpr w)
        rw [if_neg k73] at hr
        have co := cz_ok KJ V0 hf hj k73 hC
        refine h_clause (fu := fu) hn hP ht hτ hJ hf S hC hj (fun e N1 s1 => ⟨fun _ => ?_, fun w => absurd rfl w⟩) (fun e N1 o1 t1 => ⟨fun w => absurd w e, fun _ => ?_⟩)
        · rw [if_neg (fun w => w e)] at hr
          obtain ⟨q1, q2⟩ := co.2.2 e
          exact ih _ _ _ _ N1 (by omega) hr co.2.1 q2 s1
        · rw [if_pos e] at hr
          subst hr
          exact H1 e N1 o1 t1
  refine b_X10_readText (d := d + 1) hn hP ?_
  rw [h1]
  refine ⟨by unfold inR; omega, by omega, ?_⟩
  generalize hN : (x_upd (x_upd (x_upd (x_upd (x_upd (x_upd M 64 12 (705 * τ)) 67 (705 * τ) 0) 64 13 0) 64 24 0) 64 23 0) 64 7 0) = N
  have o1 : offQ τ M N := by rw [← hN]; exact offQ_64 (offQ_64 (offQ_64 (offQ_64 (offQ_67 (offQ_64 (offQ_refl τ M) (by omega)) (by omega)) (by omega)) (by omega)) (by omega)) (by omega)
  have n7 : N 64 7 = 0 := by rw [← hN, x_upd_at]
  have n12 : N 64 12 = 705 * τ := by rw [← hN, x_upd_nj (by decide), x_upd_nj (by decide), x_upd_nj (by decide), x_upd_nj (by decide), x_upd_nb (by decide), x_upd_at]
  have n13 : N 64 13 = 0 := by rw [← hN, x_upd_nj (by decide), x_upd_nj (by decide), x_upd_nj (by decide), x_upd_at]
  have n24 : N 64 24 = 0 := by rw [← hN, x_upd_nj (by decide), x_upd_nj (by decide), x_upd_at]
  have n23 : N 64 23 = 0 := by rw [← hN, x_upd_nj (by decide), x_upd_at]
  have n67 : N 67 (705 * τ) = 0 := by rw [← hN, x_upd_nb (by decide), x_upd_nb (by decide), x_upd_nb (by decide), x_upd_nb (by decide), x_upd_at]
  refine q_nextToken hn hP (tpT_Q o1 ht) (by rw [n7]; exact ⟨Int.le_refl _, ht.2.1.1⟩) (fun M1 k1 t1 => ?_)
  rw [n7] at t1
  refine loop 301 _ _ _ 0 M1 (by omega) hz (Nat.zero_le _) inC_0 ⟨offQ_K o1 k1, t1, by rw [k1.2 12 (by decide)]; exact n12, ⟨by rw [k1.2 13 (by decide)]; exact n13, fun i hi => absurd hi (Nat.not_lt_zero _)⟩, by rw [k1.1 67 (by decide)]; exact n67, fun i hi => absurd hi (Nat.not_lt_zero _), fun q q0 q4 => ?_, fun q q0 q4 => ?_⟩
  · rw [k1.2 23 (by decide), n23, bX_zero (by omega)]
    exact ⟨fun w => (by cases w), fun w => absurd rfl w⟩
  · rw [k1.2 24 (by decide), n24, bX_zero (by omega)]
    exact ⟨fun w => (by cases w), fun w => absurd rfl w⟩
end Rtext2
