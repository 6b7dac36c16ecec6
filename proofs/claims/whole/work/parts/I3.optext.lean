/-! text() on both sides -/
theorem PP_82 {P : xP} (h : x_PP P) {j : Int} {v : Option Nat} : x_PP (x_updP P 82 j v) := fun q hq => by
  have hne : q.1 ≠ 82 := (by decide : ∀ q ∈ x_PL, q.1 ≠ 82) q hq
  rw [x_updP_ne hne]
  exact h q hq
abbrev rdT (f : Int → Int) (L : Int) (J : Nat) : cR := rdA (Kf f L) (Vf f L) (16 * J + 6) 301 (fun _ => none) [] [] 0
def fnT (N : xM) : xM := x_upd (x_upd (x_upd N 0 7 (N 82 6)) 0 8 ((x_upd N 0 7 (N 82 6)) 82 7)) 37 1 0
section OpText
variable {g0 d : Nat} {P : xP} {M : xM} {Q : xH → Option xV → Prop}
theorem i_X4 {t : Nat} (k : Q (83, x_updP (x_updP P 82 0 (some 37)) 82 1 (some t), x_upd (x_upd M 82 2 (-1)) 82 7 (-1)) none) : xC Y_X4_init (some g0) (d + 1) 0 0 [vR (some 82), vR (some 37), vR (some t)] (83, P, M) Q := by
  refine xC.of pl_X4_init (Nat.le_of_ble_eq_true rfl) rfl ?_
  refine xW.aload_n dX4_init_0 0 rfl ?_
  refine xW.objI dX4_init_1 ol_X4 oi_inst oi_code (Nat.le_of_ble_eq_true rfl) ?_
  refine xW.aload_n dX4_init_4 0 rfl ?_
  refine xW.aload_n dX4_init_5 1 rfl ?_
  refine xW.putR true dX4_init_6 fk_X4_9 (fun _ => ⟨rfl, fun _ _ _ w => (by cases w; rfl)⟩) rfl (Nat.le_of_ble_eq_true rfl) rfl ?_
  refine xW.aload_n dX4_init_9 0 rfl ?_
  refine xW.aload_n dX4_init_10 2 rfl ?_
  refine xW.putR true dX4_init_11 fk_X4_15 (fun _ => ⟨rfl, fun _ _ _ w => (by cases w; rfl)⟩) rfl (Nat.le_of_ble_eq_true rfl) rfl ?_
  refine xW.aload_n dX4_init_14 0 rfl ?_
  refine xW.iconst dX4_init_15 (by unfold inR; omega) ?_
  refine xW.putI dX4_init_16 fk_X4_19 rfl (Nat.le_of_ble_eq_true rfl) rfl ?_
  refine xW.aload_n dX4_init_19 0 rfl ?_
  refine xW.iconst dX4_init_20 (by unfold inR; omega) ?_
  refine xW.putI dX4_init_21 fk_X4_23 rfl (Nat.le_of_ble_eq_true rfl) rfl ?_
  exact xW.vret dX4_init_24 rfl ⟨Nat.le_refl _, Nat.le_refl _⟩ k
theorem k_text (hP : x_PP P) (hb : x_b0 P M 82) (ht : tpC M) (hτ : 0 ≤ M 1 8 ∧ M 1 8 ≤ 4) (H4 : M 1 8 = 4 → Q (82, P, M) (some (vI (-1))))
    (H : M 1 8 < 4 → ∀ (J : Nat) (P1 : xP) (N : xM), tkJ (M 38) (M 37 1) J → x_PP P1 → (∀ c, c ≠ 37 → ¬ (39 ≤ c ∧ c < 42) → c ≠ 82 → ¬ (43 + 5 * (M 1 8).toNat ≤ c ∧ c ≤ 47 + 5 * (M 1 8).toNat) → N c = M c) →
      ((rdT (M 38) (M 37 1) J).1 = 0 → cB (43 + 5 * (M 1 8).toNat) J (Kf (M 38) (M 37 1)) (Vf (M 38) (M 37 1)) (ps (M 38) (M 37 1)) N (rdT (M 38) (M 37 1) J).2.2.1 (rdT (M 38) (M 37 1) J).2.2.2.1 (rdT (M 38) (M 37 1) J).2.2.2.2 (rdT (M 38) (M 37 1) J).2.1 → inC (rdT (M 38) (M 37 1) J).2.2.1 (rdT (M 38) (M 37 1) J).2.2.2.1 (rdT (M 38) (M 37 1) J).2.2.2.2 (rdT (M 38) (M 37 1) J).2.1 → Q (83, P1, x_upd (fnT N) 1 8 (M 1 8 + 1)) (some (vI (M 1 8)))) ∧
      ((rdT (M 38) (M 37 1) J).1 ≠ 0 → flt (43 + 5 * (M 1 8).toNat) J (Kf (M 38) (M 37 1)) (Vf (M 38) (M 37 1)) (ps (M 38) (M 37 1)) N (rdT (M 38) (M 37 1) J).1 (rdT (M 38) (M 37 1) J).2.1 → Q (83, P1, fnT N) (some (vI (-1))))) : xC Y_X9_text (some g0) (d + 100) 1 8 [vR (some 0)] (82, P, M) Q := by
  refine xC.of pn_X9_text (Nat.le_of_ble_eq_true rfl) rfl ?_
  refine xW.aload_n dX9_text_0 0 rfl ?_
  refine xW.getR (o := some 1) dX9_text_1 fk_X9_15 rfl (Nat.le_of_ble_eq_true rfl) rfl (pp_0_0 hP) ?_
  refine xW.getI dX9_text_4 fk_X9_88 rfl (Nat.le_of_ble_eq_true rfl) (Or.inl rfl) ?_
  refine xW.istore_n dX9_text_7 (Nat.le_of_ble_eq_true rfl) rfl ?_
  show xW Y_X9_text (some g0) (d + 100) 1 8 8 [(0, vR (some 0)), (1, vI (M 1 8))] [] (0, 0) (82, P, M) Q
  generalize hv : M 1 8 = τ at *
  refine xW.iload_n dX9_text_8 1 rfl ?_
  refine xW.iconst dX9_text_9 (by unfold inR; omega) ?_
  refine xW.iconst dX9_text_10 (by unfold inR; omega) ?_
  refine xW.callSI (F := fun M' z => M' = M ∧ z = bi (0 ≤ τ ∧ τ ≤ 3)) [vI τ, vI 0, vI 3] [] dX9_text_11 ms_X9_60 rfl rfl (Nat.le_of_ble_eq_true rfl) ⟨Nat.zero_le _, Nat.zero_le _⟩ (c_X9_within (Nat.le_refl _) ⟨rfl, rfl⟩) (fun M' z hz => ?_)
  obtain ⟨rfl, rfl⟩ := hz
  by_cases h4 : τ = 4
  · refine xW.ifne (tgt := 19) dX9_text_14 (by decide) (fun w => absurd (if_neg (fun z => by omega)) w) (fun _ => ?_)
    refine xW.iconst dX9_text_17 (by unfold inR; omega) ?_
    exact xW.iret dX9_text_18 rfl ⟨Nat.zero_le _, Nat.zero_le _⟩ (H4 h4)
  refine xW.ifne (tgt := 19) dX9_text_14 (by decide) (fun _ => ?_) (fun w => absurd w (by rw [show bi (0 ≤ τ ∧ τ ≤ 3) = 1 from if_pos (by omega)]; decide))
  have hn : 82 ≤ 82 := Nat.le_refl _
  obtain ⟨htx, -⟩ := x_txt hn hP (τ := τ) (by omega)
  refine xW.aload_n dX9_text_19 0 rfl ?_
  refine xW.getR (o := some 37) dX9_text_20 fk_X9_38 rfl (Nat.le_of_ble_eq_true rfl) rfl (pp_0_3 hP) ?_
  refine xW.callVV (F := fun M1 => ∃ J, offT M' M1 ∧ tkJ (M' 38) (M' 37 1) J ∧ tkS (M' 38) (M' 37 1) M1 (J + 1)) [] [] dX9_text_23 mv_X9_90 (cl_37 hn) rfl rfl (Nat.le_of_ble_eq_true rfl) ⟨Nat.zero_le _, Nat.zero_le _⟩ (k_scan (d := d + 91) hn hP ht (fun M1 J o1 j1 s1 => ⟨J, o1, j1, s1⟩)) (fun M1 hM1 => ?_)
  obtain ⟨J, o1, j1, s1⟩ := hM1
  have hb1 : x_b0 P M1 82 := ⟨hb.1, fun j => by rw [o1.1 82 (by decide) (by decide)]; exact hb.2 j⟩
  refine xW.newO dX9_text_26 nk_X9_93 rfl (Or.inr x_no4_3) (fun w => absurd w (by decide)) (fun w => absurd w (by decide)) (by decide) hb1 ⟨Nat.le_of_ble_eq_true rfl, Nat.le_of_ble_eq_true rfl⟩ ?_
  show xW Y_X9_text (some g0) (d + 100) 1 8 29 [(0, vR (some 0)), (1, vI τ)] [vR (some 82)] (1, 8) (83, P, M1) Q
  refine xW.dup dX9_text_29 rfl ?_
  refine xW.aload_n dX9_text_30 0 rfl ?_
  refine xW.getR (o := some 37) dX9_text_31 fk_X9_38 rfl (Nat.le_of_ble_eq_true rfl) rfl (pp_0_3 hP) ?_
  refine xW.aload_n dX9_text_34 0 rfl ?_
  refine xW.getR (o := some 42) dX9_text_35 fk_X9_44 rfl (Nat.le_of_ble_eq_true rfl) rfl (pp_0_2 hP) ?_
  refine xW.iload_n dX9_text_38 1 rfl ?_
  refine xW.aald (o := some (43 + 5 * τ.toNat)) dX9_text_39 (Or.inl rfl) (Nat.le_of_ble_eq_true rfl) hτ.1 (show τ < 4 by omega) htx ?_
  refine xW.callI (As := [vR (some 37), vR (some (43 + 5 * τ.toNat))]) (rest := [vR (some 82)]) dX9_text_40 mk_X9_95 rfl rfl im_X4_init rfl rfl (Nat.le_of_ble_eq_true rfl) ⟨Nat.le_refl _, Nat.le_refl _⟩ (i_X4 (d := d + 98) ?_)
  generalize hP1 : x_updP (x_updP P 82 0 (some 37)) 82 1 (some (43 + 5 * τ.toNat)) = P1
  have hPP1 : x_PP P1 := by rw [← hP1]; exact PP_82 (PP_82 hP)
  have r0 : P1 82 0 = some 37 := by rw [← hP1]; rfl
  have r1 : P1 82 1 = some (43 + 5 * τ.toNat) := by rw [← hP1]; rfl
  generalize hM2 : x_upd (x_upd M1 82 2 (-1)) 82 7 (-1) = M2
  have e2 : ∀ c, c ≠ 82 → M2 c = M1 c := fun c hc => by
    rw [← hM2]
    funext j
    rw [x_upd_nb hc, x_upd_nb hc]
  show xW Y_X9_text (some g0) (d + 100) 1 8 43 [(0, vR (some 0)), (1, vI τ)] [vR (some 82)] (1, 8) (83, P1, M2) Q
  refine xW.astore_n dX9_text_43 (Nat.le_of_ble_eq_true rfl) rfl ?_
  show xW Y_X9_text (some g0) (d + 100) 1 8 44 [(0, vR (some 0)), (1, vI τ), (2, vR (some 82))] [] (1, 8) (83, P1, M2) Q
  refine xW.aload_n dX9_text_44 2 rfl ?_
  have hn3 : 83 ≤ 83 := Nat.le_refl _
  have ht3 : 43 ≤ 43 + 5 * τ.toNat ∧ 43 + 5 * τ.toNat ≤ 58 := by omega
  have hL := ht.1
  have pr := fun i => ps_r (f := M' 38) hL.1 i
  have hk : tokC J (Kf (M' 38) (M' 37 1)) (Vf (M' 38) (M' 37 1)) (ps (M' 38) (M' 37 1)) M2 := by
    obtain ⟨t1, t2⟩ := s1
    refine ⟨?_, j1.2.2, fun j hj => ?_⟩
    · rw [e2 37 (by decide), t1]; omega
    · obtain ⟨u1, u2, u3⟩ := t2 j (by omega)
      rw [e2 39 (by decide), e2 40 (by decide), e2 41 (by decide)]
      exact ⟨u1, u2, u3⟩
  refine xW.callVI (F := fun N z => (∀ c, c ≠ 82 → ¬ (43 + 5 * τ.toNat ≤ c ∧ c ≤ 43 + 5 * τ.toNat + 4) → N c = M2 c) ∧ ((z = 1 ∧ (rdT (M' 38) (M' 37 1) J).1 = 0 ∧ cB (43 + 5 * τ.toNat) J (Kf (M' 38) (M' 37 1)) (Vf (M' 38) (M' 37 1)) (ps (M' 38) (M' 37 1)) N (rdT (M' 38) (M' 37 1) J).2.2.1 (rdT (M' 38) (M' 37 1) J).2.2.2.1 (rdT (M' 38) (M' 37 1) J).2.2.2.2 (rdT (M' 38) (M' 37 1) J).2.1 ∧ inC (rdT (M' 38) (M' 37 1) J).2.2.1 (rdT (M' 38) (M' 37 1) J).2.2.2.1 (rdT (M' 38) (M' 37 1) J).2.2.2.2 (rdT (M' 38) (M' 37 1) J).2.1) ∨ (z = 0 ∧ (rdT (M' 38) (M' 37 1) J).1 ≠ 0 ∧ flt (43 + 5 * τ.toNat) J (Kf (M' 38) (M' 37 1)) (Vf (M' 38) (M' 37 1)) (ps (M' 38) (M' 37 1)) N (rdT (M' 38) (M' 37 1) J).1 (rdT (M' 38) (M' 37 1) J).2.1))) [] [] dX9_text_45 mv_X9_98 (cl_82 hn3) rfl rfl (Nat.le_of_ble_eq_true rfl) ⟨Nat.le_refl _, Nat.le_refl _⟩
    (k_readAll (d := d + 93) (fu := 16 * J + 6) hn3 hPP1 (x_txt (n := 83) (by decide) hPP1 (τ := τ) (by omega)).2 r0 r1 ht3 (K_73 j1) (fun j => V_r _ (pr j).2) (by omega) (Nat.le_refl _) hk (by rw [← hM2, x_upd_nj (by decide), x_upd_at]) (by rw [← hM2, x_upd_nj (by decide), x_upd_nj (by decide)]; exact (hb1.2 6).trans (if_neg (fun z => absurd z.1 (by decide)))) (by rw [← hM2, x_upd_at]) (fun a N o c i => ⟨o, Or.inl ⟨rfl, a, c, i⟩⟩) (fun a N o f => ⟨o, Or.inr ⟨rfl, a, f⟩⟩)) (fun N z hz => ?_)
  obtain ⟨oN, hz⟩ := hz
  refine xW.istore_n dX9_text_48 (Nat.le_of_ble_eq_true rfl) rfl ?_
  show xW Y_X9_text (some g0) (d + 100) 1 8 49 [(0, vR (some 0)), (1, vI τ), (2, vR (some 82)), (3, vI z)] [] (1, 8) (83, P1, N) Q
  refine xW.aload_n dX9_text_49 0 rfl ?_
  refine xW.aload_n dX9_text_50 2 rfl ?_
  refine xW.getI dX9_text_51 fk_X9_101 rfl (Nat.le_of_ble_eq_true rfl) (Or.inl rfl) ?_
  refine xW.putI dX9_text_54 fk_X9_53 rfl (Nat.le_of_ble_eq_true rfl) rfl ?_
  refine xW.aload_n dX9_text_57 0 rfl ?_
  refine xW.aload_n dX9_text_58 2 rfl ?_
  refine xW.getI dX9_text_59 fk_X9_102 rfl (Nat.le_of_ble_eq_true rfl) (Or.inl rfl) ?_
  refine xW.putI dX9_text_62 fk_X9_57 rfl (Nat.le_of_ble_eq_true rfl) rfl ?_
  refine xW.aload_n dX9_text_65 0 rfl ?_
  refine xW.getR (o := some 37) dX9_text_66 fk_X9_38 rfl (Nat.le_of_ble_eq_true rfl) rfl (pp_0_3 hPP1) ?_
  refine xW.iconst dX9_text_69 (by unfold inR; omega) ?_
  refine xW.putI dX9_text_70 fk_X9_85 rfl (Nat.le_of_ble_eq_true rfl) rfl ?_
  refine xW.iload_n dX9_text_73 3 rfl ?_
  show xW Y_X9_text (some g0) (d + 100) 1 8 74 [(0, vR (some 0)), (1, vI τ), (2, vR (some 82)), (3, vI z)] [vI z] (1, 8) (83, P1, fnT N) Q
  have oM : ∀ c, c ≠ 37 → ¬ (39 ≤ c ∧ c < 42) → c ≠ 82 → ¬ (43 + 5 * τ.toNat ≤ c ∧ c ≤ 47 + 5 * τ.toNat) → N c = M' c := fun c c1 c2 c3 c4 => by
    rw [oN c c3 (by omega), e2 c c3]
    exact o1.1 c c1 c2
  obtain ⟨HA, HB⟩ := H (by omega) J P1 N j1 hPP1 oM
  rcases hz with ⟨rfl, a, cb, ic⟩ | ⟨rfl, a, fl⟩
  · refine xW.ifne (tgt := 79) dX9_text_74 (by decide) (fun _ => ?_) (fun w => absurd w (by decide))
    refine xW.aload_n dX9_text_79 0 rfl ?_
    refine xW.getR (o := some 1) dX9_text_80 fk_X9_15 rfl (Nat.le_of_ble_eq_true rfl) rfl (pp_0_0 hPP1) ?_
    refine xW.iload_n dX9_text_83 1 rfl ?_
    refine xW.iconst dX9_text_84 (by unfold inR; omega) ?_
    refine xW.iadd dX9_text_85 (by unfold inR; omega) ?_
    refine xW.putI dX9_text_86 fk_X9_88 rfl (Nat.le_of_ble_eq_true rfl) rfl ?_
    refine xW.iload_n dX9_text_89 1 rfl ?_
    exact xW.iret dX9_text_90 rfl ⟨Nat.le_refl _, Nat.le_refl _⟩ (HA a cb ic)
  · refine xW.ifne (tgt := 79) dX9_text_74 (by decide) (fun w => absurd rfl w) (fun _ => ?_)
    refine xW.iconst dX9_text_77 (by unfold inR; omega) ?_
    exact xW.iret dX9_text_78 rfl ⟨Nat.le_refl _, Nat.le_refl _⟩ (HB a fl)
end OpText
