/-! text(): the relation again -/
theorem Rel_gen {M M2 : xM} (h : Rel M) (r : relC (M2 65) (CC M2)) (k : ∀ i, 26 ≤ i → i < 37 → M2 i = M i) (k66 : M2 66 = M 66) (le : M 65 1 ≤ M2 65 1) (tx : ∀ τ, 0 ≤ τ → τ < M2 65 1 → ∃ T, txt M2 τ T) (tp : tpR M2) (ft : M2 0 7 = M2 64 5 ∧ M2 0 8 = M2 64 6) : Rel M2 := by
  obtain ⟨-, r2, r3, -, -, -⟩ := h
  refine ⟨r, ?_, ?_, tx, tp, ft⟩
  · rw [k66]
    have q : ∀ i, i < 11 → ∀ j, CK M2 i j = CK M i j := fun i hi j => by
      show M2 (26 + i) j = M (26 + i) j
      rw [k (26 + i) (by omega) (by omega)]
    exact relC_of r2 (fun _ _ _ => rfl) (q 0 (by omega) _) (q 0 (by omega) _) (q 0 (by omega) _) (q 0 (by omega) _) (fun j _ _ => q 1 (by omega) j) (fun j _ _ => q 2 (by omega) j) (q 3 (by omega) _) (fun j _ _ => q 4 (by omega) j) (q 5 (by omega) _) (fun j _ _ => q 6 (by omega) j) (q 7 (by omega) _) (fun j _ _ => q 8 (by omega) j) (q 9 (by omega) _) (fun j _ _ => q 10 (by omega) j)
  · rw [k66]; exact Int.le_trans r3 le
/-- what is told of cells that are not made is nothing -/
theorem Rel_low {M M2 : xM} (h : Rel M) (e : ∀ c, c < 82 → M2 c = M c) : Rel M2 := by
  have h14 := h.1.2.1.1
  refine Rel_gen h ?_ (fun i _ _ => e i (by omega)) (e 66 (by decide)) (by rw [e 65 (by decide)]; exact Int.le_refl _) (fun τ t0 t1 => ?_) ?_ ?_
  · rw [e 65 (by decide)]
    exact relC_same h.1 (fun c _ _ => e c (by omega))
  · rw [e 65 (by decide)] at t1
    obtain ⟨T, hT⟩ := h.2.2.2.1 τ t0 t1
    exact ⟨T, txt_of ⟨t0, by omega⟩ (fun c _ _ => e c (by omega)) (e 67 (by decide)) hT⟩
  · have := h.2.2.2.2.1
    unfold tpR at *
    rw [e 37 (by decide), e 38 (by decide), e 68 (by decide), e 64 (by decide)]
    exact this
  · rw [e 0 (by decide), e 64 (by decide)]
    exact h.2.2.2.2.2
theorem fnT_0 {N : xM} : fnT N 0 7 = N 82 6 ∧ fnT N 0 8 = N 82 7 ∧ fnT N 37 1 = 0 := by
  unfold fnT
  refine ⟨?_, ?_, x_upd_at _ _ _ _⟩
  · rw [x_upd_nb (by decide), x_upd_nj (by decide), x_upd_at]
  · rw [x_upd_nb (by decide), x_upd_at, x_upd_nb (by decide)]
theorem fnT_ne {N : xM} {c : Nat} (h0 : c ≠ 0) (h37 : c ≠ 37) : fnT N c = N c := by
  unfold fnT
  funext j
  rw [x_upd_nb h37, x_upd_nb h0, x_upd_nb h0]
section OpText2
variable {g0 d : Nat} {P : xP} {M : xM}
theorem op_text (hP : x_PP P) (hb : x_b0 P M 82) (h : Rel M) : xC Y_X9_text (some g0) (d + 100) 1 8 [vR (some 0)] (82, P, M) (fun h1 r1 => ∃ (n1 : Nat) (P1 : xP) (M1 : xM) (z1 : Int), h1 = (n1, P1, M1) ∧ 82 ≤ n1 ∧ r1 = some (vI z1) ∧ x_PP P1 ∧ xCI Y_X10_text none (d + 100) [vR (some 64)] 82 P1 M1 (fun M2 z2 => z2 = z1 ∧ Rel M2)) := by
  have hr := h.1
  have e18 : M 1 8 = M 65 1 := hr.1.2.1.symm
  have h14 := hr.2.1.1
  obtain ⟨p1, p2, p3⟩ := h.2.2.2.2.1
  refine k_text hP hb ⟨p2, fun i i0 i1 => (p3 i i0 i1).2⟩ (by rw [e18]; exact h14) (fun w => ⟨82, P, M, -1, rfl, Nat.le_refl _, rfl, hP, b_X10_text (d := d + 87) (Nat.le_refl _) hP ⟨fun q => absurd (e18.symm.trans w) q, fun _ => ⟨rfl, h⟩⟩⟩) (fun w4 J P1 N hJ hP1 oN => ?_)
  generalize hv : M 1 8 = τ at *
  have a1 : M 65 1 = τ := e18.symm
  have hn : 82 ≤ 82 := Nat.le_refl _
  have tpN : ∀ N' : xM, N' 64 = M 64 → N' 68 = M 68 → tpT (M 38) (M 37 1) N' := fun N' q1 q2 => ⟨by rw [q1]; exact p1.symm, p2, fun i i0 i1 => by rw [q2]; exact ⟨((p3 i i0 i1).1).symm, (p3 i i0 i1).2⟩⟩
  have n64 : N 64 = M 64 := oN 64 (by decide) (by decide) (by decide) (by omega)
  have n65 : N 65 = M 65 := oN 65 (by decide) (by decide) (by decide) (by omega)
  have n68 : N 68 = M 68 := oN 68 (by decide) (by decide) (by decide) (by omega)
  have fN : ∀ c, c ≠ 0 → c ≠ 37 → fnT N c = N c := fun c c0 c1 => fnT_ne c0 c1
  -- texts told before stay
  have old : ∀ (M2 : xM), (∀ c, 43 ≤ c → c < 63 → M2 c = N c) → (∀ i, i < 705 * τ ∨ 705 * τ + 705 ≤ i → M2 67 i = M 67 i) → ∀ τ', 0 ≤ τ' → τ' < τ → ∃ T, txt M2 τ' T := fun M2 q1 q2 τ' t0 t1 => by
    obtain ⟨T, hT⟩ := h.2.2.2.1 τ' t0 (by omega)
    refine ⟨T, txt_far ⟨t0, by omega⟩ (fun c c0 c1 => ?_) (fun i i0 i1 => q2 i (by omega)) hT⟩
    rw [q1 c (by omega) (by omega)]
    exact oN c (by omega) (by omega) (by omega) (by omega)
  refine ⟨fun a cb ic => ?_, fun a fl => ?_⟩
  · -- it was read
    generalize hM1 : x_upd (fnT N) 1 8 (τ + 1) = M1
    have m1 : ∀ c, c ≠ 0 → c ≠ 37 → c ≠ 1 → M1 c = N c := fun c c0 c1 c2 => by
      rw [← hM1]
      funext j
      rw [x_upd_nb c2, fN c c0 c1]
    refine ⟨83, P1, M1, τ, rfl, by decide, rfl, hP1, b_X10_text (d := d + 87) hn hP1 ⟨fun q => ?_, fun q => absurd q (by rw [m1 65 (by decide) (by decide) (by decide), n65]; omega)⟩⟩
    refine h_readText (d := d + 86) (f := M 38) (L := M 37 1) (τ := τ) (J := J) (fu := 16 * J + 6) hn hP1 (tpN M1 ((m1 64 (by decide) (by decide) (by decide)).trans n64) ((m1 68 (by decide) (by decide) (by decide)).trans n68)) (by omega) (by rw [m1 65 (by decide) (by decide) (by decide), n65]; exact a1) hJ (Nat.le_refl _) (fun _ M' rb => ⟨fun w => absurd rfl w, fun _ => ?_⟩) (fun w => absurd a w)
    obtain ⟨o1, tk, b12, ⟨b13, ol⟩, r0, cr, -, -⟩ := rb
    have m65 : M' 65 = M 65 := (o1.1 65 (by decide) (by decide) (by decide) (by decide)).trans ((m1 65 (by decide) (by decide) (by decide)).trans n65)
    refine b_X10_text_36 hn hP1 ⟨fun _ => ?_, fun w => absurd (x_upd_at _ _ _ _) w⟩
    have v1 : (x_upd M' 64 5 0) 65 1 = τ := by rw [x_upd_nb (by decide), m65]; exact a1
    rw [v1]
    refine ⟨by unfold inR; omega, by unfold inR; omega, by omega, ?_⟩
    generalize hM2 : x_upd (x_upd (x_upd (x_upd M' 64 5 0) 64 6 (-1)) 64 4 0) 65 1 (τ + 1) = M2
    have m2 : ∀ c, c ≠ 64 → c ≠ 65 → M2 c = M' c := fun c c0 c1 => by
      rw [← hM2]
      funext j
      rw [x_upd_nb c1, x_upd_nb c0, x_upd_nb c0, x_upd_nb c0]
    have m2N : ∀ c, c ≠ 64 → c ≠ 65 → c ≠ 67 → c ≠ 69 → c ≠ 70 → c ≠ 0 → c ≠ 37 → c ≠ 1 → M2 c = N c := fun c c0 c1 c2 c3 c4 c5 c6 c7 => (m2 c c0 c1).trans ((o1.1 c c0 c2 c3 c4).trans (m1 c c5 c6 c7))
    have m2M : ∀ c, c < 37 → c ≠ 0 → c ≠ 1 → M2 c = M c := fun c c0 c1 c2 => (m2N c (by omega) (by omega) (by omega) (by omega) (by omega) c1 (by omega) c2).trans (oN c (by omega) (by omega) (by omega) (by omega))
    have e65 : M2 65 1 = τ + 1 := by rw [← hM2]; exact x_upd_at _ _ _ _
    obtain ⟨⟨κ, hcl⟩, lw, c5, cc⟩ := cb
    obtain ⟨g1, g2, g6, g7, g8⟩ := hcl.2.2.1
    have hj : (rdT (M 38) (M 37 1) J).2.1 ≤ 300 := by
      have := hcl.2.1.2.2.1
      have := hJ.2.2
      omega
    have new : txt M2 τ (fun j => (rdT (M 38) (M 37 1) J).2.2.2.1.getD j.toNat (0, 0), (rdT (M 38) (M 37 1) J).2.2.1) := by
      have cN : ∀ c, 43 + 5 * τ.toNat ≤ c → c ≤ 47 + 5 * τ.toNat → M2 c = N c := fun c c0 c1 => m2N c (by omega) (by omega) (by omega) (by omega) (by omega) (by omega) (by omega) (by omega)
      have c67 : M2 67 = M' 67 := m2 67 (by decide) (by decide)
      refine txt_new rfl hj ic (fun i hi => ?_) ?_ ?_ ?_ (fun i hi => ?_) (fun i hi => ?_) ?_ (fun i hi => ?_)
      · rw [cN _ (by omega) (by omega)]; exact g2 i hi
      · rw [cN _ (by omega) (by omega)]; exact g6
      · exact lwC_of (cN _ (by omega) (by omega)) (cN _ (by omega) (by omega)) lw
      · rw [cN _ (by omega) (by omega)]; exact c5
      · have := cc i hi
        unfold crC at *
        rw [cN (43 + 5 * τ.toNat + 4) (by omega) (by omega)]
        exact this
      · rw [c67]; exact ol i hi
      · rw [c67]; exact r0
      · have := cr i hi
        unfold crR at *
        rw [c67]
        exact this
    refine Rel_gen h (relC_txt h.1 (by omega) (by rw [e65, a1]) (fun j hj' => ?_) ?_ (fun j hj' => ?_) (fun i i0 i1 => ?_)) (fun i i0 i1 => m2M i (by omega) (by omega) (by omega)) ?_ (by rw [e65, a1]; omega) (fun τ' t0 t1 => ?_) ⟨?_, ?_, fun i i0 i1 => ?_⟩ ⟨?_, ?_⟩
    · rw [← hM2, x_upd_nj hj', x_upd_nb (by decide), x_upd_nb (by decide), x_upd_nb (by decide), m65]
    · show M2 1 8 = M 1 8 + 1
      rw [m2 1 (by decide) (by decide), o1.1 1 (by decide) (by decide) (by decide) (by decide), ← hM1, x_upd_at, hv]
    · show M2 1 j = M 1 j
      rw [m2 1 (by decide) (by decide), o1.1 1 (by decide) (by decide) (by decide) (by decide), ← hM1, x_upd_nj hj', fN 1 (by decide) (by decide), oN 1 (by decide) (by decide) (by decide) (by omega)]
    · exact m2M (1 + i) (by omega) (by omega) (by omega)
    · exact (m2N 66 (by decide) (by decide) (by decide) (by decide) (by decide) (by decide) (by decide) (by decide)).trans (oN 66 (by decide) (by decide) (by decide) (by omega))
    · rw [e65] at t1
      by_cases hlt : τ' < τ
      · refine old M2 (fun c c0 c1 => m2N c (by omega) (by omega) (by omega) (by omega) (by omega) (by omega) (by omega) (by omega)) (fun i hi => ?_) τ' t0 hlt
        rw [m2 67 (by decide) (by decide), o1.2.2 i hi, m1 67 (by decide) (by decide) (by decide), oN 67 (by decide) (by decide) (by decide) (by omega)]
      · rw [show τ' = τ by omega]
        exact ⟨_, new⟩
    · rw [m2 37 (by decide) (by decide), o1.1 37 (by decide) (by decide) (by decide) (by decide), ← hM1, x_upd_nb (by decide), fnT_0.2.2, ← hM2, x_upd_nb (by decide), x_upd_at]
    · rw [m2 37 (by decide) (by decide), o1.1 37 (by decide) (by decide) (by decide) (by decide), ← hM1, x_upd_nb (by decide), fnT_0.2.2]
      decide
    · rw [m2 37 (by decide) (by decide), o1.1 37 (by decide) (by decide) (by decide) (by decide), ← hM1, x_upd_nb (by decide), fnT_0.2.2] at i1
      omega
    · rw [m2 0 (by decide) (by decide), o1.1 0 (by decide) (by decide) (by decide) (by decide), ← hM1, x_upd_nb (by decide), fnT_0.1, g7, ← hM2, x_upd_nb (by decide), x_upd_nj (by decide), x_upd_nj (by decide), x_upd_at]
    · rw [m2 0 (by decide) (by decide), o1.1 0 (by decide) (by decide) (by decide) (by decide), ← hM1, x_upd_nb (by decide), fnT_0.2.1, g8, ← hM2, x_upd_nb (by decide), x_upd_nj (by decide), x_upd_at]
  · -- it was refused
    generalize hM1 : fnT N = M1
    have m1 : ∀ c, c ≠ 0 → c ≠ 37 → M1 c = N c := fun c c0 c1 => by
      rw [← hM1]; exact fN c c0 c1
    refine ⟨83, P1, M1, -1, rfl, by decide, rfl, hP1, b_X10_text (d := d + 87) hn hP1 ⟨fun q => ?_, fun q => absurd q (by rw [m1 65 (by decide) (by decide), n65]; omega)⟩⟩
    refine h_readText (d := d + 86) (f := M 38) (L := M 37 1) (τ := τ) (J := J) (fu := 16 * J + 6) hn hP1 (tpN M1 ((m1 64 (by decide) (by decide)).trans n64) ((m1 68 (by decide) (by decide)).trans n68)) (by omega) (by rw [m1 65 (by decide) (by decide), n65]; exact a1) hJ (Nat.le_refl _) (fun w => absurd w a) (fun _ M' o1 tk => ⟨fun _ => ?_, fun w => absurd w a⟩)
    have m65 : M' 65 = M 65 := (o1.1 65 (by decide) (by decide) (by decide) (by decide)).trans ((m1 65 (by decide) (by decide)).trans n65)
    obtain ⟨-, f6, f7, -⟩ := fl
    refine b_X10_text_36 hn hP1 ⟨fun w => absurd ((x_upd_at _ _ _ _).symm.trans w) a, fun _ => ⟨rfl, ?_⟩⟩
    rw [tk.1]
    show Rel (x_upd (x_upd (x_upd M' 64 5 (rdT (M 38) (M 37 1) J).1) 64 6 (ps (M 38) (M 37 1) (rdT (M 38) (M 37 1) J).2.1)) 64 4 0)
    generalize rdT (M 38) (M 37 1) J = rd at f6 f7 a ⊢
    generalize hM2 : x_upd (x_upd (x_upd M' 64 5 rd.1) 64 6 (ps (M 38) (M 37 1) rd.2.1)) 64 4 0 = M2
    have m2 : ∀ c, c ≠ 64 → M2 c = M' c := fun c c0 => by
      rw [← hM2]
      funext j
      rw [x_upd_nb c0, x_upd_nb c0, x_upd_nb c0]
    have m2N : ∀ c, c ≠ 64 → c ≠ 67 → c ≠ 69 → c ≠ 70 → c ≠ 0 → c ≠ 37 → M2 c = N c := fun c c0 c2 c3 c4 c5 c6 => (m2 c c0).trans ((o1.1 c c0 c2 c3 c4).trans (m1 c c5 c6))
    have m2M : ∀ c, c < 37 → c ≠ 0 → M2 c = M c := fun c c0 c1 => (m2N c (by omega) (by omega) (by omega) (by omega) c1 (by omega)).trans (oN c (by omega) (by omega) (by omega) (by omega))
    have e65 : M2 65 = M 65 := (m2 65 (by decide)).trans m65
    refine Rel_gen h (by rw [e65]; exact relC_same h.1 (fun c c0 c1 => m2M c (by omega) (by omega))) (fun i i0 i1 => m2M i (by omega) (by omega)) ?_ (by rw [e65]; exact Int.le_refl _) (fun τ' t0 t1 => ?_) ⟨?_, ?_, fun i i0 i1 => ?_⟩ ⟨?_, ?_⟩
    · exact (m2N 66 (by decide) (by decide) (by decide) (by decide) (by decide) (by decide)).trans (oN 66 (by decide) (by decide) (by decide) (by omega))
    · rw [e65, a1] at t1
      refine old M2 (fun c c0 c1 => m2N c (by omega) (by omega) (by omega) (by omega) (by omega) (by omega)) (fun i hi => ?_) τ' t0 t1
      rw [m2 67 (by decide), o1.2.2 i hi, m1 67 (by decide) (by decide), oN 67 (by decide) (by decide) (by decide) (by omega)]
    · rw [m2 37 (by decide), o1.1 37 (by decide) (by decide) (by decide) (by decide), ← hM1, fnT_0.2.2, ← hM2, x_upd_at]
    · rw [m2 37 (by decide), o1.1 37 (by decide) (by decide) (by decide) (by decide), ← hM1, fnT_0.2.2]
      decide
    · rw [m2 37 (by decide), o1.1 37 (by decide) (by decide) (by decide) (by decide), ← hM1, fnT_0.2.2] at i1
      omega
    · rw [m2 0 (by decide), o1.1 0 (by decide) (by decide) (by decide) (by decide), ← hM1, fnT_0.1, f6, ← hM2, x_upd_nj (by decide), x_upd_nj (by decide), x_upd_at]
    · rw [m2 0 (by decide), o1.1 0 (by decide) (by decide) (by decide) (by decide), ← hM1, fnT_0.2.1, f7, ← hM2, x_upd_nj (by decide), x_upd_at]
end OpText2
