/-! the reference: one hour's wind, and whether a case is found guilty -/
section Rlaw4
variable {g : Option Nat} {d n : Nat} {P : xP} {M : xM} {F : xM → Int → Prop} {G : xM → Prop}
theorem c_X10_turnBy (hn : 82 ≤ n) (hP : x_PP P) {ρ : Option xTx} (hR : rfR M (M 65 2) ρ) {nm f0 h0 : Int → Int} {fs x : Int} (hx : 0 ≤ x ∧ x ≤ 9) (h3 : 0 ≤ M 65 11 ∧ M 65 11 < 20000) (hq0 : 0 ≤ M 65 8 ∧ M 65 8 < 4) (hf0 : 0 ≤ M 65 9 ∧ M 65 9 ≤ 9)
    (H : ∀ nm' f' h', G (Rw (x_upd (x_upd (x_upd (x_upd M 65 11 (M 65 11 + 1)) 65 8 (tq ρ (M 65 11 + 1) (M 65 8) (M 65 9) x)) 65 9 (tf ρ (M 65 11 + 1) (M 65 8) (M 65 9) x)) 65 10 (tg ρ (M 65 11 + 1) (M 65 8) (M 65 9) x)) nm' f' h' fs)) :
    xCV Y_X10_turnBy g (d + 4) [vR (some 64), vI x] n P (Rw M nm f0 h0 fs) G := by
  have okr := rfR_ok hR
  have e65 : ∀ (M' : xM) nm' f2 h2 fs', Rw M' nm' f2 h2 fs' 65 = M' 65 := fun _ _ _ _ _ => Rw_ne (by decide) (by decide) (by decide) (by decide)
  have e67 : ∀ (M' : xM) nm' f2 h2 fs', Rw M' nm' f2 h2 fs' 67 = M' 67 := fun _ _ _ _ _ => Rw_ne (by decide) (by decide) (by decide) (by decide)
  have eu : ∀ (M' : xM) nm' f2 h2 fs' i v, x_upd (Rw M' nm' f2 h2 fs') 65 i v = Rw (x_upd M' 65 i v) nm' f2 h2 fs' := fun _ _ _ _ _ _ _ => Rw_u (fun z => absurd z.1 (by decide)) (by decide) (by decide) (by decide)
  -- from the veering on, whatever the way to its default
  have main : ∀ (s0 : Int) (nm1 : Int → Int), s0 = (if x = 0 then 1 else if x = 1 then -1 else 0) → nm1 0 = M 65 11 + 1 → nm1 1 = M 65 8 → nm1 2 = M 65 9 → nm1 3 = x → xW Y_X10_turnBy g (d + 4) 0 0 42 [(0, vR (some 64)), (1, vI x)] [vI s0, vI 0, vR (some 64)] (0, 0) (n, P, Rw (x_upd M 65 11 (M 65 11 + 1)) nm1 f0 h0 fs) (kV n P G) := by
    intro s0 nm1 hs n0 n1 n2 n3
    generalize hh : M 65 11 + 1 = h at *
    generalize hq : M 65 8 = q at *
    generalize hf : M 65 9 = f at *
    have hR1 : rfR (x_upd M 65 11 h) (x_upd M 65 11 h 65 2) ρ := by rw [x_upd_nj (by decide)]; exact rfR_65 hR
    have hq' := tq_r ρ (h := h) (f := f) (x := x) hq0
    have okn1 : ∀ κ, 4 ≤ κ ∧ κ < 7 → okN κ nm1 := fun κ hk => okN_w hk (by omega) (by omega) (by omega) (by omega)
    have v4 : ((lw ρ (0 + 4) nm1 0).map (fun z => cutI z (-3) 3)).getD s0 = veer ρ (wn h q f x) := by
      have : veer ρ nm1 = veer ρ (wn h q f x) := veer_congr okr n0 n1 n2 n3
      rw [← this, hs, ← n3]
      rfl
    refine b_X10_turnBy_42 hn hP (c_X10_says hn hP hR1 (by omega) (by omega) (okn1 _ (by omega)) (fun f2 h2 => ?_))
    rw [v4, e65, x_upd_nj (by decide), hq]
    have hv := veer_r ρ (wn h q f x)
    refine ⟨by unfold inR; omega, by unfold inR; omega, ?_⟩
    rw [show (q + veer ρ (wn h q f x) + 4).tmod 4 = tq ρ h q f x from rfl, eu]
    generalize hq2 : tq ρ h q f x = q' at *
    refine c_X10_name hn hP ?_
    rw [x_upd_nj (by decide : (11 : Int) ≠ 8), x_upd_at, x_upd_at, x_upd_nj (by decide : (9 : Int) ≠ 8), x_upd_nj (by decide : (9 : Int) ≠ 11), hf]
    have hR2 : rfR (x_upd (x_upd M 65 11 h) 65 8 q') (x_upd (x_upd M 65 11 h) 65 8 q' 65 2) ρ := by rw [x_upd_nj (by decide)]; exact rfR_65 hR1
    have okn2 : ∀ κ, 4 ≤ κ ∧ κ < 7 → okN κ (up (up (up nm1 0 h) 1 q') 2 f) := fun κ hk => okN_w hk (by show -1000000 ≤ h ∧ h ≤ 1000000; omega) hq' hf0 (by show 0 ≤ nm1 3 ∧ nm1 3 ≤ 9; omega)
    have v5 : ((lw ρ (1 + 4) (up (up (up nm1 0 h) 1 q') 2 f) 0).map (fun z => cutI z 0 9)).getD x = blow ρ (wn h q' f x) := by
      have : blow ρ (up (up (up nm1 0 h) 1 q') 2 f) = blow ρ (wn h q' f x) := blow_congr okr rfl rfl rfl n3
      rw [← this, ← n3]
      rfl
    refine c_X10_says hn hP hR2 (by omega) (by omega) (okn2 _ (by omega)) (fun f3 h3 => ?_)
    rw [v5, eu]
    have hf' := blow_r ρ (nm := wn h q' f x) hx
    have hf2 : tf ρ h q f x = blow ρ (wn h q' f x) := by unfold tf; rw [hq2]
    generalize hfv : blow ρ (wn h q' f x) = f' at *
    have hg2 : tg ρ h q f x = fogg ρ (wn h q' f' x) := by unfold tg; rw [hf2, hq2]
    rw [hf2, hg2] at H
    refine c_X10_name hn hP ?_
    rw [x_upd_nj (by decide : (11 : Int) ≠ 9), x_upd_nj (by decide : (11 : Int) ≠ 8), x_upd_at, x_upd_nj (by decide : (8 : Int) ≠ 9), x_upd_at, x_upd_at]
    generalize hM2 : x_upd (x_upd (x_upd M 65 11 h) 65 8 q') 65 9 f' = M2 at *
    have hR3 : rfR M2 (M2 65 2) ρ := by
      rw [← hM2, x_upd_nj (by decide)]
      exact rfR_65 hR2
    have m9 : M2 65 9 = f' := by rw [← hM2, x_upd_at]
    have m11 : M2 65 11 = h := by rw [← hM2, x_upd_nj (by decide), x_upd_nj (by decide), x_upd_at]
    generalize hnm : up (up (up (up (up (up nm1 0 h) 1 q') 2 f) 0 h) 1 q') 2 f' = nm3
    have k0 : nm3 0 = h := by rw [← hnm]; rfl
    have k1 : nm3 1 = q' := by rw [← hnm]; rfl
    have k2 : nm3 2 = f' := by rw [← hnm]; rfl
    have k3 : nm3 3 = x := by rw [← hnm]; exact n3
    have okn3 : okN 6 nm3 := okN_w (by omega) (by omega) (by omega) (by omega) (by omega)
    have v6 : fogg ρ nm3 = fogg ρ (wn h q' f' x) := fogg_congr okr k0 k1 k2 k3
    rw [← v6] at H
    rw [e65]
    refine c_X10_cl (κ := 6) hn hP (rfR_of (e67 _ _ _ _ _) hR3) (by omega) rfl (fun h => absurd h (by omega)) (fun hno => ?_) (fun T q1 c1 eT eq hC => ?_)
    · refine ⟨fun _ => b_X10_turnBy_121 hn hP ⟨fun h => absurd h (by decide), fun _ => ?_⟩, fun h => absurd (by decide) h⟩
      have e : lw ρ 6 nm3 0 = none := by
        cases ρ with
        | none => rw [lw_none]
        | some T => rw [lw_some, evl_none (hno T rfl)]
      unfold fogg at H
      rw [e, Option.getD_none, k0, k2] at H
      rw [e65, m9, m11, eu, eu]
      refine ⟨fun h1 => ?_, fun h1 => ⟨fun h2 => ?_, fun h2 => ?_⟩⟩
      · rw [bi_f (fun z => by omega)] at H
        exact H _ _ _
      · rw [bi_f (fun z => by omega)] at H
        exact H _ _ _
      · rw [bi_t ⟨by omega, by omega⟩] at H
        exact H _ _ _
    · subst eT
      have hC' : isC M2 (M2 65 2) T q1 c1 := by
        unfold isC rfP at *
        rw [e67] at hC
        exact hC
      refine ⟨fun h => absurd hC.2.1.1 (by omega), fun _ => ?_⟩
      rw [e65]
      refine c_X10_work hn hP (okr T rfl) (by omega) eq hC' okn3 (fun f4 h4 z hz b1 b2 => ?_)
      have hz2 := evl_truth (okr T rfl) (by omega) (Or.inr rfl) okn3 hz
      refine b_X10_turnBy_121 hn hP ⟨fun _ => ?_, fun h => absurd hC.2.1.1 h⟩
      unfold fogg at H
      rw [← lw_fs okr (by omega) fs, lw_some, hz, Option.getD_some] at H
      rw [Rw_73, b2 rfl, eu, eu]
      rcases hz2 with rfl | rfl
      · exact ⟨fun _ => H _ _ _, fun h => absurd rfl h⟩
      · exact ⟨fun h => absurd h (by decide), fun _ => H _ _ _⟩
  refine b_X10_turnBy hn hP ⟨by rw [e65]; unfold inR; omega, ?_⟩
  rw [e65, eu]
  refine c_X10_name hn hP ?_
  rw [x_upd_at, x_upd_nj (by decide), x_upd_nj (by decide), Rw_u71]
  exact ⟨fun h => ⟨fun h2 => main 0 _ (by rw [if_neg h, if_neg h2]) rfl rfl rfl rfl, fun h2 => main (-1) _ (by rw [if_neg h, if_pos h2]) rfl rfl rfl rfl⟩, fun h => main 1 _ (by rw [if_pos h]) rfl rfl rfl rfl⟩
end Rlaw4
