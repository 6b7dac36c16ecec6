/-! hours and decades: the reference; decades: the class -/
section Hrs2
variable {g : Option Nat} {d n : Nat} {P : xP} {M : xM} {F : xM → Int → Prop} {G : xM → Prop}
theorem q_pass (hn : 82 ≤ n) (hP : x_PP P) {ρ : Option xTx} (hR : rfR M (M 65 2) ρ) (h : oka (M 65)) (H : ∀ M', offR M M' → M' 65 = rHour ρ (M 65) → M' 64 29 = (if rEnd (M 65) then x_wr (M 64 29 + 1) else M 64 29) → G M') : xCV Y_X10_pass g (d + 6) [vR (some 64)] n P M G := by
  obtain ⟨K, hI⟩ := oka_inv h
  have := k_pass (g := g) (d := d) (G := G) (nm := M 71) (f := M 72) (h' := M 73) (fs := M 64 26) hn hP hR hI (fun nm' f2 h2 fs' => by
    refine H _ (offR_Rw (offR_set (offR_upd (offR_refl M) (by omega)) (by omega))) ?_ ?_
    · rw [Rw_ne (by decide) (by decide) (by decide) (by decide), setA_at]
    · rw [Rw_64 (by decide), setA_ne (by decide), x_upd_at])
  rw [Rw_self] at this
  exact this
theorem q_arePassed (hn : 82 ≤ n) (hP : x_PP P) {ρ : Option xTx} {v : Int} (hρ : rho M (M 65 2) ρ) (h : oka (M 65)) (hv : 0 ≤ v ∧ v ≤ 60)
    (H : ∀ M', offR M M' → M' 65 = rHrs ρ (if M 65 11 + v ≤ 9999 then v else 9999 - M 65 11).toNat (M 65) → (M 64 29 = 0 → M' 64 29 = rCnt ρ (if M 65 11 + v ≤ 9999 then v else 9999 - M 65 11).toNat (M 65)) → F M' (bi (M 65 11 + v ≤ 9999))) : xCI Y_X10_arePassed g (d + 7) [vR (some 64), vI v] n P M F := by
  obtain ⟨K0, hI0⟩ := oka_inv h
  have r11 := hI0.2.1.2.2.2.1
  have okr := rho_okR hρ
  have loop : ∀ (k : Nat) (M : xM) (x2 : Int), rho M (M 65 2) ρ → oka (M 65) → 0 ≤ x2 → x2 + k = v → (0 ≤ M 65 11 ∧ M 65 11 ≤ 9999) → (∀ M', offR M M' → M' 65 = rHrs ρ (if M 65 11 + k ≤ 9999 then (k : Int) else 9999 - M 65 11).toNat (M 65) → ((0 ≤ M 64 29 ∧ M 64 29 ≤ x2) → M' 64 29 = M 64 29 + rCnt ρ (if M 65 11 + k ≤ 9999 then (k : Int) else 9999 - M 65 11).toNat (M 65)) → F M' (bi (M 65 11 + k ≤ 9999))) → xW Y_X10_arePassed g (d + 7) 0 0 2 [(0, vR (some 64)), (1, vI v), (2, vI x2)] [] (0, 0) (n, P, M) (kI n P F) := by
    intro k
    induction k with
    | zero =>
      intro M x2 hρ h h0 hk r11 H
      refine b_X10_arePassed_2 hn hP ⟨fun _ => ?_, fun z => absurd z (by omega)⟩
      have h1 : M 65 11 + ((0 : Nat) : Int) ≤ 9999 := by omega
      rw [if_pos h1, bi_t h1] at H
      exact H M (offR_refl M) rfl (fun _ => (Int.add_zero _).symm)
    | succ k ih =>
      intro M x2 hρ h h0 hk r11 H
      refine b_X10_arePassed_2 hn hP ⟨fun z => absurd z (by omega), fun _ => ⟨fun hl => ?_, fun hl => ?_⟩⟩
      · have h3 := oka_3 h
        refine c_X10_keep hn hP h3 ?_
        have s65 : setA M 65 (rKeep (M 65)) 65 = rKeep (M 65) := setA_at _ _ _
        have o1 : offR M (setA M 65 (rKeep (M 65))) := offR_set (offR_refl M) (by omega)
        have hρ1 : rho (setA M 65 (rKeep (M 65))) (setA M 65 (rKeep (M 65)) 65 2) ρ := by
          rw [s65, oka_at h (by decide) (by decide)]
          exact rho_R o1 hρ
        have s29 : setA M 65 (rKeep (M 65)) 64 29 = M 64 29 := by rw [setA_ne (by decide)]
        refine q_pass hn hP (rho_rf hρ1) (by rw [s65]; exact oka_keep h) (fun M2 o2 e2 w2 => ⟨by unfold inR; omega, ?_⟩)
        rw [s65] at e2 w2
        rw [s29] at w2
        have e2' : M2 65 = rStep ρ (M 65) := e2
        have o12 := offR_trans o1 o2
        have t11 : M2 65 11 = M 65 11 + 1 := by rw [e2', step_11 h]
        refine ih M2 (x2 + 1) ?_ ?_ (by omega) (by omega) (by omega) (fun M' o' e' w' => ?_)
        · rw [e2', step_lo h ρ (by omega)]
          exact rho_R o12 hρ
        · rw [e2']
          exact oka_step h okr (by omega)
        · have H' := H M' (offR_trans o12 o')
          rw [t11, e2'] at e' w'
          rw [t11]
          by_cases hb : M 65 11 + ((k + 1 : Nat) : Int) ≤ 9999
          · rw [if_pos hb, bi_t hb] at H'
            rw [if_pos (show M 65 11 + 1 + (k : Int) ≤ 9999 by omega)] at e' w'
            rw [bi_t (show M 65 11 + 1 + (k : Int) ≤ 9999 by omega)]
            rw [show ((k : Nat) : Int).toNat = k by omega] at e' w'
            rw [show (((k + 1 : Nat) : Nat) : Int).toNat = k + 1 by omega] at H'
            refine H' e' (fun hz => ?_)
            have bo := bi_or (rEnd (rKeep (M 65)))
            by_cases he : rEnd (rKeep (M 65))
            · rw [if_pos he, x_wr_of (by unfold inR; omega)] at w2
              rw [w' (by omega), w2]
              show M 64 29 + 1 + rCnt ρ k (rStep ρ (M 65)) = M 64 29 + (bi (rEnd (rKeep (M 65))) + rCnt ρ k (rStep ρ (M 65)))
              rw [bi_t he]
              omega
            · rw [if_neg he] at w2
              rw [w' (by omega), w2]
              show M 64 29 + rCnt ρ k (rStep ρ (M 65)) = M 64 29 + (bi (rEnd (rKeep (M 65))) + rCnt ρ k (rStep ρ (M 65)))
              rw [bi_f he]
              omega
          · rw [if_neg hb, bi_f hb] at H'
            rw [if_neg (show ¬ M 65 11 + 1 + (k : Int) ≤ 9999 by omega)] at e' w'
            rw [bi_f (show ¬ M 65 11 + 1 + (k : Int) ≤ 9999 by omega)]
            rw [show (9999 - M 65 11).toNat = (9999 - (M 65 11 + 1)).toNat + 1 by omega] at H'
            refine H' e' (fun hz => ?_)
            have bo := bi_or (rEnd (rKeep (M 65)))
            by_cases he : rEnd (rKeep (M 65))
            · rw [if_pos he, x_wr_of (by unfold inR; omega)] at w2
              rw [w' (by omega), w2]
              show M 64 29 + 1 + rCnt ρ _ (rStep ρ (M 65)) = M 64 29 + (bi (rEnd (rKeep (M 65))) + rCnt ρ _ (rStep ρ (M 65)))
              rw [bi_t he]
              omega
            · rw [if_neg he] at w2
              rw [w' (by omega), w2]
              show M 64 29 + rCnt ρ _ (rStep ρ (M 65)) = M 64 29 + (bi (rEnd (rKeep (M 65))) + rCnt ρ _ (rStep ρ (M 65)))
              rw [bi_f he]
              omega
      · have hb : ¬ M 65 11 + ((k + 1 : Nat) : Int) ≤ 9999 := by omega
        rw [if_neg hb, bi_f hb, show (9999 - M 65 11).toNat = 0 by omega] at H
        exact H M (offR_refl M) rfl (fun _ => (Int.add_zero _).symm)
  have hvn : ((v.toNat : Nat) : Int) = v := by omega
  refine b_X10_arePassed hn hP (loop v.toNat M 0 hρ h (by omega) (by omega) r11 (fun M' o' e' w' => ?_))
  rw [hvn] at e' w' ⊢
  exact H M' o' e' (fun z => by rw [w' (by omega), z, Int.zero_add])
theorem q_hour (hn : 82 ≤ n) (hP : x_PP P) {ρ : Option xTx} {v : Int} (hρ : rho M (M 65 2) ρ) (h : oka (M 65)) (H0 : ¬ ((1 ≤ v ∧ v ≤ 60) ∧ M 65 11 + v ≤ 9999) → F M (-1)) (H1 : (1 ≤ v ∧ v ≤ 60) ∧ M 65 11 + v ≤ 9999 → ∀ M', offR M M' → M' 65 = rHrs ρ v.toNat (M 65) → F M' (rCnt ρ v.toNat (M 65))) : xCI Y_X10_hour g (d + 8) [vR (some 64), vI v] n P M F := by
  obtain ⟨K0, hI0⟩ := oka_inv h
  have r11 := hI0.2.1.2.2.2.1
  refine b_X10_hour hn hP (c_X10_isIn hn ⟨fun hz => H0 (fun z => bi_0.mp hz z.1), fun hz => ?_⟩)
  have hv := bi_n0.mp hz
  refine ⟨by unfold inR; omega, fun hl => ?_, fun hl => H0 (fun z => hl z.2)⟩
  have u65 : x_upd M 64 29 0 65 = M 65 := by funext j; exact x_upd_nb (by decide)
  have ou : offR M (x_upd M 64 29 0) := offR_upd (offR_refl M) (by omega)
  refine q_arePassed hn hP (ρ := ρ) (by rw [u65]; exact rho_R ou hρ) (by rw [u65]; exact h) (by omega) (fun M' o' e' w' => ?_)
  rw [u65, if_pos hl] at e' w'
  rw [u65, bi_t hl]
  refine ⟨fun z => absurd z (by decide), fun _ => ?_⟩
  rw [w' (x_upd_at _ _ _ _)]
  exact H1 ⟨hv, hl⟩ M' (offR_trans ou o') e'
end Hrs2
