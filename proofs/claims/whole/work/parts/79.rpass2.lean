/-! the reference: one hour, whole -/
def rDraw (A : Int → Int) : Int → Int := up A 12 ((A 12 * 331 + 223) % 30389)
def rOk (A : Int → Int) : Prop := (0 ≤ A 8 ∧ A 8 < 4) ∧ (0 ≤ A 9 ∧ A 9 ≤ 9) ∧ (0 ≤ A 11 ∧ A 11 ≤ 9999) ∧ (0 ≤ A 12 ∧ A 12 < 30389) ∧ (0 ≤ A 14 ∧ A 14 < 20) ∧ (0 ≤ A 15 ∧ A 15 < 16) ∧ (0 ≤ A 16 ∧ A 16 ≤ 3) ∧ (0 ≤ A 17 ∧ A 17 < 30)
def rkOk (A : Int → Int) (c : Int) : Prop := (0 ≤ A (20 + 7 * c + 0) ∧ A (20 + 7 * c + 0) ≤ 9) ∧ (0 ≤ A (20 + 7 * c + 1) ∧ A (20 + 7 * c + 1) ≤ 9) ∧ (0 ≤ A (20 + 7 * c + 2) ∧ A (20 + 7 * c + 2) ≤ 9) ∧ (0 ≤ A (20 + 7 * c + 3) ∧ A (20 + 7 * c + 3) < 256)
theorem rLeave_lo {A : Int → Int} {w s j : Int} (h13 : 0 ≤ A 13) (h : j < 13 ∨ j = 17) : rLeave A w s j = A j := by
  unfold rLeave
  rw [if_neg (by omega), if_neg (by omega), if_neg (by omega), if_neg (by omega)]
theorem rBook_lo {A : Int → Int} {c w s j : Int} (h17 : 0 ≤ A 17) (h : j < 1182) (h2 : j ≠ 17) : rBook A c w s j = A j := by
  unfold rBook
  rw [up_ne h2, up_ne (by omega), up_ne (by omega)]
theorem rHeard_ne {A : Int → Int} {j : Int} (h1 : j ≠ 14) (h2 : j ≠ 15) : rHeard A j = A j := by
  unfold rHeard
  rw [up_ne h2, up_ne h1]
section Rpass2
variable {g : Option Nat} {d n : Nat} {P : xP} {M : xM} {F : xM → Int → Prop} {G : xM → Prop}
theorem c_X10_pass (hn : 82 ≤ n) (hP : x_PP P) {ρ : Option xTx} (hR : rfR M (M 65 2) ρ) (hA : rOk (M 65)) (h13 : M 65 13 = -1 ∨ (0 ≤ M 65 13 ∧ M 65 13 < 8)) (hK : 0 ≤ M 65 13 → rkOk (M 65) (M 65 13))
    {nm f h : Int → Int} {fs : Int}
    (Ha : M 65 13 = -1 → ∀ nm' f' h' fs', G (Rw (setA M 65 (rTurn ρ (rDraw (M 65)) ((M 65 12).tmod 10))) nm' f' h' fs'))
    (Hb : M 65 13 ≠ -1 → M 65 14 + 1 ≠ M 65 (20 + 7 * M 65 13 + 2) + M 65 16 → ∀ nm' f' h' fs', G (Rw (setA M 65 (rTurn ρ (rDraw (rHeard (M 65))) ((M 65 12).tmod 10))) nm' f' h' fs'))
    (Hc : M 65 13 ≠ -1 → M 65 14 + 1 = M 65 (20 + 7 * M 65 13 + 2) + M 65 16 → ¬ rFd ρ (rHeard (M 65)) (M 65 13) → ∀ nm' f' h' fs', G (Rw (setA (x_upd M 64 29 (x_wr (M 64 29 + 1))) 65 (rTurn ρ (rDraw (rLeave (rBook (rHeard (M 65)) (M 65 13) 0 0) 2 0)) ((M 65 12).tmod 10))) nm' f' h' fs'))
    (Hd : M 65 13 ≠ -1 → M 65 14 + 1 = M 65 (20 + 7 * M 65 13 + 2) + M 65 16 → rFd ρ (rHeard (M 65)) (M 65 13) → ∀ nm' f' h' fs', G (Rw (setA (x_upd M 64 29 (x_wr (M 64 29 + 1))) 65 (rTurn ρ (rDraw (rLeave (rBook (rHeard (M 65)) (M 65 13) 1000 (rSe ρ (rHeard (M 65)) (M 65 13))) 3 (rSe ρ (rHeard (M 65)) (M 65 13)))) ((M 65 12).tmod 10))) nm' f' h' fs')) :
    xCV Y_X10_pass g (d + 6) [vR (some 64)] n P (Rw M nm f h fs) G := by
  obtain ⟨a8, a9, a11, a12, a14, a15, a16, a17⟩ := hA
  have e65 : ∀ (M' : xM) nm' f2 h2 fs', Rw M' nm' f2 h2 fs' 65 = M' 65 := fun _ _ _ _ _ => Rw_ne (by decide) (by decide) (by decide) (by decide)
  have fin : ∀ (M' : xM) (B nm f h : Int → Int) (fs : Int), M' 67 = M 67 → B 2 = M 65 2 → B 8 = M 65 8 → B 9 = M 65 9 → B 11 = M 65 11 → B 12 = M 65 12 → (∀ nm' f' h' fs', G (Rw (setA M' 65 (rTurn ρ (rDraw B) ((M 65 12).tmod 10))) nm' f' h' fs')) → xW Y_X10_pass g (d + 6) 0 0 15 [(0, vR (some 64))] [] (0, 0) (n, P, Rw (setA M' 65 B) nm f h fs) (kV n P G) := by
    intro M' B nm f h fs m67 b2 b8 b9 b11 b12 K
    have s : ∀ B : Int → Int, setA M' 65 B 65 = B := fun B => setA_at _ _ _
    refine b_X10_pass_15 hn hP (c_X10_drawn hn hP (by rw [e65, s, b12]; exact a12) (by decide) ?_)
    have eD : up B 12 ((B 12 * 331 + 223).tmod 30389) = rDraw B := by
      unfold rDraw
      rw [Int.tmod_eq_emod_of_nonneg (by omega)]
    rw [e65, s, Rw_u (fun z => absurd z.1 (by decide)) (by decide) (by decide) (by decide), x_upd_up2, eD, b12]
    have ht : 0 ≤ (M 65 12).tmod 10 ∧ (M 65 12).tmod 10 ≤ 9 := by rw [Int.tmod_eq_emod_of_nonneg a12.1]; omega
    have d2 : rDraw B 2 = B 2 := rfl
    have d8 : rDraw B 8 = B 8 := rfl
    have d9 : rDraw B 9 = B 9 := rfl
    have d11 : rDraw B 11 = B 11 := rfl
    refine c_X10_turnBy hn hP (ρ := ρ) (by rw [s, d2, b2]; exact rfR_of ((setA_ne (by decide)).trans m67) hR) ht (by rw [s, d11, b11]; omega) (by rw [s, d8, b8]; exact a8) (by rw [s, d9, b9]; exact a9) (fun nm' f' h' => ?_)
    rw [s, x_upd_up2, x_upd_up2, x_upd_up2, x_upd_up2]
    exact K nm' f' h' fs
  refine b_X10_pass hn hP ?_
  rw [e65]
  refine ⟨fun h => ?_, fun hne => ?_⟩
  · have := fin M (M 65) nm f ‹_› fs rfl rfl rfl rfl rfl rfl (Ha h)
    rw [setA_self] at this
    exact this
  · have hc : 0 ≤ M 65 13 ∧ M 65 13 < 8 := by omega
    obtain ⟨k0, k1, k2, k3⟩ := hK hc.1
    have hb13 : ∀ w s, 0 ≤ rBook (rHeard (M 65)) (M 65 13) w s 13 := fun w s => by
      rw [rBook_lo (by rw [rHeard_ne (by decide) (by decide)]; exact a17.1) (by decide) (by decide), rHeard_ne (by decide) (by decide)]
      exact hc.1
    have lo : ∀ w s w2 j, j < 13 → rLeave (rBook (rHeard (M 65)) (M 65 13) w s) w2 s j = M 65 j := fun w s w2 j hj => by
      rw [rLeave_lo (hb13 w s) (Or.inl hj), rBook_lo (by rw [rHeard_ne (by decide) (by decide)]; exact a17.1) (by omega) (by omega), rHeard_ne (by omega) (by omega)]
    have m67 : x_upd M 64 29 (x_wr (M 64 29 + 1)) 67 = M 67 := by funext j; exact x_upd_nb (by decide)
    refine c_X10_hear hn hP hR hc a14 a15 a16 a17 a11 a8 a9 k0 k1 k2 k3 (fun he => ?_) (fun he hf nm1 f1 h1 fs1 => ?_) (fun he hf nm1 f1 h1 fs1 => ?_)
    · exact fin M (rHeard (M 65)) nm f h fs rfl (rHeard_ne (by decide) (by decide)) (rHeard_ne (by decide) (by decide)) (rHeard_ne (by decide) (by decide)) (rHeard_ne (by decide) (by decide)) (rHeard_ne (by decide) (by decide)) (Hb hne he)
    · exact fin (x_upd M 64 29 (x_wr (M 64 29 + 1))) _ nm1 f1 h1 fs1 m67 (lo _ _ _ _ (by decide)) (lo _ _ _ _ (by decide)) (lo _ _ _ _ (by decide)) (lo _ _ _ _ (by decide)) (lo _ _ _ _ (by decide)) (Hc hne he hf)
    · exact fin (x_upd M 64 29 (x_wr (M 64 29 + 1))) _ nm1 f1 h1 fs1 m67 (lo _ _ _ _ (by decide)) (lo _ _ _ _ (by decide)) (lo _ _ _ _ (by decide)) (lo _ _ _ _ (by decide)) (lo _ _ _ _ (by decide)) (Hd hne he hf)
end Rpass2
