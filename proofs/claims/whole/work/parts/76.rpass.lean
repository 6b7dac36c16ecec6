/-! the reference: one hour -/
abbrev jf (ρ : Option xTx) (h q f fog k y s fa laws : Int) : Prop := fd ρ (cn h q f k y s) fa laws ∧ ¬ (f = 0 ∨ fog = 1)
abbrev rFd (ρ : Option xTx) (A : Int → Int) (c : Int) : Prop := jf ρ (A 11) (A 8) (A 9) (A 10) (A (20 + 7 * c + 0)) (A (20 + 7 * c + 1)) (A 14) (A (20 + 7 * c + 3)) (A 15)
def rSe (ρ : Option xTx) (A : Int → Int) (c : Int) : Int := sent ρ (up (cn (A 11) (A 8) (A 9) (A (20 + 7 * c + 0)) (A (20 + 7 * c + 1)) (A 14)) 7 (popc (A 15)))
def rBook (A : Int → Int) (c w s : Int) : Int → Int := up (up (up A (1182 + 2 * A 17) (A 11 * 8 + c)) (1182 + 2 * A 17 + 1) (w + s)) 17 (A 17 + 1)
def rHeard (A : Int → Int) : Int → Int := up (up A 14 (A 14 + 1)) 15 (x_or (A 15) (x_shl 1 (A 8)))
def rTurn (ρ : Option xTx) (A : Int → Int) (x : Int) : Int → Int := up (up (up (up A 11 (A 11 + 1)) 8 (tq ρ (A 11 + 1) (A 8) (A 9) x)) 9 (tf ρ (A 11 + 1) (A 8) (A 9) x)) 10 (tg ρ (A 11 + 1) (A 8) (A 9) x)
theorem x_upd_up (M : xM) (b : Nat) (i v : Int) : x_upd M b i v = setA M b (up (M b) i v) := setA_upd (fun _ => rfl)
theorem x_upd_up2 (M : xM) (b : Nat) (f : Int → Int) (i v : Int) : x_upd (setA M b f) b i v = setA M b (up f i v) := x_upd_setA _ _ _ _ _
theorem sent_r (ρ : Option xTx) {nm : Int → Int} (h5 : 0 ≤ nm 5 ∧ nm 5 ≤ 9) (h6 : 0 ≤ nm 6 ∧ nm 6 ≤ 100) : 0 ≤ sent ρ nm ∧ sent ρ nm ≤ 999 := by
  unfold sent
  cases lw ρ 7 nm 0 with
  | none =>
    rw [Option.map_none, Option.getD_none]
    have b1 : 0 ≤ nm 5 * nm 6 := Int.mul_nonneg h5.1 h6.1
    have b2 : nm 5 * nm 6 ≤ 9 * nm 6 := Int.mul_le_mul_of_nonneg_right h5.2 h6.1
    omega
  | some z =>
    rw [Option.map_some, Option.getD_some]
    exact cutI_r (by omega)
section Rpass
variable {g : Option Nat} {d n : Nat} {P : xP} {M : xM} {F : xM → Int → Prop} {G : xM → Prop}
theorem c_X10_hear (hn : 82 ≤ n) (hP : x_PP P) {ρ : Option xTx} (hR : rfR M (M 65 2) ρ) (hc : 0 ≤ M 65 13 ∧ M 65 13 < 8) (h14 : 0 ≤ M 65 14 ∧ M 65 14 < 20) (h15 : 0 ≤ M 65 15 ∧ M 65 15 < 16) (h16 : 0 ≤ M 65 16 ∧ M 65 16 ≤ 3) (h17 : 0 ≤ M 65 17 ∧ M 65 17 < 30) (h11 : 0 ≤ M 65 11 ∧ M 65 11 ≤ 9999) (h8 : 0 ≤ M 65 8 ∧ M 65 8 < 4) (h9 : 0 ≤ M 65 9 ∧ M 65 9 ≤ 9) (hk : 0 ≤ M 65 (20 + 7 * M 65 13 + 0) ∧ M 65 (20 + 7 * M 65 13 + 0) ≤ 9) (hy : 0 ≤ M 65 (20 + 7 * M 65 13 + 1) ∧ M 65 (20 + 7 * M 65 13 + 1) ≤ 9) (hnd : 0 ≤ M 65 (20 + 7 * M 65 13 + 2) ∧ M 65 (20 + 7 * M 65 13 + 2) ≤ 9) (hfa : 0 ≤ M 65 (20 + 7 * M 65 13 + 3) ∧ M 65 (20 + 7 * M 65 13 + 3) < 256)
    {nm f h : Int → Int} {fs : Int}
    (Hn : M 65 14 + 1 ≠ M 65 (20 + 7 * M 65 13 + 2) + M 65 16 → G (Rw (setA M 65 (rHeard (M 65))) nm f h fs))
    (H0 : M 65 14 + 1 = M 65 (20 + 7 * M 65 13 + 2) + M 65 16 → ¬ rFd ρ (rHeard (M 65)) (M 65 13) → ∀ nm' f' h' fs', G (Rw (setA (x_upd M 64 29 (x_wr (M 64 29 + 1))) 65 (rLeave (rBook (rHeard (M 65)) (M 65 13) 0 0) 2 0)) nm' f' h' fs'))
    (H1 : M 65 14 + 1 = M 65 (20 + 7 * M 65 13 + 2) + M 65 16 → rFd ρ (rHeard (M 65)) (M 65 13) → ∀ nm' f' h' fs', G (Rw (setA (x_upd M 64 29 (x_wr (M 64 29 + 1))) 65 (rLeave (rBook (rHeard (M 65)) (M 65 13) 1000 (rSe ρ (rHeard (M 65)) (M 65 13))) 3 (rSe ρ (rHeard (M 65)) (M 65 13)))) nm' f' h' fs')) :
    xCV Y_X10_hear g (d + 5) [vR (some 64)] n P (Rw M nm f h fs) G := by
  have e65 : ∀ (M' : xM) nm' f2 h2 fs', Rw M' nm' f2 h2 fs' 65 = M' 65 := fun _ _ _ _ _ => Rw_ne (by decide) (by decide) (by decide) (by decide)
  have eu : ∀ (M' : xM) nm' f2 h2 fs' i v, x_upd (Rw M' nm' f2 h2 fs') 65 i v = Rw (x_upd M' 65 i v) nm' f2 h2 fs' := fun _ _ _ _ _ _ _ => Rw_u (fun z => absurd z.1 (by decide)) (by decide) (by decide) (by decide)
  have eu29 : ∀ (M' : xM) nm' f2 h2 fs' v, x_upd (Rw M' nm' f2 h2 fs') 64 29 v = Rw (x_upd M' 64 29 v) nm' f2 h2 fs' := fun _ _ _ _ _ _ => Rw_u (fun z => absurd z.2 (by decide)) (by decide) (by decide) (by decide)
  refine b_X10_hear hn hP ⟨by rw [e65]; unfold inR; omega, ?_⟩
  rw [e65, eu, eu, x_upd_up M 65 14, x_upd_up2, show up (up (M 65) 14 (M 65 14 + 1)) 15 (x_or (M 65 15) (x_shl 1 (M 65 8))) = rHeard (M 65) from rfl]
  generalize hc0 : M 65 13 = c at *
  have r14 : rHeard (M 65) 14 = M 65 14 + 1 := rfl
  have r15 : rHeard (M 65) 15 = x_or (M 65 15) (x_shl 1 (M 65 8)) := rfl
  have r15b := laws_r h15 h8
  rw [← r15] at r15b
  have rj : ∀ j, j ≠ 14 → j ≠ 15 → rHeard (M 65) j = M 65 j := fun j j1 j2 => by
    unfold rHeard
    rw [up_ne j2, up_ne j1]
  generalize hA : rHeard (M 65) = A at *
  have r2 := rj 2 (by decide) (by decide)
  have r8 := rj 8 (by decide) (by decide)
  have r9 := rj 9 (by decide) (by decide)
  have r11 := rj 11 (by decide) (by decide)
  have r13 := rj 13 (by decide) (by decide)
  have r16 := rj 16 (by decide) (by decide)
  have r17 := rj 17 (by decide) (by decide)
  have rk0 := rj (20 + 7 * c + 0) (by omega) (by omega)
  have rk1 := rj (20 + 7 * c + 1) (by omega) (by omega)
  have rk2 := rj (20 + 7 * c + 2) (by omega) (by omega)
  have rk3 := rj (20 + 7 * c + 3) (by omega) (by omega)
  have sA : setA M 65 A 65 = A := setA_at _ _ _
  have hR1 : rfR (setA M 65 A) (setA M 65 A 65 2) ρ := by rw [sA, r2]; exact rfR_of (setA_ne (by decide)) hR
  refine c_X10_get hn hP hc (by omega) ?_
  rw [e65, sA, rk2, r16]
  refine ⟨by unfold inR; omega, fun he => ?_, fun he => Hn he⟩
  rw [r14]
  -- the entry and the leave, once found and sentence stand
  have fin : ∀ (z s w : Int) (nm' f' h' : Int → Int) (fs' : Int), (z = 0 ∨ z = 1) → (0 ≤ s ∧ s ≤ 999) → (∀ nm' f' h' fs', G (Rw (setA (x_upd M 64 29 (x_wr (M 64 29 + 1))) 65 (rLeave (rBook A c (if z = 0 then 0 else 1000) s) (if z = 0 then 2 else 3) s)) nm' f' h' fs')) → xW Y_X10_hear g (d + 5) 0 0 110 [(0, vR (some 64)), (1, vI c), (2, vI z)] [vI s] (0, 0) (n, P, Rw (setA M 65 A) nm' f' h' fs') (kV n P G) := by
    intro z s w nm' f' h' fs' hz hs K
    have t17 : (A 17).tmod 1230 = A 17 := by
      rw [Int.tmod_eq_emod_of_nonneg (by omega)]
      omega
    have next : ∀ w' : Int, w' = (if z = 0 then 0 else 1000) → xW Y_X10_hear g (d + 5) 0 0 168 [(0, vR (some 64)), (2, vI z), (3, vI s)] [vI w', vI (1182 + 2 * A 17 + 1), vR (some 65)] (0, 0) (n, P, Rw (setA M 65 (up A (1182 + 2 * A 17) (A 11 * 8 + c))) nm' f' h' fs') (kV n P G) := by
      intro w' hw
      have hw2 : w' = 0 ∨ w' = 1000 := by
        rcases hz with rfl | rfl
        · exact Or.inl hw
        · exact Or.inr hw
      have s65 : ∀ B : Int → Int, setA M 65 B 65 = B := fun B => setA_at _ _ _
      have b17 : up (up A (1182 + 2 * A 17) (A 11 * 8 + c)) (1182 + 2 * A 17 + 1) (w' + s) 17 = A 17 := by rw [up_ne (by omega), up_ne (by omega)]
      have s64 : ∀ B : Int → Int, setA M 65 B 64 29 = M 64 29 := fun B => by rw [setA_ne (by decide)]
      have leave : ∀ w2, w2 = (if z = 0 then 2 else 3) → xW Y_X10_hear g (d + 5) 0 0 202 [(3, vI s)] [vI w2, vR (some 64)] (0, 0) (n, P, Rw (x_upd (setA M 65 (rBook A c w' s)) 64 29 (x_wr (M 64 29 + 1))) nm' f' h' fs') (kV n P G) := by
        intro w2 hw2'
        have cell : x_upd (setA M 65 (rBook A c w' s)) 64 29 (x_wr (M 64 29 + 1)) = setA (x_upd M 64 29 (x_wr (M 64 29 + 1))) 65 (rBook A c w' s) := x_upd_set_ne (by decide)
        rw [cell]
        have a65 : Rw (setA (x_upd M 64 29 (x_wr (M 64 29 + 1))) 65 (rBook A c w' s)) nm' f' h' fs' 65 = rBook A c w' s := by rw [e65, setA_at]
        have a13 : rBook A c w' s 13 = c := by unfold rBook; rw [up_ne (by omega), up_ne (by omega), up_ne (by omega), r13, hc0]
        refine b_X10_hear_202 hn hP (c_X10_leave hn hP (by rw [a65, a13]; exact hc) ?_)
        rw [a65]
        have cell2 : ∀ (M' : xM) B, setA (Rw M' nm' f' h' fs') 65 B = Rw (setA M' 65 B) nm' f' h' fs' := by
          intro M' B
          unfold Rw
          rw [x_upd_set_ne (show (64 : Nat) ≠ 65 by decide), setA_comm (b := 73) (c := 65) (by decide), setA_comm (b := 72) (c := 65) (by decide), setA_comm (b := 71) (c := 65) (by decide)]
        rw [cell2, setA_setA, hw2', hw]
        exact K _ _ _ _
      refine w_X10_hear_168 hn hP ⟨by unfold inR; omega, by omega, ?_, ?_⟩
      · rw [eu, e65, x_upd_up2, s65, b17]; unfold inR; omega
      · rw [Rw_64 (by decide), s64, eu, e65, x_upd_up2, s65, b17, eu, x_upd_up2, eu29]
        exact ⟨fun hz0 => leave 2 (by rw [if_pos hz0]), fun hz0 => leave 3 (by rw [if_neg hz0])⟩
    refine b_X10_hear_110 hn hP ?_
    rw [e65, sA, t17, eu, x_upd_up2]
    exact ⟨by unfold inR; omega, by unfold inR; omega, by unfold inR; omega, by unfold inR; omega, by omega, by unfold inR; omega, fun hz0 => next 0 (by rw [if_pos hz0]), fun hz0 => next 1000 (by rw [if_neg hz0])⟩
  have okn : ∀ q, 0 ≤ q → q < 4 → okN q (cn (A 11) q (A 9) (A (20 + 7 * c + 0)) (A (20 + 7 * c + 1)) (M 65 14 + 1)) := fun q q0 q1 => okN_c q1 (by show -1000000 ≤ A 11 ∧ A 11 ≤ 1000000; omega) (by show -1000000 ≤ q ∧ q ≤ 1000000; omega) (by show -1000000 ≤ A 9 ∧ A 9 ≤ 1000000; omega) (by show -1000000 ≤ A (20 + 7 * c + 0) ∧ A (20 + 7 * c + 0) ≤ 1000000; omega) (by show -1000000 ≤ A (20 + 7 * c + 1) ∧ A (20 + 7 * c + 1) ≤ 1000000; omega) (by show -1000000 ≤ M 65 14 + 1 ∧ M 65 14 + 1 ≤ 1000000; omega)
  refine c_X10_isFound hn hP hR1 hc (by rw [sA]; omega) (by rw [sA]; exact okn) (fun nm1 f1 h1 fs1 => ?_)
  rw [sA]
  by_cases hf : rFd ρ A c
  · rw [bi_t (show fd ρ (cn (A 11) (A 8) (A 9) (A (20 + 7 * c + 0)) (A (20 + 7 * c + 1)) (M 65 14 + 1)) (A (20 + 7 * c + 3)) (A 15) ∧ ¬ (A 9 = 0 ∨ A 10 = 1) by have := hf; rw [rFd, jf, r14] at this; exact this)]
    refine ⟨fun h => absurd h (by decide), fun _ => ?_⟩
    rw [e65, sA, r14]
    have hp := popc_r (A 15)
    have hs : 0 ≤ rSe ρ A c ∧ rSe ρ A c ≤ 999 := sent_r ρ (by show 0 ≤ A (20 + 7 * c + 1) ∧ A (20 + 7 * c + 1) ≤ 9; omega) (by show 0 ≤ A 14 ∧ A 14 ≤ 100; omega)
    refine c_X10_sentenceOf hn hP hR1 hc (by rw [sA]; omega) (by omega) ?_ (fun nm2 f2 h2 => ?_)
    · rw [sA]
      exact okN_s (by show -1000000 ≤ A 11 ∧ A 11 ≤ 1000000; omega) (by show -1000000 ≤ A 8 ∧ A 8 ≤ 1000000; omega) (by show -1000000 ≤ A 9 ∧ A 9 ≤ 1000000; omega) (by show -1000000 ≤ A (20 + 7 * c + 0) ∧ A (20 + 7 * c + 0) ≤ 1000000; omega) (by show -1000000 ≤ A (20 + 7 * c + 1) ∧ A (20 + 7 * c + 1) ≤ 1000000; omega) (by show -1000000 ≤ M 65 14 + 1 ∧ M 65 14 + 1 ≤ 1000000; omega) (by show -1000000 ≤ popc (A 15) ∧ popc (A 15) ≤ 1000000; omega)
    · rw [sA, ← r14, show sent ρ (up (cn (A 11) (A 8) (A 9) (A (20 + 7 * c + 0)) (A (20 + 7 * c + 1)) (A 14)) 7 (popc (A 15))) = rSe ρ A c from rfl]
      exact fin 1 (rSe ρ A c) 0 nm2 f2 h2 fs1 (Or.inr rfl) hs (H1 he hf)
  · rw [bi_f (show ¬ (fd ρ (cn (A 11) (A 8) (A 9) (A (20 + 7 * c + 0)) (A (20 + 7 * c + 1)) (M 65 14 + 1)) (A (20 + 7 * c + 3)) (A 15) ∧ ¬ (A 9 = 0 ∨ A 10 = 1)) by have := hf; rw [rFd, jf, r14] at this; exact this)]
    exact ⟨fun _ => fin 0 0 0 nm1 f1 h1 fs1 (Or.inl rfl) (by omega) (H0 he hf), fun h => absurd rfl h⟩
end Rpass
