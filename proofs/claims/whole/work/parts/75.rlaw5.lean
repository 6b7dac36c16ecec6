/-! the reference: found guilty, by the laws that ruled -/
theorem up_cn (h q f k y s a : Int) : up (cn h q f k y s) 1 a = cn h a f k y s := by
  funext v
  unfold up cn
  by_cases h1 : v = 1
  · subst h1
    rfl
  · rw [if_neg h1]
    by_cases h0 : v = 0
    · rw [if_pos h0, if_pos h0]
    · rw [if_neg h0, if_neg h0, if_neg h1, if_neg h1]
theorem laws_f : ∀ (a : Fin 16) (q : Fin 4), 0 ≤ x_or (a.val : Int) (x_shl 1 (q.val : Int)) ∧ x_or (a.val : Int) (x_shl 1 (q.val : Int)) < 16 := by decide +kernel
theorem laws_r {a q : Int} (ha : 0 ≤ a ∧ a < 16) (hq : 0 ≤ q ∧ q < 4) : 0 ≤ x_or a (x_shl 1 q) ∧ x_or a (x_shl 1 q) < 16 := by
  have := laws_f ⟨a.toNat, by omega⟩ ⟨q.toNat, by omega⟩
  rwa [show (((⟨a.toNat, by omega⟩ : Fin 16).val : Nat) : Int) = a by show (a.toNat : Int) = a; omega, show (((⟨q.toNat, by omega⟩ : Fin 4).val : Nat) : Int) = q by show (q.toNat : Int) = q; omega] at this
section Rlaw5
variable {g : Option Nat} {d n : Nat} {P : xP} {M : xM} {F : xM → Int → Prop} {G : xM → Prop}
set_option maxHeartbeats 1000000 in
theorem c_X10_isFound (hn : 82 ≤ n) (hP : x_PP P) {c s laws : Int} {ρ : Option xTx} (hR : rfR M (M 65 2) ρ) (hc : 0 ≤ c ∧ c < 8) (hfa : 0 ≤ M 65 (20 + 7 * c + 3) ∧ M 65 (20 + 7 * c + 3) < 256) {nm f h : Int → Int} {fs : Int} (hN : ∀ q, 0 ≤ q → q < 4 → okN q (cn (M 65 11) q (M 65 9) (M 65 (20 + 7 * c + 0)) (M 65 (20 + 7 * c + 1)) s))
    (H : ∀ nm' f' h' fs', F (Rw M nm' f' h' fs') (bi (fd ρ (cn (M 65 11) (M 65 8) (M 65 9) (M 65 (20 + 7 * c + 0)) (M 65 (20 + 7 * c + 1)) s) (M 65 (20 + 7 * c + 3)) laws ∧ ¬ (M 65 9 = 0 ∨ M 65 10 = 1)))) : xCI Y_X10_isFound g (d + 4) [vR (some 64), vI c, vI s, vI laws] n P (Rw M nm f h fs) F := by
  have okr := rfR_ok hR
  have e65 : ∀ nm' f2 h2 fs', Rw M nm' f2 h2 fs' 65 = M 65 := fun _ _ _ _ => Rw_ne (by decide) (by decide) (by decide) (by decide)
  refine b_X10_isFound hn hP ?_
  generalize hnm : cn (M 65 11) (M 65 8) (M 65 9) (M 65 (20 + 7 * c + 0)) (M 65 (20 + 7 * c + 1)) s = nc at H
  have eq1 : ∀ q, cn (M 65 11) q (M 65 9) (M 65 (20 + 7 * c + 0)) (M 65 (20 + 7 * c + 1)) s = up nc 1 q := fun q => by rw [← hnm, up_cn]
  have loop : ∀ (m : Nat) (q a : Int) (nm f h : Int → Int) (fs : Int), 0 ≤ q → q + m = 4 → (a = 0 → ∀ j, 0 ≤ j → j < q → ¬ hq ρ nc (M 65 (20 + 7 * c + 3)) laws j) → (¬ a = 0 → fd ρ nc (M 65 (20 + 7 * c + 3)) laws) → xW Y_X10_isFound g (d + 4) 0 0 6 [(0, vR (some 64)), (1, vI c), (2, vI s), (3, vI laws), (4, vI a), (5, vI q)] [] (0, 0) (n, P, Rw M nm f h fs) (kI n P F) := by
    intro m
    induction m with
    | zero =>
      intro q a nm f h fs q0 q4 ha0 ha1
      refine b_X10_isFound_6 hn hP ⟨fun _ => ⟨fun ha => ?_, fun ha => c_X10_isCalm hn hP ?_⟩, fun h => absurd h (by omega)⟩
      · have H := H nm f h fs
        rwa [bi_f (fun z => fd_n (fun j j1 j2 => ha0 ha j j1 (by omega)) z.1)] at H
      · have H := H nm f h fs
        rw [e65]
        refine ⟨fun hz => ?_, fun hz => ?_⟩
        · rwa [bi_f (fun z => z.2 (bi_n0.mp hz))] at H
        · rwa [bi_t ⟨ha1 ha, bi_0.mp hz⟩] at H
    | succ m ih =>
      intro q a nm f h fs q0 q4 ha0 ha1
      refine b_X10_isFound_6 hn hP ⟨fun h => absurd h (by omega), fun _ => c_X10_has hn ⟨fun hb => ?_, fun hb => ?_⟩⟩
      · refine b_X10_isFound_47 hn hP ⟨by unfold inR; omega, ih (q + 1) a nm f h fs (by omega) (by omega) (fun ha j j1 j2 z => ?_) ha1⟩
        by_cases hj : j = q
        · subst hj
          exact absurd (hb.symm.trans z.1) (by decide)
        · exact ha0 ha j j1 (by omega) z
      · have hb1 : x_and (x_shr laws q) 1 = 1 := by
          rcases x_and_1 (x_shr laws q) with e | e
          · exact absurd e hb
          · exact e
        refine c_X10_get hn hP hc (by omega) ?_
        rw [e65]
        refine c_X10_isGuilty hn hP hR (by omega) hc hfa (hN q q0 (by omega)) (fun nm2 f2 h2 fs2 => ?_)
        have okq := hN q q0 (by omega)
        rw [eq1] at okq ⊢
        rcases gui_r okr (by omega) okq (M 65 (20 + 7 * c + 3)) with e | e
        · rw [e]
          refine ⟨fun _ => b_X10_isFound_47 hn hP ⟨by unfold inR; omega, ih (q + 1) a nm2 f2 h2 fs2 (by omega) (by omega) (fun ha j j1 j2 z => ?_) ha1⟩, fun h => absurd rfl h⟩
          by_cases hj : j = q
          · subst hj
            exact absurd (e.symm.trans z.2) (by decide)
          · exact ha0 ha j j1 (by omega) z
        · rw [e]
          refine ⟨fun h => absurd h (by decide), fun _ => b_X10_isFound_47 hn hP ⟨by unfold inR; omega, ih (q + 1) 1 nm2 f2 h2 fs2 (by omega) (by omega) (fun h => absurd h (by decide)) (fun _ => fd_y ⟨q0, by omega⟩ ⟨hb1, e⟩)⟩⟩
  exact loop 4 0 0 nm f h fs (by omega) (by omega) (fun _ j j1 j2 => absurd j2 (by omega)) (fun h => absurd rfl h)
end Rlaw5
