/-! the reference's law: sentence, wind, whether guilty -/
theorem rfR_65 {M : xM} {τ : Int} {ρ : Option xTx} {i v : Int} (H : rfR M τ ρ) : rfR (x_upd M 65 i v) τ ρ := rfR_of (by funext j; exact x_upd_nb (by decide)) H
section Rlaw3
variable {g : Option Nat} {d n : Nat} {P : xP} {M : xM} {F : xM → Int → Prop} {G : xM → Prop}
theorem c_X10_bits (hn : 82 ≤ n) {a : Int} (H : F M (popc a)) : xCI Y_X10_bits g d [vI a] n P M F := by
  unfold popc at H
  have b0 := x_and_1 (x_shr a 0)
  have b1 := x_and_1 (x_shr a 1)
  have b2 := x_and_1 (x_shr a 2)
  have b3 := x_and_1 (x_shr a 3)
  have b4 := x_and_1 (x_shr a 4)
  have b5 := x_and_1 (x_shr a 5)
  have b6 := x_and_1 (x_shr a 6)
  have b7 := x_and_1 (x_shr a 7)
  refine b_X10_bits hn (b_X10_bits_4 hn ⟨fun h => absurd h (by omega), fun _ => ⟨by unfold inR; omega, by unfold inR; omega, ?_⟩⟩)
  rw [show (0 : Int) + 1 = 1 from rfl]
  refine b_X10_bits_4 hn ⟨fun h => absurd h (by omega), fun _ => ⟨by unfold inR; omega, by unfold inR; omega, ?_⟩⟩
  rw [show (1 : Int) + 1 = 2 from rfl]
  refine b_X10_bits_4 hn ⟨fun h => absurd h (by omega), fun _ => ⟨by unfold inR; omega, by unfold inR; omega, ?_⟩⟩
  rw [show (2 : Int) + 1 = 3 from rfl]
  refine b_X10_bits_4 hn ⟨fun h => absurd h (by omega), fun _ => ⟨by unfold inR; omega, by unfold inR; omega, ?_⟩⟩
  rw [show (3 : Int) + 1 = 4 from rfl]
  refine b_X10_bits_4 hn ⟨fun h => absurd h (by omega), fun _ => ⟨by unfold inR; omega, by unfold inR; omega, ?_⟩⟩
  rw [show (4 : Int) + 1 = 5 from rfl]
  refine b_X10_bits_4 hn ⟨fun h => absurd h (by omega), fun _ => ⟨by unfold inR; omega, by unfold inR; omega, ?_⟩⟩
  rw [show (5 : Int) + 1 = 6 from rfl]
  refine b_X10_bits_4 hn ⟨fun h => absurd h (by omega), fun _ => ⟨by unfold inR; omega, by unfold inR; omega, ?_⟩⟩
  rw [show (6 : Int) + 1 = 7 from rfl]
  refine b_X10_bits_4 hn ⟨fun h => absurd h (by omega), fun _ => ⟨by unfold inR; omega, by unfold inR; omega, ?_⟩⟩
  rw [show (7 : Int) + 1 = 8 from rfl]
  refine b_X10_bits_4 hn ⟨fun _ => ?_, fun h => absurd (by omega) h⟩
  rwa [Int.zero_add]
theorem popc_r (a : Int) : 0 ≤ popc a ∧ popc a ≤ 8 := by
  unfold popc
  have b0 := x_and_1 (x_shr a 0)
  have b1 := x_and_1 (x_shr a 1)
  have b2 := x_and_1 (x_shr a 2)
  have b3 := x_and_1 (x_shr a 3)
  have b4 := x_and_1 (x_shr a 4)
  have b5 := x_and_1 (x_shr a 5)
  have b6 := x_and_1 (x_shr a 6)
  have b7 := x_and_1 (x_shr a 7)
  omega
theorem c_X10_sentenceOf (hn : 82 ≤ n) (hP : x_PP P) {c s laws : Int} {ρ : Option xTx} (hR : rfR M (M 65 2) ρ) (hc : 0 ≤ c ∧ c < 8) (h5 : 0 ≤ M 65 (20 + 7 * c + 1) ∧ M 65 (20 + 7 * c + 1) ≤ 9) (h6 : 0 ≤ s ∧ s ≤ 1000) {nm f h : Int → Int} {fs : Int} (hN : okN 7 (up (cn (M 65 11) (M 65 8) (M 65 9) (M 65 (20 + 7 * c + 0)) (M 65 (20 + 7 * c + 1)) s) 7 (popc laws)))
    (H : ∀ nm' f' h', F (Rw M nm' f' h' fs) (sent ρ (up (cn (M 65 11) (M 65 8) (M 65 9) (M 65 (20 + 7 * c + 0)) (M 65 (20 + 7 * c + 1)) s) 7 (popc laws)))) : xCI Y_X10_sentenceOf g (d + 4) [vR (some 64), vI c, vI s, vI laws] n P (Rw M nm f h fs) F := by
  have okr := rfR_ok hR
  have e65 : ∀ nm' f2 h2 fs', Rw M nm' f2 h2 fs' 65 = M 65 := fun _ _ _ _ => Rw_ne (by decide) (by decide) (by decide) (by decide)
  refine b_X10_sentenceOf hn hP (c_X10_nameCase hn hP hc (c_X10_bits hn ?_))
  rw [Rw_u71]
  refine c_X10_get hn hP hc (by omega) ?_
  rw [e65]
  have b1 : 0 ≤ M 65 (20 + 7 * c + 1) * s := Int.mul_nonneg h5.1 h6.1
  have b2 : M 65 (20 + 7 * c + 1) * s ≤ 9 * s := Int.mul_le_mul_of_nonneg_right h5.2 h6.1
  refine ⟨by unfold inR; omega, ?_⟩
  have okn : okN (3 + 4) (up (up (up (up (up (up (up nm 0 (M 65 11)) 1 (M 65 8)) 2 (M 65 9)) 4 (M 65 (20 + 7 * c + 0))) 5 (M 65 (20 + 7 * c + 1))) 6 s) 7 (popc laws)) := by
    intro v hv
    have := hN v hv
    rcases al_s hv with rfl | rfl | rfl | rfl | rfl | rfl | rfl <;> exact this
  refine c_X10_says hn hP hR (by omega) (by omega) okn (fun f2 h2 => ?_)
  have H := H (up (up (up (up (up (up (up nm 0 (M 65 11)) 1 (M 65 8)) 2 (M 65 9)) 4 (M 65 (20 + 7 * c + 0))) 5 (M 65 (20 + 7 * c + 1))) 6 s) 7 (popc laws)) f2 h2
  have eg : sent ρ (up (up (up (up (up (up (up nm 0 (M 65 11)) 1 (M 65 8)) 2 (M 65 9)) 4 (M 65 (20 + 7 * c + 0))) 5 (M 65 (20 + 7 * c + 1))) 6 s) 7 (popc laws)) = sent ρ (up (cn (M 65 11) (M 65 8) (M 65 9) (M 65 (20 + 7 * c + 0)) (M 65 (20 + 7 * c + 1)) s) 7 (popc laws)) := by apply sent_congr okr <;> rfl
  rw [← eg] at H
  unfold sent at H
  exact H
theorem c_X10_anew (hn : 82 ≤ n) (hP : x_PP P) (h : 0 ≤ M 65 12 ∧ M 65 12 < 30389) (H : G (x_upd M 65 12 (Int.tmod (M 65 12 * 331 + 223) 30389))) : xCV Y_X10_anew g d [vR (some 64)] n P M G :=
  b_X10_anew hn hP ⟨by unfold inR; omega, by unfold inR; omega, H⟩
theorem c_X10_drawn (hn : 82 ≤ n) (hP : x_PP P) (h : 0 ≤ M 65 12 ∧ M 65 12 < 30389) {a : Int} (ha : a ≠ 0) (H : F (x_upd M 65 12 (Int.tmod (M 65 12 * 331 + 223) 30389)) (Int.tmod (M 65 12) a)) : xCI Y_X10_drawn g (d + 1) [vR (some 64), vI a] n P M F :=
  b_X10_drawn hn hP ⟨ha, c_X10_anew hn hP h H⟩
theorem c_X10_isCalm (hn : 82 ≤ n) (hP : x_PP P) (H : F M (bi (M 65 9 = 0 ∨ M 65 10 = 1))) : xCI Y_X10_isCalm g d [vR (some 64)] n P M F := by
  refine b_X10_isCalm hn hP ⟨fun h => ?_, fun h => ⟨fun h2 => ?_, fun h2 => ?_⟩⟩
  · rwa [bi_t (Or.inl h)] at H
  · rwa [bi_f (fun z => by rcases z with z | z; exact h z; exact h2 z)] at H
  · rwa [bi_t (Or.inr h2)] at H
end Rlaw3
