/-! odds: the whole -/
theorem cmp0 {a : Int} : x_cmp a 0 = 0 ↔ a = 0 := by
  unfold x_cmp
  split
  · omega
  · split <;> omega
theorem cmp0_le {a : Int} : x_cmp a 0 ≤ 0 ↔ a ≤ 0 := by
  unfold x_cmp
  split
  · omega
  · split <;> omega
theorem cmp1_ge {a : Int} : 0 ≤ x_cmp a 1 ↔ 1 ≤ a := by
  unfold x_cmp
  split
  · omega
  · split <;> omega
/-- the reference's end of one draw -/
def gD (ρ : Option xTx) (A : Int → Int) : Nat → (Int → Int) → Int → Int → Int → Int
  | 0, w, hd, laws, _ => gJ ρ A w hd laws
  | l + 1, w, hd, laws, x => gD ρ A l (cTurn ρ w (x % 10)) hd (x_or laws (x_shl 1 (cTurn ρ w (x % 10) 0))) (x / 10)
def op2J (n : Nat) (P : xP) (Yc Yr : xY) (d : Nat) (as : List xV) (M : xM) : Prop := xCJ Yc none d (vR (some 0) :: as) n P M (fun M1 z1 => xCJ Yr none d (vR (some 64) :: as) n P M1 (fun M2 z2 => z2 = z1 ∧ Rel M2))
section Odds2
variable {g : Option Nat} {d n : Nat} {P : xP} {M : xM} {F : xM → Int → Prop} {G : xM → Prop}
theorem q_common (hn : 82 ≤ n) : ∀ (k a b : Nat), b ≤ k → (F M ((Nat.gcd a b : Nat) : Int)) → xW Y_X10_common g d 0 0 6 [(4, vJ (a : Int)), (6, vJ (b : Int))] [] (0, 0) (n, P, M) (kJ n P F) := by
  intro k
  induction k with
  | zero =>
    intro a b hb H
    have hb0 : b = 0 := by omega
    subst hb0
    rw [Nat.gcd_zero_right] at H
    exact b_X10_common_6 hn ⟨fun _ => H, fun z => absurd (cmp0.mpr rfl) z⟩
  | succ k ih =>
    intro a b hb H
    refine b_X10_common_6 hn ⟨fun z => ?_, fun z => ?_⟩
    · have : b = 0 := by have := cmp0.mp z; omega
      subst this
      rw [Nat.gcd_zero_right] at H
      exact H
    · have hb0 : (b : Int) ≠ 0 := fun q => z (cmp0.mpr q)
      refine ⟨hb0, ?_⟩
      rw [Int.tmod_eq_emod_of_nonneg (by omega), show (a : Int) % (b : Int) = ((a % b : Nat) : Int) from (Int.natCast_emod a b).symm]
      have hlt : a % b < b := Nat.mod_lt a (by omega)
      refine ih b (a % b) (by omega) ?_
      rw [Nat.gcd_comm b (a % b), ← Nat.gcd_rec b a, Nat.gcd_comm]
      exact H
theorem k_common (hn : 82 ≤ n) : ∀ (k a b x : Nat), b ≤ k → x + k ≤ 100 → (F M ((Nat.gcd a b : Nat) : Int)) → xW Y_X9_commonDivisor g d 0 0 9 [(4, vJ (a : Int)), (6, vJ (b : Int)), (8, vI (x : Int))] [] (0, 0) (n, P, M) (kJ n P F) := by
  intro k
  induction k with
  | zero =>
    intro a b x hb hx H
    have hb0 : b = 0 := by omega
    subst hb0
    rw [Nat.gcd_zero_right] at H
    exact b_X9_commonDivisor_9 hn ⟨fun _ => H, fun _ => ⟨fun _ => H, fun z => absurd (cmp0_le.mpr (Int.le_refl _)) z⟩⟩
  | succ k ih =>
    intro a b x hb hx H
    refine b_X9_commonDivisor_9 hn ⟨fun z => absurd z (by omega), fun _ => ⟨fun z => ?_, fun z => ?_⟩⟩
    · have : b = 0 := by have := cmp0_le.mp z; omega
      subst this
      rw [Nat.gcd_zero_right] at H
      exact H
    · have hb0 : ¬ (b : Int) ≤ 0 := fun q => z (cmp0_le.mpr q)
      refine ⟨by omega, by unfold inR; omega, ?_⟩
      rw [Int.tmod_eq_emod_of_nonneg (by omega), show (a : Int) % (b : Int) = ((a % b : Nat) : Int) from (Int.natCast_emod a b).symm, show (x : Int) + 1 = ((x + 1 : Nat) : Int) by omega]
      have hlt : a % b < b := Nat.mod_lt a (by omega)
      refine ih b (a % b) (x + 1) (by omega) (by omega) ?_
      rw [Nat.gcd_comm b (a % b), ← Nat.gcd_rec b a, Nat.gcd_comm]
      exact H
/-- the reference: one draw, l turns of the wind -/
theorem q_guiltyBy (hn : 82 ≤ n) (hP : x_PP P) {ρ : Option xTx} {x : Int} {l : Nat} (hρ : rho M (M 65 2) ρ) (h : oka (M 65)) (hc : 0 ≤ M 65 13 ∧ M 65 13 < M 65 0) (hl : l ≤ 2) (hx : 0 ≤ x ∧ x ≤ 1000)
    (H : ∀ M', offR M M' → M' 65 = M 65 → F M' (gD ρ (M 65) l (fun i => M 65 (8 + i)) (M 65 14 + (l : Int) + 1) (x_or (M 65 15) (x_shl 1 (M 65 8))) x)) : xCI Y_X10_isGuiltyBy g (d + 5) [vR (some 64), vI x, vI ((l : Int) + 1)] n P M F := by
  have okr := rho_okR hρ
  obtain ⟨K, hI⟩ := oka_inv h
  obtain ⟨h8, h9, h10, h11, h12, h14, h15, h16, h17⟩ := hI.2.1
  generalize hA : M 65 = A at *
  obtain ⟨c8, t0, t1, t2, t3⟩ := oka_told h hc
  have loop : ∀ (m : Nat) (N : xM) (w : Int → Int) (x laws : Int), m ≤ l → offR M N → N 65 = wB A w → (∀ i, 0 ≤ i → i < 5 → N 77 i = A (8 + i)) → wOk2 w → w 3 + m ≤ 15000 → (0 ≤ laws ∧ laws < 16) → (0 ≤ x ∧ x ≤ 1000) → (∀ M', offR M M' → M' 65 = A → F M' (gD ρ A m w (A 14 + (l : Int) + 1) laws x)) → xW Y_X10_isGuiltyBy g (d + 5) 0 0 28 [(0, vR (some 64)), (2, vI ((l : Int) + 1)), (3, vI x), (4, vI laws), (5, vI ((l : Int) + 1 - m))] [] (0, 0) (n, P, N) (kI n P F) := by
    intro m
    induction m with
    | zero =>
      intro N w x laws hm oN e65 e77 hw hw3 hl hx H
      have b14 : N 65 14 = A 14 := by rw [e65]; exact wB_out (by omega)
      have b13 : N 65 13 = A 13 := by rw [e65]; exact wB_out (by omega)
      have b2 : N 65 2 = A 2 := by rw [e65]; exact wB_out (by omega)
      have v8 : N 65 8 = w 0 := by rw [e65]; exact wB_8 A w
      have v9 : N 65 9 = w 1 := by rw [e65]; exact wB_9 A w
      have v10 : N 65 10 = w 2 := by rw [e65]; exact wB_10 A w
      have v11 : N 65 11 = w 3 := by rw [e65]; exact wB_11 A w
      have vc : ∀ j, 0 ≤ j → j < 4 → N 65 (20 + 7 * A 13 + j) = A (20 + 7 * A 13 + j) := fun j j0 j1 => by rw [e65]; exact wB_out (by omega)
      refine b_X10_isGuiltyBy_28 hn hP ⟨fun _ => ?_, fun z => absurd z (by omega)⟩
      rw [b13, b14]
      refine ⟨by unfold inR; omega, q_isFound hn hP (ρ := ρ) (by rw [b2]; exact rho_rf (rho_R oN hρ)) c8 (by rw [vc 3 (by omega) (by omega)]; exact t3) (fun q q0 q1 => ?_) (fun N2 o2 => ?_)⟩
      · rw [v11, v9, vc 0 (by omega) (by omega), vc 1 (by omega) (by omega)]
        exact okN_c2 (by omega) hw.2.1 (by omega) (by omega) (by omega) q0 q1
      · rw [v11, v8, v9, v10, vc 0 (by omega) (by omega), vc 1 (by omega) (by omega), vc 3 (by omega) (by omega)]
        refine q_putBack hn hP ((o2.1 65 (by decide) (by decide)).trans e65) (fun i i0 i1 => by rw [o2.1 77 (by decide) (by decide)]; exact e77 i i0 i1) ⟨bi_or _, ?_⟩
        have := H _ (offR_set (offR_trans oN (offL_R o2)) (by omega)) (setA_at _ _ _)
        rw [show A 14 + ((l : Int) + 1) = A 14 + (l : Int) + 1 by omega]
        exact this
    | succ m ih =>
      intro N w x laws hm oN e65 e77 hw hw3 hl hx H
      have b2 : N 65 2 = A 2 := by rw [e65]; exact wB_out (by omega)
      have v8 : N 65 8 = w 0 := by rw [e65]; exact wB_8 A w
      have v9 : N 65 9 = w 1 := by rw [e65]; exact wB_9 A w
      have v11 : N 65 11 = w 3 := by rw [e65]; exact wB_11 A w
      have hx10 : 0 ≤ x % 10 ∧ x % 10 ≤ 9 := by omega
      refine b_X10_isGuiltyBy_28 hn hP ⟨fun z => absurd z (by omega), fun _ => ?_⟩
      rw [Int.tmod_eq_emod_of_nonneg hx.1, Int.tdiv_eq_ediv_of_nonneg hx.1]
      refine q_turnBy hn hP (ρ := ρ) (by rw [b2]; exact rho_rf (rho_R oN hρ)) hx10 (by rw [v11]; omega) (by rw [v8]; exact hw.1) (by rw [v9]; exact hw.2.1) (fun N2 o2 => ⟨by unfold inR; omega, by unfold inR; omega, ?_⟩)
      have eT : rTurn ρ (N 65) (x % 10) = wB A (cTurn ρ w (x % 10)) := by
        rw [e65]
        unfold rTurn
        rw [wB_8, wB_9, wB_11]
        funext j
        by_cases h8 : j = 8
        · subst h8; rw [up_ne (by decide), up_ne (by decide), up_at, wB_8, cT_0]
        by_cases h9 : j = 9
        · subst h9; rw [up_ne (by decide), up_at, wB_9, cT_1]
        by_cases h10 : j = 10
        · subst h10; rw [up_at, wB_10, cT_2]
        by_cases h11 : j = 11
        · subst h11; rw [up_ne (by decide), up_ne (by decide), up_ne (by decide), up_at, wB_11, cT_3]
        rw [up_ne h10, up_ne h9, up_ne h8, up_ne h11]
        by_cases h12 : j = 12
        · subst h12; rw [wB_12, wB_12, cT_4]
        · rw [wB_out (by omega), wB_out (by omega)]
      rw [eT] at o2
      have n65 : N2 65 = wB A (cTurn ρ w (x % 10)) := by rw [o2.1 65 (by decide) (by decide), setA_at]
      have n8 : N2 65 8 = cTurn ρ w (x % 10) 0 := by rw [n65, wB_8]
      rw [n8]
      have ok2 := cT_ok ρ hw hx10 (by omega)
      have := ih N2 (cTurn ρ w (x % 10)) (x / 10) (x_or laws (x_shl 1 (cTurn ρ w (x % 10) 0))) (by omega) (offR_trans (offR_set oN (by omega)) (offL_R o2)) n65 (fun i i0 i1 => by rw [o2.1 77 (by decide) (by decide), setA_ne (by decide)]; exact e77 i i0 i1) ok2 (by rw [cT_3]; omega) (laws_r hl ok2.1) (by omega) (fun M' o' e' => H M' o' e')
      rw [show (l : Int) + 1 - ((m + 1 : Nat) : Int) + 1 = (l : Int) + 1 - (m : Int) by omega]
      exact this
  refine b_X10_isGuiltyBy hn hP (c_X10_begin hn hP ?_)
  rw [hA]
  have b65 : x_blk M 77 0 5 (fun j => A (8 + j)) 65 = A := by funext j; rw [x_blk_out (fun z => absurd z.1 (by decide)), hA]
  rw [b65]
  have := loop l (x_blk M 77 0 5 (fun j => A (8 + j))) (fun i => A (8 + i)) x (x_or (A 15) (x_shl 1 (A 8))) (Nat.le_refl _) (offR_blk (offR_refl M) (by omega)) (by rw [b65]; exact (wB_0 A).symm) (fun i i0 i1 => x_blk_in i0 (by omega)) ⟨by show 0 ≤ A 8 ∧ A 8 < 4; exact h8, by show 0 ≤ A 9 ∧ A 9 ≤ 9; exact h9, by show 0 ≤ A 11 ∧ A 11 ≤ 15000; omega⟩ (by show A 11 + (l : Int) ≤ 15000; omega) (laws_r h15 h8) hx H
  rw [show (l : Int) + 1 - (l : Int) = 1 by omega] at this
  exact this
/-- all draws together -/
theorem ways_eq (ρ : Option xTx) (A w : Int → Int) (hd laws : Int) (l : Nat) (hl : l ≤ 2) : sN (fun x => gD ρ A l w (hd + (l : Int) + 1) (x_or laws (x_shl 1 (w 0))) (x : Int)) (if l = 0 then 1 else if l = 1 then 10 else 100) = wy ρ A l w hd laws := by
  have : l = 0 ∨ l = 1 ∨ l = 2 := by omega
  rcases this with rfl | rfl | rfl
  · show 0 + gJ ρ A w (hd + 0 + 1) _ = gJ ρ A w (hd + 1) _
    rw [Int.zero_add, Int.add_zero]
  · show sN _ 10 = sN _ 10
    refine sN_congr 10 (fun x hx => ?_)
    show gJ ρ A (cTurn ρ w ((x : Int) % 10)) (hd + 1 + 1) _ = gJ ρ A (cTurn ρ w (x : Int)) (hd + 1 + 1) _
    rw [show (x : Int) % 10 = (x : Int) by omega]
  · show sN _ 100 = sN _ 10
    rw [show (100 : Nat) = 10 * 10 from rfl, sN_ten]
    let G : Nat → Nat → Int := fun x y => gJ ρ A (cTurn ρ (cTurn ρ w (x : Int)) (y : Int)) (hd + 1 + 1 + 1) (x_or (x_or (x_or laws (x_shl 1 (w 0))) (x_shl 1 (cTurn ρ w (x : Int) 0))) (x_shl 1 (cTurn ρ (cTurn ρ w (x : Int)) (y : Int) 0)))
    have e1 : sN (fun y => sN (fun x => (fun x : Nat => gD ρ A 2 w (hd + ((2 : Nat) : Int) + 1) (x_or laws (x_shl 1 (w 0))) (x : Int)) (10 * y + x)) 10) 10 = sN (fun y => sN (fun x => G x y) 10) 10 := by
      refine sN_congr 10 (fun y hy => sN_congr 10 (fun x hx => ?_))
      show gJ ρ A (cTurn ρ (cTurn ρ w (((10 * y + x : Nat) : Int) % 10)) (((10 * y + x : Nat) : Int) / 10 % 10)) (hd + 2 + 1) (x_or (x_or (x_or laws (x_shl 1 (w 0))) (x_shl 1 (cTurn ρ w (((10 * y + x : Nat) : Int) % 10) 0))) (x_shl 1 (cTurn ρ (cTurn ρ w (((10 * y + x : Nat) : Int) % 10)) (((10 * y + x : Nat) : Int) / 10 % 10) 0))) = G x y
      rw [show (((10 * y + x : Nat) : Int) % 10) = (x : Int) by omega, show ((10 * y + x : Nat) : Int) / 10 % 10 = (y : Int) by omega, show hd + 2 + 1 = hd + 1 + 1 + 1 by omega]
    rw [e1, sN_swap]
    rfl
end Odds2
