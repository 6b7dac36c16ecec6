/-! odds: class and reference -/
def oL (l : Nat) : Nat := if l = 0 then 1 else if l = 1 then 10 else 100
theorem oL_r (l : Nat) : 1 ≤ oL l ∧ oL l ≤ 100 := by
  unfold oL
  split
  · omega
  · split <;> omega
def odA (y : Int) (u a : Nat) : Int := if y = 0 then Int.tdiv (u : Int) ((Nat.gcd u a : Nat) : Int) else Int.tdiv (a : Int) ((Nat.gcd u a : Nat) : Int)
theorem tdv {a b : Nat} (hb : 1 ≤ b) : 0 ≤ Int.tdiv (a : Int) (b : Int) ∧ Int.tdiv (a : Int) (b : Int) ≤ (a : Int) := by
  rw [Int.tdiv_eq_ediv_of_nonneg (by omega)]
  exact ⟨Int.ediv_nonneg (by omega) (by omega), Int.ediv_le_self _ (by omega)⟩
theorem gcd_pos (u : Nat) {a : Nat} (h : 1 ≤ a) : 1 ≤ Nat.gcd u a := Nat.gcd_pos_of_pos_right u h
section Odds3
variable {g : Option Nat} {d n : Nat} {P : xP} {M : xM} {F : xM → Int → Prop} {G : xM → Prop}
theorem op_qJ {z : Int} {Yr : xY} {as : List xV} (h : Rel M) {M1 : xM} (o1 : offC M M1) (e1 : ∀ c, 1 ≤ c → c < 12 → M1 c = M c) (H : ∀ F : xM → Int → Prop, (∀ M2, offR M1 M2 → M2 65 = M1 65 → F M2 z) → xCJ Yr none d as n P M1 F) : xCJ Yr none d as n P M1 (fun M2 z2 => z2 = z ∧ Rel M2) :=
  H _ (fun M2 o2 e2 => ⟨rfl, Rel_same h o1 e1 o2 e2⟩)
abbrev ods (A : Int → Int) : Int := A (20 + 7 * A 13 + 2) + A 16 - A 14
theorem q_odds (hn : 82 ≤ n) (hP : x_PP P) {ρ : Option xTx} {y : Int} (hρ : rho M (M 65 2) ρ) (h : oka (M 65))
    (H0 : ¬ (M 65 13 ≠ -1 ∧ ods (M 65) ≤ 3) → F M (-1))
    (H1 : ∀ l : Nat, l ≤ 2 → M 65 13 ≠ -1 → ods (M 65) = (l : Int) + 1 → ∀ M', offR M M' → M' 65 = M 65 → F M' (odA y (wy ρ (M 65) l (fun i => M 65 (8 + i)) (M 65 14) (M 65 15)).toNat (oL l))) : xCJ Y_X10_odds g (d + 6) [vR (some 64), vI y] n P M F := by
  obtain ⟨K, hI⟩ := oka_inv h
  obtain ⟨h8, h9, h10, h11, h12, h14, h15, h16, h17⟩ := hI.2.1
  have hct := hI.2.2.2.2.1
  refine b_X10_odds hn hP ⟨fun hz => ?_, fun hz => H0 (fun z => z.1 hz)⟩
  rcases hct with q | ⟨q1, q2, q3⟩
  · exact absurd q.1 hz
  obtain ⟨c8, t0, t1, t2, t3⟩ := oka_told h q1
  have k2 : M 65 (20 + 7 * M 65 13 + 2) = K (4 * M 65 13 + 2) := (hI.2.2.2.1 (M 65 13) q1.1 q1.2).2 2 (by omega) (by omega)
  refine c_X10_get hn hP c8 (by omega) ⟨by unfold inR; omega, by unfold inR; omega, fun h3 => ?_, fun h3 => H0 (fun z => h3 z.2)⟩
  obtain ⟨l, hl⟩ : ∃ l : Nat, ods (M 65) = (l : Int) + 1 := ⟨(ods (M 65) - 1).toNat, by show _ = _; unfold ods; omega⟩
  have l2 : l ≤ 2 := by unfold ods at hl; omega
  have HH := H1 l l2 hz hl
  have main : xW Y_X10_odds g (d + 6) 0 0 74 [(0, vR (some 64)), (1, vI y), (2, vI ((l : Int) + 1))] [vI (oL l : Int)] (0, 0) (n, P, M) (kJ n P F) := by
    refine b_X10_odds_74 hn hP ?_
    let f : Nat → Int := fun x => gD ρ (M 65) l (fun i => M 65 (8 + i)) (M 65 14 + (l : Int) + 1) (x_or (M 65 15) (x_shl 1 (M 65 8))) (x : Int)
    have fe : sN f (oL l) = wy ρ (M 65) l (fun i => M 65 (8 + i)) (M 65 14) (M 65 15) := ways_eq ρ (M 65) (fun i => M 65 (8 + i)) (M 65 14) (M 65 15) l l2
    have gr : ∀ (m : Nat) (w : Int → Int) (hd laws x : Int), 0 ≤ gD ρ (M 65) m w hd laws x ∧ gD ρ (M 65) m w hd laws x ≤ 1 := by
      intro m
      induction m with
      | zero => intro w hd laws x; exact gJ_r _ _ _ _ _
      | succ m ih => intro w hd laws x; exact ih _ _ _ _
    have fr : ∀ x, 0 ≤ f x ∧ f x ≤ 1 := fun x => gr _ _ _ _ _
    have ar := oL_r l
    have loop : ∀ (m x : Nat), x + m = oL l → ∀ N, offR M N → N 65 = M 65 → xW Y_X10_odds g (d + 6) 0 0 81 [(0, vR (some 64)), (1, vI y), (2, vI ((l : Int) + 1)), (3, vI (oL l : Int)), (4, vI (sN f x)), (5, vI (x : Int))] [] (0, 0) (n, P, N) (kJ n P F) := by
      intro m
      induction m with
      | zero =>
        intro x hx N oN eN
        have x0 : x = oL l := by omega
        subst x0
        have ur := sN_r (b := 1) (by decide) fr (oL l)
        have hF := HH N oN eN
        rw [← fe] at hF
        generalize hU : sN f (oL l) = U at *
        obtain ⟨u, rfl⟩ : ∃ u : Nat, U = (u : Int) := ⟨U.toNat, by omega⟩
        rw [Int.toNat_natCast] at hF
        have gp := gcd_pos u ar.1
        have d1 := tdv (a := u) gp
        have d2 := tdv (a := oL l) gp
        unfold odA at hF
        have fin : ∀ s0 : Int, s0 = (if y = 0 then (u : Int) else (oL l : Int)) → xW Y_X10_odds g (d + 6) 0 0 123 [(3, vI (oL l : Int)), (4, vI (u : Int))] [vI s0] (0, 0) (n, P, N) (kJ n P F) := fun s0 hs => by
          refine b_X10_odds_123 hn hP (b_X10_common hn (q_common hn (oL l) u (oL l) (Nat.le_refl _) ⟨by omega, ?_, ?_⟩))
          · subst hs
            unfold inL
            split <;> omega
          · subst hs
            by_cases hy : y = 0
            · rw [if_pos hy] at hF ⊢; exact hF
            · rw [if_neg hy] at hF ⊢; exact hF
        exact b_X10_odds_81 hn hP ⟨fun _ => ⟨fun hy => fin _ (if_pos hy).symm, fun hy => fin _ (if_neg hy).symm⟩, fun z => absurd (Int.le_refl _) z⟩
      | succ m ih =>
        intro x hx N oN eN
        have ur := sN_r (b := 1) (by decide) fr x
        refine b_X10_odds_81 hn hP ⟨fun z => absurd z (by omega), fun _ => ?_⟩
        refine q_guiltyBy hn hP (ρ := ρ) (by rw [eN]; exact rho_R oN hρ) (by rw [eN]; exact h) (by rw [eN]; exact q1) l2 (by omega) (fun N2 o2 e2 => ?_)
        rw [eN]
        have fx := fr x
        have nx := ih (x + 1) (by omega) N2 (offR_trans oN o2) (e2.trans eN)
        have es : sN f (x + 1) = sN f x + f x := rfl
        rw [es, show ((x + 1 : Nat) : Int) = (x : Int) + 1 by omega] at nx
        have ft : f x = gD ρ (M 65) l (fun i => M 65 (8 + i)) (M 65 14 + (l : Int) + 1) (x_or (M 65 15) (x_shl 1 (M 65 8))) (x : Int) := rfl
        rw [← ft]
        refine ⟨fun hz => b_X10_odds_104 hn hP ⟨by unfold inR; omega, by unfold inR; omega, ?_⟩, fun hz => b_X10_odds_104 hn hP ⟨by unfold inR; omega, by unfold inR; omega, ?_⟩⟩
        · rwa [hz] at nx
        · rwa [show f x = 1 by omega] at nx
    exact loop (oL l) 0 (by omega) M (offR_refl M) rfl
  have hl' : M 65 (20 + 7 * M 65 13 + 2) + M 65 16 - M 65 14 = (l : Int) + 1 := hl
  rw [hl']
  have : l = 0 ∨ l = 1 ∨ l = 2 := by omega
  rcases this with rfl | rfl | rfl
  · exact ⟨fun _ => ⟨fun _ => main, fun z => absurd z (by decide)⟩, fun z => absurd z (by decide)⟩
  · exact ⟨fun _ => ⟨fun z => absurd rfl z, fun _ => main⟩, fun z => absurd z (by decide)⟩
  · exact ⟨fun z => absurd rfl z, fun _ => main⟩
end Odds3
