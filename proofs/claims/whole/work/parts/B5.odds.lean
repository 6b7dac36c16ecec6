/-! odds -/
def sN (f : Nat → Int) : Nat → Int
  | 0 => 0
  | k + 1 => sN f k + f k
theorem sN_r {f : Nat → Int} {b : Int} (hb : 0 ≤ b) (hf : ∀ k, 0 ≤ f k ∧ f k ≤ b) : ∀ k : Nat, 0 ≤ sN f k ∧ sN f k ≤ b * k
  | 0 => ⟨Int.le_refl _, by show (0 : Int) ≤ b * ((0 : Nat) : Int); rw [show ((0 : Nat) : Int) = 0 from rfl, Int.mul_zero]; exact Int.le_refl _⟩
  | k + 1 => by
    have ih := sN_r hb hf k
    have := hf k
    have e : b * ((k + 1 : Nat) : Int) = b * k + b := by rw [show ((k + 1 : Nat) : Int) = (k : Int) + 1 by omega, Int.mul_add, Int.mul_one]
    show 0 ≤ sN f k + f k ∧ sN f k + f k ≤ _
    omega
theorem sN_congr {f f' : Nat → Int} : ∀ (k : Nat), (∀ i, i < k → f i = f' i) → sN f k = sN f' k
  | 0, _ => rfl
  | k + 1, h => by
    show sN f k + f k = sN f' k + f' k
    rw [sN_congr k (fun i hi => h i (by omega)), h k (by omega)]
theorem sN_add (f : Nat → Int) (a : Nat) : ∀ b, sN f (a + b) = sN f a + sN (fun i => f (a + i)) b
  | 0 => (Int.add_zero _).symm
  | b + 1 => by
    show sN f (a + b) + f (a + b) = sN f a + (sN (fun i => f (a + i)) b + f (a + b))
    rw [sN_add f a b]
    omega
theorem sN_ten (f : Nat → Int) : ∀ k, sN f (10 * k) = sN (fun y => sN (fun x => f (10 * y + x)) 10) k
  | 0 => rfl
  | k + 1 => by
    rw [show 10 * (k + 1) = 10 * k + 10 by omega, sN_add, sN_ten f k]
    rfl
theorem sN_plus (f g : Nat → Int) : ∀ k, sN (fun i => f i + g i) k = sN f k + sN g k
  | 0 => rfl
  | k + 1 => by
    show sN (fun i => f i + g i) k + (f k + g k) = sN f k + f k + (sN g k + g k)
    rw [sN_plus f g k]
    omega
theorem sN_swap (G : Nat → Nat → Int) (b : Nat) : ∀ a, sN (fun y => sN (fun x => G x y) b) a = sN (fun x => sN (fun y => G x y) a) b
  | 0 => by
    have : ∀ b, sN (fun x => sN (fun y => G x y) 0) b = 0 := fun b => by
      induction b with
      | zero => rfl
      | succ b ih =>
        show sN (fun x => sN (fun y => G x y) 0) b + 0 = 0
        rw [ih]
        rfl
    exact (this b).symm
  | a + 1 => by
    show sN (fun y => sN (fun x => G x y) b) a + sN (fun x => G x a) b = sN (fun x => sN (fun y => G x y) a + G x a) b
    rw [sN_swap G b a, sN_plus]
/-- judged at the last: 1 guilty -/
def gJ (ρ : Option xTx) (A w : Int → Int) (hd laws : Int) : Int := bi (jf ρ (w 3) (w 0) (w 1) (w 2) (A (20 + 7 * A 13 + 0)) (A (20 + 7 * A 13 + 1)) hd (A (20 + 7 * A 13 + 3)) laws)
def wy (ρ : Option xTx) (A : Int → Int) : Nat → (Int → Int) → Int → Int → Int
  | 0, w, hd, laws => gJ ρ A w (hd + 1) (x_or laws (x_shl 1 (w 0)))
  | l + 1, w, hd, laws => sN (fun x => wy ρ A l (cTurn ρ w (x : Int)) (hd + 1) (x_or laws (x_shl 1 (w 0)))) 10
theorem gJ_r (ρ : Option xTx) (A w : Int → Int) (hd laws : Int) : 0 ≤ gJ ρ A w hd laws ∧ gJ ρ A w hd laws ≤ 1 := by
  unfold gJ
  have := bi_or (jf ρ (w 3) (w 0) (w 1) (w 2) (A (20 + 7 * A 13 + 0)) (A (20 + 7 * A 13 + 1)) hd (A (20 + 7 * A 13 + 3)) laws)
  omega
theorem wy_r (ρ : Option xTx) (A : Int → Int) : ∀ (l : Nat) (w : Int → Int) (hd laws : Int), l ≤ 2 → 0 ≤ wy ρ A l w hd laws ∧ wy ρ A l w hd laws ≤ (if l = 0 then 1 else if l = 1 then 10 else 100)
  | 0, w, hd, laws, _ => gJ_r _ _ _ _ _
  | 1, w, hd, laws, _ => sN_r (b := 1) (by decide) (fun k => gJ_r _ _ _ _ _) 10
  | 2, w, hd, laws, _ => sN_r (b := 10) (by decide) (fun k => wy_r ρ A 1 _ _ _ (by omega)) 10
theorem cT_0 (ρ : Option xTx) (w : Int → Int) (x : Int) : cTurn ρ w x 0 = tq ρ (w 3 + 1) (w 0) (w 1) x := rfl
theorem cT_1 (ρ : Option xTx) (w : Int → Int) (x : Int) : cTurn ρ w x 1 = tf ρ (w 3 + 1) (w 0) (w 1) x := rfl
theorem cT_2 (ρ : Option xTx) (w : Int → Int) (x : Int) : cTurn ρ w x 2 = tg ρ (w 3 + 1) (w 0) (w 1) x := rfl
theorem cT_3 (ρ : Option xTx) (w : Int → Int) (x : Int) : cTurn ρ w x 3 = w 3 + 1 := rfl
theorem cT_4 (ρ : Option xTx) (w : Int → Int) (x : Int) : cTurn ρ w x 4 = w 4 := rfl
theorem cT_congr {ρ : Option xTx} {w w' : Int → Int} {x : Int} (h : ∀ j, 0 ≤ j → j < 5 → w j = w' j) {j : Int} (hj : 0 ≤ j ∧ j < 5) : cTurn ρ w x j = cTurn ρ w' x j := by
  have h0 := h 0 (by omega) (by omega)
  have h1 := h 1 (by omega) (by omega)
  have h3 := h 3 (by omega) (by omega)
  have h4 := h 4 (by omega) (by omega)
  have : j = 0 ∨ j = 1 ∨ j = 2 ∨ j = 3 ∨ j = 4 := by omega
  rcases this with rfl | rfl | rfl | rfl | rfl
  · rw [cT_0, cT_0, h0, h1, h3]
  · rw [cT_1, cT_1, h0, h1, h3]
  · rw [cT_2, cT_2, h0, h1, h3]
  · rw [cT_3, cT_3, h3]
  · rw [cT_4, cT_4, h4]
abbrev wOk2 (w : Int → Int) : Prop := (0 ≤ w 0 ∧ w 0 < 4) ∧ (0 ≤ w 1 ∧ w 1 ≤ 9) ∧ (0 ≤ w 3 ∧ w 3 ≤ 15000)
theorem cT_ok (ρ : Option xTx) {w : Int → Int} {x : Int} (h : wOk2 w) (hx : 0 ≤ x ∧ x ≤ 9) (h3 : w 3 ≤ 14999) : wOk2 (cTurn ρ w x) := by
  refine ⟨?_, ?_, ?_⟩
  · rw [cT_0]; exact tq_r ρ h.1
  · rw [cT_1]; exact tf_r hx
  · rw [cT_3]; omega
section Odds
variable {g : Option Nat} {d n : Nat} {P : xP} {M : xM} {F : xM → Int → Prop} {G : xM → Prop}
theorem x_w19 (hn : 82 ≤ n) (hP : x_PP P) {i : Int} (h : 0 ≤ i ∧ i < 3) : P 19 i = some (20 + i.toNat) ∧ x_cell n (20 + i.toNat) 0 5 := by
  have : i = 0 ∨ i = 1 ∨ i = 2 := by omega
  rcases this with rfl | rfl | rfl
  · exact ⟨pp_19_0 hP, cl_20 hn⟩
  · exact ⟨pp_19_1 hP, cl_21 hn⟩
  · exact ⟨pp_19_2 hP, cl_22 hn⟩
theorem k_ways (hn : 82 ≤ n) (hP : x_PP P) {A : Int → Int} {o : Option Nat} {ρ : Option xTx} (hc : 0 ≤ A 13 ∧ A 13 < A 0) : ∀ (l : Nat) (D : Nat) (M : xM) (w : Int → Int) (hd laws : Int) (F : xM → Int → Prop), D + l ≤ 2 → relC A (CC M) → clR n P M o ρ → M 15 2 = x_enc o → wOk2 w → w 3 + l ≤ 15000 → (∀ j, 0 ≤ j → j < 5 → M (20 + D) j = w j) → (0 ≤ hd ∧ hd + l ≤ 50) → (0 ≤ laws ∧ laws < 16) → (∀ M', (∀ b, b < 12 ∨ (14 < b ∧ b ≤ 20 + D) ∨ 22 < b → M' b = M b) → F M' (wy ρ A l w hd laws)) → xCI Y_X1_waysFrom none (d + l + 4) [vR (some 15), vI (D : Int), vI ((l : Int) + 1), vI (A 13), vI hd, vI laws] n P M F := by
  intro l
  induction l with
  | zero =>
    intro D M w hd laws F hD h hR h2 hw hw3 hM hh hl H
    have x19 := x_w19 (n := n) hn hP (i := (D : Int)) (by omega)
    rw [Int.toNat_natCast] at x19
    have lr := laws_r hl hw.1
    have m0 := hM 0 (by omega) (by omega)
    have m1 := hM 1 (by omega) (by omega)
    have m2 := hM 2 (by omega) (by omega)
    have m3 := hM 3 (by omega) (by omega)
    refine b_X1_waysFrom hn hP ⟨fun z => absurd z (by omega), fun _ => ⟨fun _ => ⟨_, ⟨by omega, x19.1, x19.2⟩, by unfold inR; omega, by omega, fun z => absurd z (by omega), fun _ => ⟨by omega, by omega, by omega, ?_⟩⟩, fun z => absurd (show (D : Int) < 3 by omega) z⟩⟩
    rw [m0, m1, m3]
    refine k_judge hn hP h hR hc (by omega) (by omega) hw.1 hw.2.1 lr (fun M1 o1 J => ⟨by omega, ?_⟩)
    have j15 := o1 15 (by omega)
    have jw := o1 (20 + D) (by omega)
    rw [j15, jw, h2, x_dec_enc, m1, m2]
    have fin : ∀ cm : Int, (cm = 0 ↔ ¬ (w 1 = 0 ∨ w 2 = 1)) → xW Y_X1_waysFrom none (d + 4) 0 0 109 [(8, vI (x_or laws (x_shl 1 (w 0))))] [vI cm, vR o, vR (some 12)] (0, 0) (n, P, M1) (kI n P F) := fun cm hcm => b_X1_waysFrom_109 hn hP (J cm _ (fun M2 o2 => by
      have HH := H M2 (fun b hb => o2 b (by omega))
      have tk := oka_told ⟨_, h⟩ hc
      have vr := sent_r ρ (nm := up (cn (w 3) (w 0) (w 1) (A (20 + 7 * A 13 + 0)) (A (20 + 7 * A 13 + 1)) (hd + 1)) 7 (popc (x_or laws (x_shl 1 (w 0))))) (by rw [up_ne (by decide)]; show 0 ≤ A (20 + 7 * A 13 + 1) ∧ A (20 + 7 * A 13 + 1) ≤ 9; omega) (by rw [up_ne (by decide)]; show 0 ≤ hd + 1 ∧ hd + 1 ≤ 100; omega)
      show (¬ _ = -1 → F M2 1) ∧ (_ = -1 → F M2 0)
      unfold wy gJ at HH
      by_cases hb : jf ρ (w 3) (w 0) (w 1) (w 2) (A (20 + 7 * A 13 + 0)) (A (20 + 7 * A 13 + 1)) (hd + 1) (A (20 + 7 * A 13 + 3)) (x_or laws (x_shl 1 (w 0)))
      · rw [bi_t hb] at HH
        rw [if_pos ⟨hcm.mpr hb.2, hb.1⟩]
        exact ⟨fun _ => HH, fun z => absurd z (by omega)⟩
      · rw [bi_f hb] at HH
        rw [if_neg (fun z => hb ⟨z.2, hcm.mp z.1⟩)]
        exact ⟨fun z => absurd rfl z, fun _ => HH⟩))
    exact ⟨fun hz => b_X1_waysFrom_104 hn hP (fin 1 ⟨fun z => absurd z (by decide), fun z => absurd (Or.inl hz) z⟩), fun hz => ⟨by omega, fun hy => fin 0 ⟨fun _ z => by rcases z with z | z; exact hz z; exact hy z, fun _ => rfl⟩, fun hy => b_X1_waysFrom_104 hn hP (fin 1 ⟨fun z => absurd z (by decide), fun z => absurd (Or.inr hy) z⟩)⟩⟩
  | succ l ih =>
    intro D M w hd laws F hD h hR h2 hw hw3 hM hh hl H
    have x19 := x_w19 (n := n) hn hP (i := (D : Int)) (by omega)
    have y19 := x_w19 (n := n) hn hP (i := (D : Int) + 1) (by omega)
    rw [Int.toNat_natCast] at x19
    rw [show ((D : Int) + 1).toNat = D + 1 by omega] at y19
    have lr := laws_r hl hw.1
    have m0 := hM 0 (by omega) (by omega)
    refine b_X1_waysFrom (d := d + (l + 1)) hn hP ⟨fun z => absurd z (by omega), fun _ => ⟨fun _ => ⟨_, ⟨by omega, x19.1, x19.2⟩, by unfold inR; omega, by omega, fun _ => ?_, fun z => absurd (show (1 : Int) < ((l + 1 : Nat) : Int) + 1 by omega) z⟩, fun z => absurd (show (D : Int) < 3 by omega) z⟩⟩
    rw [m0]
    generalize hlw : x_or laws (x_shl 1 (w 0)) = laws' at *
    let f : Nat → Int := fun x => wy ρ A l (cTurn ρ w (x : Int)) (hd + 1) laws'
    have HH : ∀ M', (∀ b, b < 12 ∨ (14 < b ∧ b ≤ 20 + D) ∨ 22 < b → M' b = M b) → F M' (sN f 10) := fun M' e => by
      have := H M' e
      unfold wy at this
      rw [hlw] at this
      exact this
    have fr : ∀ x, 0 ≤ f x ∧ f x ≤ 10 := fun x => by
      have := wy_r ρ A l (cTurn ρ w (x : Int)) (hd + 1) laws' (by omega)
      refine ⟨this.1, Int.le_trans this.2 ?_⟩
      split
      · omega
      · split <;> omega
    have loop : ∀ (m x : Nat), x + m = 10 → ∀ N, (∀ b, b < 12 ∨ (14 < b ∧ b ≤ 20 + D) ∨ 22 < b → N b = M b) → xW Y_X1_waysFrom none (d + (l + 1) + 4) 0 0 130 [(0, vR (some 15)), (1, vI (D : Int)), (2, vI (((l + 1 : Nat) : Int) + 1)), (3, vI (A 13)), (6, vR (some (20 + D))), (7, vI (hd + 1)), (8, vI laws'), (9, vI (sN f x)), (10, vI (x : Int))] [] (0, 0) (n, P, N) (kI n P F) := by
      intro m
      induction m with
      | zero =>
        intro x hx N eN
        refine b_X1_waysFrom_130 (d := d + (l + 1)) hn hP x19.2 ⟨fun _ => ?_, fun z => absurd z (by omega)⟩
        rw [show x = 10 by omega]
        exact HH N eN
      | succ m ih2 =>
        intro x hx N eN
        have sr := sN_r (b := 10) (by decide) fr x
        refine b_X1_waysFrom_130 (d := d + (l + 1)) hn hP x19.2 ⟨fun z => absurd z (by omega), fun _ => ⟨by unfold inR; omega, fun z => absurd z (by omega), fun _ => ⟨by unfold inR; omega, _, ⟨by omega, y19.1, y19.2⟩, by omega, by unfold inR; omega, _, ⟨by omega, y19.1, y19.2⟩, ?_⟩⟩⟩
        generalize hN2 : x_cpy N (20 + D) (20 + (D + 1)) 0 0 5 = N2
        have ce : ∀ b, b ≠ 20 + (D + 1) → N2 b = N b := fun b hb => by
          rw [← hN2]
          funext j
          exact cpy_ne hb j
        have cw : ∀ j, 0 ≤ j → j < 5 → N2 (20 + (D + 1)) j = w j := fun j j0 j1 => by
          rw [← hN2, cpy_in j0 j1, eN (20 + D) (by omega)]
          exact hM j j0 j1
        have e15 : N2 15 = M 15 := (ce 15 (by omega)).trans (eN 15 (by omega))
        have hRN : clR n P N2 o ρ := clR_of (fun c c0 c1 => (ce c (by omega)).trans (eN c (by omega))) hR
        rw [e15, h2, x_dec_enc]
        have w0 := cw 0 (by omega) (by omega)
        have w1 := cw 1 (by omega) (by omega)
        have w3 := cw 3 (by omega) (by omega)
        refine k_turn hn hP y19.2 (by omega) (by omega) hRN (by omega) (by rw [w3]; omega) (by rw [w0]; exact hw.1) (by rw [w1]; exact hw.2.1) (fun N3 o3 => ⟨by unfold inR; omega, by unfold inR; omega, ?_⟩)
        have c3 : ∀ b, b < 12 ∨ (14 < b ∧ b ≤ 20 + D) ∨ 22 < b → N3 b = M b := fun b hb => by
          rw [o3 b (by omega), setA_ne (by omega), ce b (by omega), eN b hb]
        have t3 : ∀ j, 0 ≤ j → j < 5 → N3 (20 + (D + 1)) j = cTurn ρ w (x : Int) j := fun j j0 j1 => by
          rw [o3 (20 + (D + 1)) (by omega), setA_at]
          exact cT_congr cw ⟨j0, j1⟩
        have := ih (D + 1) N3 (cTurn ρ w (x : Int)) (hd + 1) laws' (fun M12 z12 => inR (sN f x + z12) ∧ inR ((x : Int) + 1) ∧ xW Y_X1_waysFrom none (d + (l + 1) + 4) 0 0 130 [(0, vR (some 15)), (1, vI (D : Int)), (2, vI (((l + 1 : Nat) : Int) + 1)), (3, vI (A 13)), (6, vR (some (20 + D))), (7, vI (hd + 1)), (8, vI laws'), (9, vI (sN f x + z12)), (10, vI ((x : Int) + 1))] [] (0, 0) (n, P, M12) (kI n P F)) (by omega) (relC_same h (fun c c0 c1 => c3 c (by omega))) (clR_of (fun c c0 c1 => c3 c (by omega)) hR) (by rw [c3 15 (by omega)]; exact h2) (cT_ok ρ hw (by omega) (by omega)) (by rw [cT_3]; omega) t3 (by omega) lr (fun M' e' => ?_)
        · rw [show ((D : Int) + 1) = ((D + 1 : Nat) : Int) by omega, show ((l + 1 : Nat) : Int) + 1 - 1 = (l : Int) + 1 by omega]
          exact this
        · have fx := fr x
          refine ⟨by unfold inR; show -2147483648 ≤ sN f x + f x ∧ sN f x + f x ≤ 2147483647; omega, by unfold inR; omega, ?_⟩
          have := ih2 (x + 1) (by omega) M' (fun b hb => by
            rw [e' b (by omega), c3 b hb])
          rw [show (((x + 1 : Nat) : Nat) : Int) = (x : Int) + 1 by omega] at this
          exact this
    exact loop 10 0 (by omega) M (fun _ _ => rfl)
end Odds
