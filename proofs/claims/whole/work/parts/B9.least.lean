/-! leastFacts: bits and what a code's word on facts rests on -/
abbrev bX (a : Int) (i : Nat) : Bool := bt (Int32.ofInt a) i
theorem bX_and (a b : Int) (i : Nat) : bX (x_and a b) i = (bX a i && bX b i) := by
  show bt (Int32.ofInt (x_and a b)) i = _
  unfold x_and
  rw [Int32.ofInt_toInt, b_and]
theorem bX_or (a b : Int) (i : Nat) : bX (x_or a b) i = (bX a i || bX b i) := by
  show bt (Int32.ofInt (x_or a b)) i = _
  unfold x_or
  rw [Int32.ofInt_toInt, b_or]
theorem bX_xor (a b : Int) (i : Nat) : bX (x_xor a b) i = (bX a i ^^ bX b i) := by
  show bt (Int32.ofInt (x_xor a b)) i = _
  unfold x_xor
  rw [Int32.ofInt_toInt, b_xor]
theorem b_one : ∀ i, i < 32 → bt 1 i = decide (i = 0) := by decide +kernel
theorem bX_bit {a i : Int} (hi : 0 ≤ i ∧ i < 32) : x_and (x_shr a i) 1 = if bX a i.toNat = true then 1 else 0 := by
  have e : ∀ y : Int32, (y &&& Int32.ofInt 1).toInt = if bt y 0 = true then 1 else 0 := fun y => by
    by_cases h : bt y 0 = true
    · rw [if_pos h]
      have : y &&& Int32.ofInt 1 = 1 := by
        apply b_ext
        intro j hj
        rw [b_and, show Int32.ofInt 1 = 1 from rfl, b_one j hj]
        by_cases h0 : j = 0
        · subst h0; rw [h]; rfl
        · rw [decide_eq_false h0, Bool.and_false]
      rw [this]
      rfl
    · rw [if_neg h]
      have : y &&& Int32.ofInt 1 = 0 := by
        apply b_ext
        intro j hj
        rw [b_and, show Int32.ofInt 1 = 1 from rfl, b_one j hj, b_0]
        by_cases h0 : j = 0
        · subst h0
          have h' : bt y 0 = false := by
            cases hb : bt y 0
            · rfl
            · exact absurd hb h
          rw [h']; rfl
        · rw [decide_eq_false h0, Bool.and_false]
      rw [this]
      rfl
  unfold x_and x_shr
  rw [Int32.ofInt_toInt, e, xb_of hi.1, b_sshr _ (by omega) _ (by omega), if_pos (show i.toNat + 0 < 32 by omega), Nat.add_zero]
theorem bX_0 (a : Int) : x_and a 1 = if bX a 0 = true then 1 else 0 := by
  have h := bX_bit (a := a) (i := 0) (by omega)
  have e : x_and (x_shr a 0) 1 = x_and a 1 := by
    unfold x_and x_shr
    rw [Int32.ofInt_toInt]
    congr 2
    apply b_ext
    intro j hj
    rw [xb_of (z := 0) (by omega), b_sshr (Int.toNat 0) (by decide) _ hj]
    show (if 0 + j < 32 then bt (Int32.ofInt a) (0 + j) else _) = _
    rw [if_pos (by omega), Nat.zero_add]
  rw [← e, h]
  rfl
theorem bX_hi {a : Int} (h : 0 ≤ a ∧ a < 256) {i : Nat} (hi : 8 ≤ i) : bX a i = false := by
  show bt (Int32.ofInt a) i = false
  rw [xb_of h.1]
  show (BitVec.ofNat 32 a.toNat).getLsbD i = false
  rw [BitVec.getLsbD_ofNat, Nat.testBit_lt_two_pow (Nat.lt_of_lt_of_le (show a.toNat < 2 ^ 8 by omega) (Nat.pow_le_pow_right (by decide) hi)), Bool.and_false]
theorem sub_iff {x k : Int} : x_and x (x_xor k (-1)) = 0 ↔ ∀ i, i < 32 → bX x i = true → bX k i = true := by
  constructor
  · intro h i hi hx
    have := bX_and x (x_xor k (-1)) i
    rw [h, bX_xor, show bX 0 i = false from b_0 i, show bX (-1) i = true from b_m1 i hi, hx, Bool.true_and] at this
    revert this
    cases bX k i <;> decide
  · intro h
    have : Int32.ofInt x &&& Int32.ofInt (x_xor k (-1)) = 0 := by
      apply b_ext
      intro i hi
      rw [b_and, b_0]
      show (bX x i && bX (x_xor k (-1)) i) = false
      rw [bX_xor, show bX (-1) i = true from b_m1 i hi]
      have := h i hi
      revert this
      cases bX x i <;> cases bX k i <;> decide
    unfold x_and
    rw [this]
    rfl
abbrev bv (b : Bool) : Int := if b = true then 1 else 0
theorem popc_b (a : Int) : popc a = bv (bX a 0) + bv (bX a 1) + bv (bX a 2) + bv (bX a 3) + bv (bX a 4) + bv (bX a 5) + bv (bX a 6) + bv (bX a 7) := by
  unfold popc
  rw [bX_bit (by omega), bX_bit (by omega), bX_bit (by omega), bX_bit (by omega), bX_bit (by omega), bX_bit (by omega), bX_bit (by omega), bX_bit (by omega)]
  rfl
theorem bv_le {a b : Bool} : bv (a && b) ≤ bv a := by cases a <;> cases b <;> decide
theorem bv_lt {a b : Bool} (h1 : a = true) (h2 : b = false) : bv (a && b) < bv a := by rw [h1, h2]; decide
theorem lt8 {f g : Nat → Int} (l : ∀ j, f j ≤ g j) {i : Nat} (hi : i < 8) (s : f i < g i) : f 0 + f 1 + f 2 + f 3 + f 4 + f 5 + f 6 + f 7 < g 0 + g 1 + g 2 + g 3 + g 4 + g 5 + g 6 + g 7 := by
  have l0 := l 0
  have l1 := l 1
  have l2 := l 2
  have l3 := l 3
  have l4 := l 4
  have l5 := l 5
  have l6 := l 6
  have l7 := l 7
  have : i = 0 ∨ i = 1 ∨ i = 2 ∨ i = 3 ∨ i = 4 ∨ i = 5 ∨ i = 6 ∨ i = 7 := by omega
  rcases this with rfl | rfl | rfl | rfl | rfl | rfl | rfl | rfl <;> omega
theorem popc_and {x k : Int} (hx : 0 ≤ x ∧ x < 256) (h : ¬ x_and x (x_xor k (-1)) = 0) : popc (x_and x k) < popc x := by
  have : ∃ i, i < 8 ∧ bX x i = true ∧ bX k i = false := by
    by_cases q : ∃ i, i < 8 ∧ bX x i = true ∧ bX k i = false
    · exact q
    · exfalso
      apply h
      rw [sub_iff]
      intro i hi hb
      by_cases h8 : i < 8
      · cases hk : bX k i
        · exact absurd ⟨i, h8, hb, hk⟩ q
        · rfl
      · rw [bX_hi hx (by omega)] at hb; cases hb
  obtain ⟨i, hi, h1, h2⟩ := this
  rw [popc_b, popc_b, bX_and, bX_and, bX_and, bX_and, bX_and, bX_and, bX_and, bX_and]
  exact lt8 (f := fun j => bv (bX x j && bX k j)) (g := fun j => bv (bX x j)) (fun j => bv_le) hi (bv_lt h1 h2)
theorem st1_fact {o v : Int} {nm : Int → Int} {fs fs' : Int} {s : List Int} (h2 : o = 24 → x_and (x_shr fs v) 1 = x_and (x_shr fs' v) 1) : st1 o v nm fs s = st1 o v nm fs' s := by
  unfold st1
  by_cases a : o = 24
  · rw [h2 a]
  · rw [if_neg (show ¬ o = 24 from a), if_neg (show ¬ o = 24 from a)]
theorem ev1_fact {pr : Int → Int × Int} {nm : Int → Int} {fs fs' : Int} : ∀ (k : Nat) (i : Int) (s : List Int), (∀ j, i ≤ j → j < i + k → (pr j).1 = 24 → x_and (x_shr fs (pr j).2) 1 = x_and (x_shr fs' (pr j).2) 1) → ev1 pr nm fs k i s = ev1 pr nm fs' k i s
  | 0, i, s, _ => rfl
  | k + 1, i, s, h => by
    unfold ev1
    rw [st1_fact (h i (by omega) (by omega))]
    exact ev1_fact k (i + 1) _ (fun j h2 h3 => h j (by omega) (by omega))
/-- the facts that matter -/
def ask (M : xM) (τ : Int) : Int := if τ < 0 then 1 else x_or (M (43 + 5 * τ.toNat) 6) 1
theorem gui_fact {M : xM} {τ : Int} {ρ : Option xTx} (hρ : rho M τ ρ) {q : Int} (hq : 0 ≤ q ∧ q < 4) {nm : Int → Int} {fs fs' : Int} (h : ∀ i, i < 8 → bX (ask M τ) i = true → bX fs i = bX fs' i) : gui ρ q nm fs = gui ρ q nm fs' := by
  have h0 : x_and fs 1 = x_and fs' 1 := by
    rw [bX_0, bX_0, h 0 (by decide) ?_]
    unfold ask
    split
    · decide
    · rw [bX_or, show bX 1 0 = true by decide, Bool.or_true]
  unfold gui
  rw [h0]
  congr 1
  cases ρ with
  | none => rw [lw_none, lw_none]
  | some T =>
    rw [lw_some, lw_some]
    by_cases t0 : τ < 0
    · have := hρ.1 t0; cases this
    obtain ⟨T', e', h4, hT⟩ := hρ.2 (by omega)
    cases e'
    cases e : T.2 q with
    | none => rw [evl_none e, evl_none e]
    | some p =>
      have h1 := hT.1 q p hq.1 (by omega) e
      rw [evl_at e, evl_at e, ev1_fact (p.2 - p.1).toNat p.1 [] (fun j h2 h3 h24 => ?_)]
      have b1 := hT.2.2.2.2.2 q p hq.1 hq.2 e j h2 (by omega) h24
      have b2 := (h1.2.1 j h2 (by omega)).2.2.2.2 h24
      have b3 := (h1.2.1 j h2 (by omega)).2.1
      have r : 0 ≤ (T.1 j).2 ∧ (T.1 j).2 < 8 := by
        have := b2.2
        omega
      rw [bX_bit (by omega)] at b1
      rw [bX_bit (by omega), bX_bit (by omega), h (T.1 j).2.toNat (by omega) ?_]
      unfold ask
      rw [if_neg t0, bX_or]
      by_cases q1 : bX (M (43 + 5 * τ.toNat) 6) (T.1 j).2.toNat = true
      · rw [q1]; rfl
      · rw [if_neg q1] at b1; omega
