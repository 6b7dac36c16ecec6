/-! longs: packed words -/
theorem lb_of {z : Int} (h0 : 0 ≤ z) : Int64.ofInt z = Int64.ofNat z.toNat := by
  rw [show z = ((z.toNat : Nat) : Int) by omega, Int64.ofInt_eq_ofNat]
  rfl
theorem lb_tn {a : Nat} (h : a < 2 ^ 63) : (Int64.ofNat a).toBitVec.toNat = a := by
  show (BitVec.ofNat 64 a).toNat = a
  rw [BitVec.toNat_ofNat]
  exact Nat.mod_eq_of_lt (by omega)
theorem lb_ti {x : Int64} {a : Nat} (h : x.toBitVec.toNat = a) (ha : a < 2 ^ 63) : x.toInt = (a : Int) := by
  show x.toBitVec.toInt = _
  rw [BitVec.toInt_eq_toNat_of_lt (by rw [h]; omega), h]
theorem l_s8 : (((Int32.ofInt 8).toInt64 &&& 63).toBitVec.smod 64).toNat = 8 := by decide +kernel
theorem l_s48 : (((Int32.ofInt 48).toInt64 &&& 63).toBitVec.smod 64).toNat = 48 := by decide +kernel
theorem x_lshl_8 {w : Int} (h : 0 ≤ w ∧ w < 2 ^ 55) : x_lshl w 8 = w * 256 := by
  unfold x_lshl
  rw [lb_of h.1]
  have e : (Int64.ofNat w.toNat <<< ((Int32.ofInt 8).toInt64 &&& 63)).toBitVec.toNat = w.toNat * 256 := by
    rw [Int64.toBitVec_shiftLeft]
    show ((Int64.ofNat w.toNat).toBitVec <<< (((Int32.ofInt 8).toInt64 &&& 63).toBitVec.smod 64).toNat).toNat = _
    rw [l_s8, BitVec.toNat_shiftLeft, lb_tn (by omega), Nat.shiftLeft_eq]
    exact Nat.mod_eq_of_lt (by omega)
  rw [lb_ti e (by omega)]
  omega
theorem x_lshr_48 {w : Int} (h : 0 ≤ w ∧ w < 2 ^ 63) : x_lshr w 48 = w / 2 ^ 48 := by
  unfold x_lshr
  rw [lb_of h.1]
  have e : (Int64.ofNat w.toNat >>> ((Int32.ofInt 48).toInt64 &&& 63)).toBitVec.toNat = w.toNat / 2 ^ 48 := by
    rw [Int64.toBitVec_shiftRight]
    show ((Int64.ofNat w.toNat).toBitVec.sshiftRight (((Int32.ofInt 48).toInt64 &&& 63).toBitVec.smod 64).toNat).toNat = _
    rw [l_s48, BitVec.sshiftRight_eq_of_msb_false, BitVec.toNat_ushiftRight, lb_tn (by omega), Nat.shiftRight_eq_div_pow]
    rw [BitVec.msb_eq_false_iff_two_mul_lt, lb_tn (by omega)]
    omega
  rw [lb_ti e (by omega)]
  omega
theorem x_lor_add {w c : Int} (h : 0 ≤ w ∧ w < 2 ^ 55) (hc : 0 ≤ c ∧ c < 256) : x_lor (w * 256) c = w * 256 + c := by
  unfold x_lor
  rw [lb_of (by omega), lb_of hc.1]
  have e : (Int64.ofNat (w * 256).toNat ||| Int64.ofNat c.toNat).toBitVec.toNat = (w * 256).toNat + c.toNat := by
    rw [Int64.toBitVec_or, BitVec.toNat_or, lb_tn (by omega), lb_tn (by omega)]
    rw [show (w * 256).toNat = 2 ^ 8 * w.toNat by omega]
    exact (Nat.two_pow_add_eq_or_of_lt (by omega) _).symm
  rw [lb_ti e (by omega)]
  omega
/-- the letters as one number -/
def vlF : List Int → Int → Int
  | [], w => w
  | c :: r, w => vlF r (w * 256 + c)
theorem vlF_snoc : ∀ (l : List Int) (c w : Int), vlF (l ++ [c]) w = vlF l w * 256 + c
  | [], _, _ => rfl
  | a :: l, c, w => vlF_snoc l c (w * 256 + a)
theorem pkF_1 : ∀ l : List Int, pkF l 1152921504606846976 = 1152921504606846976
  | [] => rfl
  | c :: r => by
    show pkF r (if x_lshr 1152921504606846976 48 = 0 then _ else 1152921504606846976) = _
    rw [x_lshr_48 (by decide), if_neg (by decide)]
    exact pkF_1 r
theorem pkF_v : ∀ (l : List Int) (w : Int), (∀ c ∈ l, 0 < c ∧ c < 256) → (0 ≤ w ∧ w < 2 ^ 56) → (pkF l w = vlF l w ∧ vlF l w < 2 ^ 56) ∨ (pkF l w = 1152921504606846976 ∧ 2 ^ 56 ≤ vlF l w)
  | [], w, _, hw => Or.inl ⟨rfl, hw.2⟩
  | c :: r, w, hl, hw => by
    have hc := hl c (List.mem_cons_self ..)
    have mono : ∀ (r : List Int) (a b : Int), (∀ c ∈ r, 0 < c ∧ c < 256) → 0 ≤ a → a ≤ b → vlF r a ≤ vlF r b ∧ a ≤ vlF r a := by
      intro r
      induction r with
      | nil => intro a b _ _ h; exact ⟨h, Int.le_refl _⟩
      | cons x r ih =>
        intro a b hr a0 h
        have hx := hr x (List.mem_cons_self ..)
        have := ih (a * 256 + x) (b * 256 + x) (fun y hy => hr y (List.mem_cons_of_mem _ hy)) (by omega) (by omega)
        show vlF r (a * 256 + x) ≤ vlF r (b * 256 + x) ∧ a ≤ vlF r (a * 256 + x)
        omega
    show (pkF r (if x_lshr w 48 = 0 then x_lor (x_lshl w 8) c else 1152921504606846976) = vlF r (w * 256 + c) ∧ vlF r (w * 256 + c) < 2 ^ 56) ∨ (pkF r (if x_lshr w 48 = 0 then x_lor (x_lshl w 8) c else 1152921504606846976) = 1152921504606846976 ∧ 2 ^ 56 ≤ vlF r (w * 256 + c))
    rw [x_lshr_48 (by omega)]
    by_cases q : w / 2 ^ 48 = 0
    · rw [if_pos q, x_lshl_8 (by omega), x_lor_add (by omega) (by omega)]
      exact pkF_v r (w * 256 + c) (fun y hy => hl y (List.mem_cons_of_mem _ hy)) (by omega)
    · rw [if_neg q, pkF_1]
      have := (mono r (w * 256 + c) (w * 256 + c) (fun y hy => hl y (List.mem_cons_of_mem _ hy)) (by omega) (Int.le_refl _)).2
      exact Or.inr ⟨rfl, by omega⟩
theorem vlF_nn : ∀ (l : List Int) (w : Int), (∀ c ∈ l, 0 < c ∧ c < 256) → 0 ≤ w → 0 ≤ vlF l w
  | [], _, _, h => h
  | c :: r, w, hl, h => vlF_nn r (w * 256 + c) (fun y hy => hl y (List.mem_cons_of_mem _ hy)) (by have := hl c (List.mem_cons_self ..); omega)
theorem vlF_inj : ∀ (k : Nat) (l m : List Int), l.length ≤ k → (∀ c ∈ l, 0 < c ∧ c < 256) → (∀ c ∈ m, 0 < c ∧ c < 256) → vlF l 0 = vlF m 0 → l = m := by
  intro k
  induction k with
  | zero =>
    intro l m hk hl hm e
    have l0 : l = [] := List.eq_nil_of_length_eq_zero (by omega)
    subst l0
    rcases List.eq_nil_or_concat m with h | ⟨m', c, h⟩
    · exact h.symm
    · subst h
      rw [List.concat_eq_append, vlF_snoc] at e
      have hc := hm c (by rw [List.concat_eq_append]; exact List.mem_append_right _ (List.mem_cons_self ..))
      have := vlF_nn m' 0 (fun y hy => hm y (by rw [List.concat_eq_append]; exact List.mem_append_left _ hy)) (Int.le_refl _)
      have e' : (0 : Int) = vlF m' 0 * 256 + c := e
      omega
  | succ k ih =>
    intro l m hk hl hm e
    rcases List.eq_nil_or_concat l with h | ⟨l', c, h⟩
    · subst h
      rcases List.eq_nil_or_concat m with h2 | ⟨m', c2, h2⟩
      · exact h2.symm
      · subst h2
        rw [List.concat_eq_append, vlF_snoc] at e
        have hc := hm c2 (by rw [List.concat_eq_append]; exact List.mem_append_right _ (List.mem_cons_self ..))
        have := vlF_nn m' 0 (fun y hy => hm y (by rw [List.concat_eq_append]; exact List.mem_append_left _ hy)) (Int.le_refl _)
        have e' : (0 : Int) = vlF m' 0 * 256 + c2 := e
        omega
    · subst h
      have hc := hl c (by rw [List.concat_eq_append]; exact List.mem_append_right _ (List.mem_cons_self ..))
      have hl' : ∀ y ∈ l', 0 < y ∧ y < 256 := fun y hy => hl y (by rw [List.concat_eq_append]; exact List.mem_append_left _ hy)
      have v1 := vlF_nn l' 0 hl' (Int.le_refl _)
      rw [List.length_concat] at hk
      rcases List.eq_nil_or_concat m with h2 | ⟨m', c2, h2⟩
      · subst h2
        rw [List.concat_eq_append, vlF_snoc] at e
        have e' : vlF l' 0 * 256 + c = (0 : Int) := e
        omega
      · subst h2
        have hc2 := hm c2 (by rw [List.concat_eq_append]; exact List.mem_append_right _ (List.mem_cons_self ..))
        have hm' : ∀ y ∈ m', 0 < y ∧ y < 256 := fun y hy => hm y (by rw [List.concat_eq_append]; exact List.mem_append_left _ hy)
        have v2 := vlF_nn m' 0 hm' (Int.le_refl _)
        rw [List.concat_eq_append, List.concat_eq_append, vlF_snoc, vlF_snoc] at e
        have e1 : c = c2 := by omega
        have e2 : vlF l' 0 = vlF m' 0 := by omega
        rw [e1, ih l' m' (by omega) hl' hm' e2]
/-- a packed word of at most six letters: the letters -/
theorem pk_iff {l w : List Int} (hl : ∀ c ∈ l, 0 < c ∧ c < 256) (hw : ∀ c ∈ w, 0 < c ∧ c < 256) (h6 : vlF w 0 < 2 ^ 56) : pkF l 0 = vlF w 0 ↔ l = w := by
  have h0 := vlF_nn w 0 hw (Int.le_refl _)
  rcases pkF_v l 0 hl (by decide) with ⟨h1, h2⟩ | ⟨h1, h2⟩
  · rw [h1]
    exact ⟨fun e => vlF_inj l.length l w (Nat.le_refl _) hl hw e, fun e => by rw [e]⟩
  · rw [h1]
    refine ⟨fun e => by omega, fun e => ?_⟩
    rw [e] at h2
    omega
