/-! leastFacts -/
theorem x_xor_r {a b : Int} (ha : 0 ≤ a ∧ a < 256) (hb : 0 ≤ b ∧ b < 256) : 0 ≤ x_xor a b ∧ x_xor a b < 256 := by
  unfold x_xor
  rw [xb_of ha.1, xb_of hb.1]
  have h : (nI a.toNat ^^^ nI b.toNat).toBitVec.toNat < 2 ^ 8 := by
    rw [Int32.toBitVec_xor, BitVec.toNat_xor, xb_tn (by omega), xb_tn (by omega)]
    exact Nat.xor_lt_two_pow (by omega) (by omega)
  rw [xb_ti (x := nI a.toNat ^^^ nI b.toNat) rfl (by omega)]
  omega
theorem x_and_r {a b : Int} (ha : 0 ≤ a ∧ a < 256) (hb : 0 ≤ b ∧ b < 256) : 0 ≤ x_and a b ∧ x_and a b < 256 := by
  rw [x_and_nat (by omega) (by omega)]
  have := @Nat.and_le_left a.toNat b.toNat
  omega
theorem x_or_r8 {a b : Int} (ha : 0 ≤ a ∧ a < 256) (hb : 0 ≤ b ∧ b < 256) : 0 ≤ x_or a b ∧ x_or a b < 256 := by
  rw [x_or_nat (by omega) (by omega)]
  have := Nat.or_lt_two_pow (n := 8) (show a.toNat < 2 ^ 8 by omega) (show b.toNat < 2 ^ 8 by omega)
  omega
abbrev in8 (x : Int) : Prop := 0 ≤ x ∧ x < 256
abbrev lsB (v x : Int) : Prop := popc v < popc x ∨ (popc v = popc x ∧ v ≤ x)
/-- the least of those below k -/
def lsK (p : Int → Prop) (k z : Int) : Prop := (z = -1 ∧ ∀ x, 0 ≤ x → x < k → ¬ p x) ∨ ((0 ≤ z ∧ z < k) ∧ p z ∧ ∀ x, 0 ≤ x → x < k → p x → lsB z x)
theorem lsK_uniq {p : Int → Prop} {k z z' : Int} (h : lsK p k z) (h' : lsK p k z') : z = z' := by
  rcases h with ⟨h1, h2⟩ | ⟨h1, h2, h3⟩
  · rcases h' with ⟨g1, g2⟩ | ⟨g1, g2, g3⟩
    · omega
    · exact absurd g2 (h2 z' g1.1 g1.2)
  · rcases h' with ⟨g1, g2⟩ | ⟨g1, g2, g3⟩
    · exact absurd h2 (g2 z h1.1 h1.2)
    · have a := h3 z' g1.1 g1.2 g2
      have b := g3 z h1.1 h1.2 h2
      omega
theorem lsK_sub {p : Int → Prop} {k z : Int} (hp : ∀ x, in8 x → p x → in8 (x_and x k) ∧ p (x_and x k)) (h : lsK (fun x => p x ∧ x_and x (x_xor k (-1)) = 0) 256 z) : lsK p 256 z := by
  have sb : ∀ x, x_and (x_and x k) (x_xor k (-1)) = 0 := fun x => by
    rw [sub_iff]
    intro i hi hb
    rw [bX_and] at hb
    revert hb
    cases bX x i <;> cases bX k i <;> decide
  rcases h with ⟨h1, h2⟩ | ⟨h1, h2, h3⟩
  · refine Or.inl ⟨h1, fun x x0 x1 hx => ?_⟩
    obtain ⟨r, q⟩ := hp x ⟨x0, x1⟩ hx
    exact h2 _ r.1 r.2 ⟨q, sb x⟩
  · refine Or.inr ⟨h1, h2.1, fun x x0 x1 hx => ?_⟩
    by_cases hs : x_and x (x_xor k (-1)) = 0
    · exact h3 x x0 x1 ⟨hx, hs⟩
    · obtain ⟨r, q⟩ := hp x ⟨x0, x1⟩ hx
      have a := h3 _ r.1 r.2 ⟨q, sb x⟩
      have b := popc_and ⟨x0, x1⟩ hs
      show popc z < popc x ∨ _
      have a' : popc z < popc (x_and x k) ∨ (popc z = popc (x_and x k) ∧ z ≤ x_and x k) := a
      omega
theorem clF_congr {ρ : Option xTx} {A : Int → Int} {c fs fs' : Int} (h : ∀ q, 0 ≤ q → q < 4 → gC ρ A q c fs = gC ρ A q c fs') : ∀ q : Nat, q ≤ 4 → clF ρ A c fs q = clF ρ A c fs' q
  | 0, _ => rfl
  | q + 1, hq => by
    show (if gC ρ A q c fs = 0 then clF ρ A c fs q else x_or (clF ρ A c fs q) (x_shl 1 q)) = (if gC ρ A q c fs' = 0 then clF ρ A c fs' q else x_or (clF ρ A c fs' q) (x_shl 1 q))
    rw [h q (by omega) (by omega), clF_congr h q (by omega)]
/-- all codes alike when the facts x are turned -/
abbrev lkP (ρ : Option xTx) (A : Int → Int) (c x : Int) : Prop := clF ρ A c (x_xor (A (20 + 7 * c + 3)) x) 4 = 0 ∨ clF ρ A c (x_xor (A (20 + 7 * c + 3)) x) 4 = 15
theorem ask_r {M : xM} {τ : Int} {ρ : Option xTx} (hρ : rho M τ ρ) : in8 (ask M τ) := by
  unfold ask
  by_cases h : τ < 0
  · rw [if_pos h]; exact ⟨by decide, by decide⟩
  · rw [if_neg h]
    obtain ⟨T, e, h4, hT⟩ := hρ.2 (by omega)
    exact x_or_r8 hT.2.2.2.2.1 ⟨by decide, by decide⟩
theorem lkP_and {M : xM} {ρ : Option xTx} {τ : Int} (hρ : rho M τ ρ) {A : Int → Int} {c x : Int} (hx : in8 x) (h : lkP ρ A c x) : in8 (x_and x (ask M τ)) ∧ lkP ρ A c (x_and x (ask M τ)) := by
  refine ⟨x_and_r hx (ask_r hρ), ?_⟩
  have e : clF ρ A c (x_xor (A (20 + 7 * c + 3)) x) 4 = clF ρ A c (x_xor (A (20 + 7 * c + 3)) (x_and x (ask M τ))) 4 := clF_congr (fun q q0 q1 => gui_fact hρ ⟨q0, q1⟩ (fun i hi hb => by
    rw [bX_xor, bX_xor, bX_and, hb, Bool.and_true])) 4 (by omega)
  unfold lkP
  rw [← e]
  exact h
section Least3
variable {g : Option Nat} {d n : Nat} {P : xP} {M : xM} {F : xM → Int → Prop} {G : xM → Prop}
theorem q_least (hn : 82 ≤ n) (hP : x_PP P) {ρ : Option xTx} {c : Int} (hρ : rho M (M 65 2) ρ) (h : oka (M 65)) (H0 : ¬ (0 ≤ c ∧ c < M 65 0) → F M (-1)) (H1 : (0 ≤ c ∧ c < M 65 0) → ∀ z M', lsK (lkP ρ (M 65) c) 256 z → offR M M' → M' 65 = M 65 → F M' z) : xCI Y_X10_leastFacts g (d + 5) [vR (some 64), vI c] n P M F := by
  obtain ⟨K, hI⟩ := oka_inv h
  refine b_X10_leastFacts hn hP (c_X10_isCase hn hP hI.1 ⟨fun hz => ?_, fun hz => H0 (bi_0.mp hz)⟩)
  have hc := bi_n0.mp hz
  obtain ⟨c8, t0, t1, t2, t3⟩ := oka_told h hc
  have HH := H1 hc
  have loop : ∀ (m : Nat) (k z : Int), k + m = 256 → 0 ≤ k → lsK (lkP ρ (M 65) c) k z → ∀ N, offR M N → N 65 = M 65 → xW Y_X10_leastFacts g (d + 5) 0 0 14 [(0, vR (some 64)), (1, vI c), (2, vI z), (3, vI k)] [] (0, 0) (n, P, N) (kI n P F) := by
    intro m
    induction m with
    | zero =>
      intro k z hk k0 hl N oN eN
      have : k = 256 := by omega
      subst this
      exact b_X10_leastFacts_14 hn hP ⟨fun _ => HH z N hl oN eN, fun q => absurd (Int.le_refl _) q⟩
    | succ m ih =>
      intro k z hk k0 hl N oN eN
      have skip : ∀ N', offR M N' → N' 65 = M 65 → lsK (lkP ρ (M 65) c) (k + 1) z → xW Y_X10_leastFacts g (d + 5) 0 0 69 [(0, vR (some 64)), (1, vI c), (2, vI z), (3, vI k)] [] (0, 0) (n, P, N') (kI n P F) := fun N' o' e' hl' => b_X10_leastFacts_69 hn hP ⟨by unfold inR; omega, ih (k + 1) z (by omega) (by omega) hl' N' o' e'⟩
      have ask1 : (z = -1 ∨ popc k < popc z) → xW Y_X10_leastFacts g (d + 5) 0 0 40 [(0, vR (some 64)), (1, vI c), (2, vI z), (3, vI k)] [] (0, 0) (n, P, N) (kI n P F) := fun hz' => by
        refine b_X10_leastFacts_40 hn hP (c_X10_get hn hP c8 (by omega) ?_)
        rw [eN]
        refine q_clashOf hn hP (ρ := ρ) (by rw [eN]; exact h) (by rw [eN]; exact rho_R oN hρ) (by rw [eN]; exact hc) (x_xor_r t3 (by omega)) (fun N2 o2 => ?_)
        have oN2 := offR_trans oN (offL_R o2)
        have eN2 : N2 65 = M 65 := (o2.1 65 (by decide) (by decide)).trans eN
        rw [eN]
        have take : lkP ρ (M 65) c k → xW Y_X10_leastFacts g (d + 5) 0 0 67 [(0, vR (some 64)), (1, vI c), (3, vI k)] [] (0, 0) (n, P, N2) (kI n P F) := fun hk' => b_X10_leastFacts_67 hn hP (b_X10_leastFacts_69 hn hP ⟨by unfold inR; omega, ih (k + 1) k (by omega) (by omega) (Or.inr ⟨by omega, hk', fun x x0 x1 hx => by
          by_cases xk : x = k
          · subst xk; exact Or.inr ⟨rfl, Int.le_refl _⟩
          · rcases hl with ⟨g1, g2⟩ | ⟨g1, g2, g3⟩
            · exact absurd hx (g2 x x0 (by omega))
            · have := g3 x x0 (by omega) hx
              rcases hz' with hz' | hz'
              · omega
              · exact Or.inl (by omega)⟩) N2 oN2 eN2⟩)
        have no : ¬ lkP ρ (M 65) c k → lsK (lkP ρ (M 65) c) (k + 1) z := fun hk' => by
          rcases hl with ⟨g1, g2⟩ | ⟨g1, g2, g3⟩
          · exact Or.inl ⟨g1, fun x x0 x1 hx => by
              by_cases xk : x = k
              · subst xk; exact hk' hx
              · exact g2 x x0 (by omega) hx⟩
          · exact Or.inr ⟨by omega, g2, fun x x0 x1 hx => by
              by_cases xk : x = k
              · subst xk; exact absurd hx hk'
              · exact g3 x x0 (by omega) hx⟩
        exact ⟨fun q => take (Or.inl q), fun q => ⟨fun q2 => skip N2 oN2 eN2 (no (fun z => by rcases z with z | z; exact q z; exact q2 z)), fun q2 => take (Or.inr q2)⟩⟩
      refine b_X10_leastFacts_14 hn hP ⟨fun q => absurd q (by omega), fun _ => ⟨fun q => ask1 (Or.inl q), fun q => c_X10_bits hn (c_X10_bits hn ⟨fun q2 => ask1 (Or.inr q2), fun q2 => skip N oN eN ?_⟩)⟩⟩
      rcases hl with ⟨g1, g2⟩ | ⟨g1, g2, g3⟩
      · exact absurd g1 q
      · exact Or.inr ⟨by omega, g2, fun x x0 x1 hx => by
          by_cases xk : x = k
          · subst xk
            show popc z < popc x ∨ (popc z = popc x ∧ z ≤ x)
            omega
          · exact g3 x x0 (by omega) hx⟩
  exact loop 256 0 (-1) (by omega) (by omega) (Or.inl ⟨rfl, fun x x0 x1 => absurd x1 (by omega)⟩) M (offR_refl M) rfl
theorem k_least (hn : 82 ≤ n) (hP : x_PP P) {A : Int → Int} {ρ : Option xTx} {c k : Int} (h : relC A (CC M)) (hρ : rho M (A 2) ρ) (hc : 0 ≤ c ∧ c < A 0) (H : ∀ z M', lsK (fun x => lkP ρ A c x ∧ x_and x (x_xor k (-1)) = 0) 256 z → offW M M' → F M' z) : xW Y_X9_leastFacts g (d + 5) 0 0 48 [(0, vR (some 0)), (1, vI c), (2, vI (A (20 + 7 * c + 3)))] [vI k] (0, 0) (n, P, M) (kI n P F) := by
  let p : Int → Prop := fun x => lkP ρ A c x ∧ x_and x (x_xor k (-1)) = 0
  have loop2 : ∀ (u : Int), (0 ≤ u ∧ u ≤ 8) → (∀ x, 0 ≤ x → x < 256 → p x → u ≤ popc x) → (∀ N, offW M N → (∀ x, 0 ≤ x → x < 256 → p x → u + 1 ≤ popc x) → xW Y_X9_leastFacts g (d + 5) 0 0 53 [(0, vR (some 0)), (1, vI c), (2, vI (A (20 + 7 * c + 3))), (4, vI k), (5, vI (u + 1))] [] (0, 0) (n, P, N) (kI n P F)) → ∀ (m : Nat) (s : Int), s + m = 256 → 0 ≤ s → (∀ x, 0 ≤ x → x < s → p x → u + 1 ≤ popc x) → ∀ N, offW M N → xW Y_X9_leastFacts g (d + 5) 0 0 63 [(0, vR (some 0)), (1, vI c), (2, vI (A (20 + 7 * c + 3))), (4, vI k), (5, vI u), (6, vI s)] [] (0, 0) (n, P, N) (kI n P F) := by
    intro u hu hlo nxt m
    induction m with
    | zero =>
      intro s hs s0 hb N oN
      have : s = 256 := by omega
      subst this
      exact b_X9_leastFacts_63 hn hP ⟨fun _ => ⟨by unfold inR; omega, nxt N oN hb⟩, fun q => absurd (Int.le_refl _) q⟩
    | succ m ih =>
      intro s hs s0 hb N oN
      have skip : ∀ N', offW M N' → (p s → u + 1 ≤ popc s) → xW Y_X9_leastFacts g (d + 5) 0 0 106 [(0, vR (some 0)), (1, vI c), (2, vI (A (20 + 7 * c + 3))), (4, vI k), (5, vI u), (6, vI s)] [] (0, 0) (n, P, N') (kI n P F) := fun N' o' q => b_X9_leastFacts_106 hn hP ⟨by unfold inR; omega, ih (s + 1) (by omega) (by omega) (fun x x0 x1 hx => by
        by_cases xs : x = s
        · subst xs; exact q hx
        · exact hb x x0 (by omega) hx) N' o'⟩
      refine b_X9_leastFacts_63 hn hP ⟨fun q => absurd q (by omega), fun _ => ⟨fun q => skip N oN (fun z => absurd z.2 q), fun q => c_J6_bitCount hn (by omega) ⟨fun q2 => skip N oN (fun z => by have := hlo s s0 (by omega) z; omega), fun q2 => b_X9_allAlike hn hP (k_guiltyCodes hn hP (relC_same h (offW_k oN)) (rho_C (offW_C oN) hρ) hc (fun N2 o2 => ?_))⟩⟩⟩
      have o12 : offW M N2 := fun b hb => (o2 b hb).trans (oN b hb)
      have hit : lkP ρ A c s → F N2 s := fun hk => H s N2 (Or.inr ⟨by omega, ⟨hk, q⟩, fun x x0 x1 hx => by
        show popc s < popc x ∨ (popc s = popc x ∧ s ≤ x)
        have := hlo x x0 x1 hx
        by_cases xs : x < s
        · have := hb x x0 xs hx
          omega
        · omega⟩) o12
      exact ⟨fun z => ⟨fun z2 => absurd z2 (by decide), fun _ => hit (Or.inl z)⟩, fun z => ⟨fun z2 => ⟨fun _ => skip N2 o12 (fun w => by rcases w.1 with w | w; exact absurd w z; exact absurd w z2), fun w => absurd rfl w⟩, fun z2 => ⟨fun w => absurd w (by decide), fun _ => hit (Or.inr z2)⟩⟩⟩
  have loop : ∀ (m : Nat) (u : Int), u + m = 9 → 0 ≤ u → (∀ x, 0 ≤ x → x < 256 → p x → u ≤ popc x) → ∀ N, offW M N → xW Y_X9_leastFacts g (d + 5) 0 0 53 [(0, vR (some 0)), (1, vI c), (2, vI (A (20 + 7 * c + 3))), (4, vI k), (5, vI u)] [] (0, 0) (n, P, N) (kI n P F) := by
    intro m
    induction m with
    | zero =>
      intro u hu u0 hlo N oN
      refine b_X9_leastFacts_53 hn hP ⟨fun _ => H (-1) N (Or.inl ⟨rfl, fun x x0 x1 hx => ?_⟩) oN, fun q => absurd (by omega) q⟩
      have := hlo x x0 x1 hx
      have := popc_r x
      omega
    | succ m ih =>
      intro u hu u0 hlo N oN
      exact b_X9_leastFacts_53 hn hP ⟨fun q => absurd q (by omega), fun _ => loop2 u (by omega) hlo (fun N' o' q => ih (u + 1) (by omega) (by omega) q N' o') 256 0 (by omega) (by omega) (fun x x0 x1 => absurd x1 (by omega)) N oN⟩
  exact b_X9_leastFacts_48 hn hP (loop 9 0 (by omega) (by omega) (fun x _ _ _ => (popc_r x).1) M (fun _ _ => rfl))
theorem op_leastFacts (hn : 82 ≤ n) (hP : x_PP P) {c : Int} (h : Rel M) : op2 n P Y_X9_leastFacts Y_X10_leastFacts (d + 100) [vI c] M := by
  obtain ⟨ρ, hρ⟩ := Rel_rul h
  have ok := Rel_oka h
  have a0 : M 65 0 = M 4 1 := h.1.1.1
  have a1 : M 65 1 = M 1 8 := h.1.1.2.1
  have a2 : M 65 2 = M 1 9 := h.1.1.2.2.1
  have hm := h.1.2.2.2.1.1
  refine b_X9_leastFacts hn hP (c_X5_has hn hP (x_rows4 hn hP) (by omega) ?_)
  rw [← a0]
  refine ⟨fun hz => ?_, fun hz => op_q h (offC_refl M) (fun _ _ _ => rfl) (fun F HF => q_least hn hP hρ ok (fun _ => HF M (offR_refl M) rfl) (fun q => absurd q (bi_0.mp hz)))⟩
  have hc := bi_n0.mp hz
  obtain ⟨c8, t0, t1, t2, t3⟩ := oka_told ok hc
  obtain ⟨k0, k1, k2, k3⟩ := relC_told h.1 hc
  refine c_X5_at hn hP (x_rows4 hn hP) (by omega) (by omega) (by omega) ?_
  rw [show M (4 + 1) (4 * c + 3) = M 65 (20 + 7 * c + 3) from k3.symm]
  have main : ∀ k, k = ask M (M 65 2) → xW Y_X9_leastFacts none (d + 100) 0 0 48 [(0, vR (some 0)), (1, vI c), (2, vI (M 65 (20 + 7 * c + 3)))] [vI k] (0, 0) (n, P, M) (kI n P (fun M1 z1 => xCI Y_X10_leastFacts none (d + 100) [vR (some 64), vI c] n P M1 (fun M2 z2 => z2 = z1 ∧ Rel M2))) := fun k hk => by
    refine k_least (d := d + 95) hn hP h.1 hρ hc (fun z M1 hl o1 => ?_)
    subst hk
    have oC := offW_C o1
    have e65 := offC_65 oC
    have hl2 := lsK_sub (fun x hx hp => lkP_and hρ hx hp) hl
    refine op_q h oC (offW_k o1) (fun F HF => q_least (ρ := ρ) hn hP (by rw [e65]; exact rho_C oC hρ) (by rw [e65]; exact ok) (fun q => absurd (by rw [e65]; exact hc) q) (fun _ z' M' hl' o' e' => ?_))
    rw [e65] at hl'
    rw [lsK_uniq hl' hl2]
    exact HF M' o' e'
  obtain ⟨r1, r2, _⟩ := h.1.2.1
  refine b_X9_ruling hn hP (b_X9_isText hn hP ?_)
  rw [← a1, ← a2]
  refine ⟨fun h0 => ⟨fun _ => ⟨fun _ => main 1 ?_, fun t q => nomatch q⟩, fun z => absurd rfl z⟩, fun h0 => ⟨fun h1 => absurd h1 (by omega), fun _ => ⟨fun h1 => absurd h1 (by omega), fun _ => ⟨fun z => absurd z (by decide), fun _ => ⟨_, ⟨by omega, (x_txt hn hP (by omega)).1, (x_txt hn hP (by omega)).2⟩, (fun q => nomatch q), fun t q => ?_⟩⟩⟩⟩⟩
  · unfold ask
    rw [if_pos h0]
  · cases q
    refine ⟨(x_txt hn hP (by omega)).2, main _ ?_⟩
    unfold ask
    rw [if_neg h0]
end Least3
