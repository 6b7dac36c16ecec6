/-! the class's scan -/
section Scan2
variable {g : Option Nat} {d n : Nat} {P : xP} {M : xM} {F : xM → Int → Prop} {G : xM → Prop}
/-- J tokens, then the end -/
abbrev tkJ (f : Int → Int) (L : Int) (J : Nat) : Prop := ps f L J = L ∧ (∀ j, j < J → ps f L j < L) ∧ J ≤ 300
theorem k_scan (hn : 82 ≤ n) (hP : x_PP P) (ht : tpC M) (H : ∀ M' J, offT M M' → tkJ (M 38) (M 37 1) J → tkS (M 38) (M 37 1) M' (J + 1) → G M') : xCV Y_X6_scan g (d + 8) [vR (some 37)] n P M G := by
  generalize hf : M 38 = f at *
  generalize hL : M 37 1 = L at *
  have loop : ∀ (m : Nat) (p : Int) (i : Int) (j : Nat) (N : xM), p + m = L → (0 ≤ i ∧ i ≤ p) → (j : Int) ≤ p → offT M N → tkS f L N j → rE spB f L p = ps f L j → (∀ q, q < j → ps f L q < L) → xW Y_X6_scan g (d + 8) 0 0 9 [(0, vR (some 37)), (1, vI p), (2, vI i)] [] (0, 0) (n, P, N) (kV n P G) := by
    intro m
    induction m using Nat.strongRecOn with
    | ind m ih =>
      intro p i j N hp hi hj oN hk he hlt
      have n38 : N 38 = f := by rw [oN.1 38 (by decide) (by decide)]; exact hf
      have n371 : N 37 1 = L := by rw [oN.2 1 (by decide)]; exact hL
      have fin : L ≤ p → xW Y_X6_scan g (d + 8) 0 0 93 [(0, vR (some 37))] [] (0, 0) (n, P, N) (kV n P G) := fun hlp => by
        have pj : ps f L j = L := by rw [← he, rE_stop (fun z => by omega)]; omega
        refine b_X6_scan_93 hn hP ?_
        rw [n371]
        refine k_addToken hn hP hk (by omega) pj.symm ?_ ?_ (fun M' o' t' => H M' j (offT_trans oN o') ⟨pj, hlt, by omega⟩ t')
        · unfold kd; rw [if_pos (by omega)]
        · unfold vl; rw [if_neg (fun z => by omega)]
      refine b_X6_scan_9 hn hP ⟨fun q => fin (by omega), fun q => ⟨fun q2 => fin (by omega), fun q2 => ⟨by omega, fun sp => ?_, fun nsp => ⟨fun nnl => ?_, fun nl => ?_⟩⟩⟩⟩
      · rw [n38] at sp
        refine b_X6_scan_43 hn hP ⟨by unfold inR; omega, b_X6_scan_87 hn hP ⟨by unfold inR; omega, ih (m - 1) (by omega) (p + 1) (i + 1) j N (by omega) (by omega) (by omega) oN hk ?_ hlt⟩⟩
        rw [← rE_go (by omega) (spB_t.mpr (Or.inl sp))]
        exact he
      · rw [n38] at nsp nnl ⊢
        have pp : ps f L j = p := by rw [← he]; exact rE_stop (fun z => by rcases spB_t.mp z.2 with w | w; exact nsp w; exact nnl w)
        have plt : ps f L j < L := by omega
        have er := en_r (f := f) plt
        have nx : ∀ N', offT N N' → tkS f L N' (j + 1) → xW Y_X6_scan g (d + 8) 0 0 87 [(0, vR (some 37)), (1, vI (en f L (ps f L j))), (2, vI i)] [] (0, 0) (n, P, N') (kV n P G) := fun N' o' t' => b_X6_scan_87 hn hP ⟨by unfold inR; omega, ih (L - en f L (ps f L j)).toNat (by omega) (en f L (ps f L j)) (i + 1) (j + 1) N' (by omega) (by omega) (by omega) (offT_trans oN o') t' rfl (fun q hq => by
          by_cases e : q = j
          · subst e; exact plt
          · exact hlt q (by omega))⟩
        have tN : tpC N := ⟨by rw [n371, ← hL]; exact ht.1, fun q q0 q1 => by rw [n371, ← hL] at q1; rw [n38, ← hf]; exact ht.2 q q0 q1⟩
        have hk' : tkS (N 38) (N 37 1) N j := by rw [n38, n371]; exact hk
        refine c_X6_isLetter hn ⟨fun z => c_X6_isDigit hn ⟨fun z2 => ?_, fun z2 => ?_⟩, fun z => ?_⟩
        · have := k_scanSign (g := g) (d := d + 6) (F := fun M3 z3 => xW Y_X6_scan g (d + 8) 0 0 87 [(0, vR (some 37)), (1, vI z3), (2, vI i)] [] (0, 0) (n, P, M3) (kV n P G)) hn hP tN hk' (by omega) (by rw [n38, n371]; exact plt) (by rw [n38, n371, pp]; exact bi_0.mp z) (by rw [n38, n371, pp]; exact bi_0.mp z2) (fun M' o' t' => by rw [n38, n371] at t' ⊢; exact nx M' o' t')
          rw [n38, n371, pp] at this
          exact this
        · have := k_scanNumber (g := g) (d := d + 6) (F := fun M3 z3 => xW Y_X6_scan g (d + 8) 0 0 87 [(0, vR (some 37)), (1, vI z3), (2, vI i)] [] (0, 0) (n, P, M3) (kV n P G)) hn hP tN hk' (by omega) (by rw [n38, n371]; exact plt) (by rw [n38, n371, pp]; exact bi_0.mp z) (by rw [n38, n371, pp]; exact bi_n0.mp z2) (fun M' o' t' => by rw [n38, n371] at t' ⊢; exact nx M' o' t')
          rw [n38, n371, pp] at this
          exact this
        · have := k_scanWord (g := g) (d := d) (F := fun M3 z3 => xW Y_X6_scan g (d + 8) 0 0 87 [(0, vR (some 37)), (1, vI z3), (2, vI i)] [] (0, 0) (n, P, M3) (kV n P G)) hn hP tN hk' (by omega) (by rw [n38, n371]; exact plt) (by rw [n38, n371, pp]; exact bi_n0.mp z) (fun M' o' t' => by rw [n38, n371] at t' ⊢; exact nx M' o' t')
          rw [n38, n371, pp] at this
          exact this
      · rw [n38] at nl
        refine b_X6_scan_43 hn hP ⟨by unfold inR; omega, b_X6_scan_87 hn hP ⟨by unfold inR; omega, ih (m - 1) (by omega) (p + 1) (i + 1) j N (by omega) (by omega) (by omega) oN hk ?_ hlt⟩⟩
        rw [← rE_go (by omega) (spB_t.mpr (Or.inr nl))]
        exact he
  have o1 : offT M (x_upd M 37 5 0) := ⟨fun c h1 h2 => by funext q; exact x_upd_nb h1, fun k hk => x_upd_nj hk⟩
  exact b_X6_scan hn hP (loop L.toNat 0 0 0 _ (by omega) (by omega) (by omega) o1 ⟨x_upd_at _ _ _ _, fun i hi => absurd hi (by omega)⟩ rfl (fun q hq => absurd hq (by omega)))
end Scan2
