/-! one hour's contracts, in the words of 83 -/
section Hour2
variable {g : Option Nat} {d n : Nat} {P : xP} {M : xM} {F : xM → Int → Prop} {G : xM → Prop}
theorem k_passHour (hn : 82 ≤ n) (hP : x_PP P) {o : Option Nat} {ρ : Option xTx} (hR : clR n P M o ρ) {A N nm st : Int → Int} {fs : Int} (h : inv A (M 5) (M 4 1)) (hr : relN A N)
    (H : ∀ nm' st' fs', F (Lw (setA M 2 (cHour ρ (M 5) N)) nm' st' fs') (bi (cEnd (M 5) N))) : xCI Y_X0_passHour none (d + 4) [vR (some 1), vR (some 12), vR o] n P (Lw (setA M 2 N) nm st fs) F := by
  have e5 : A 13 = N 5 := rel_at hr (by omega) rfl
  have e6 : A 14 = N 6 := rel_at hr (by omega) rfl
  have e8 : A 16 = N 8 := rel_at hr (by omega) rfl
  have hco := h.2.2.2.2.1
  unfold court at hco
  rw [e5, e6, e8] at hco
  have ht := h.2.2.2.1
  unfold cHour cMid at H
  refine c_X0_passHour hn hP hR h.1 (inv_cOk h hr) (fun q0 q1 => told_kOk (ht _ q0 q1).1) (fun hno => ?_) (fun hc hl => ?_) (fun hc hl hf => ?_) (fun hc hl hf => ?_)
  · have h5 : N 5 = -1 := by
      rcases hco with ⟨hc1, _⟩ | ⟨c1, _, _⟩
      · exact hc1
      · exact absurd c1 hno
    have hne : ¬ cEnd (M 5) N := fun z => z.1 h5
    rw [if_neg hne, if_pos h5, bi_f hne] at H
    exact H
  · have hne : ¬ cEnd (M 5) N := fun z => by have := z.2; omega
    rw [if_neg hne, if_neg (by omega), bi_f hne] at H
    exact H
  · have hy : cEnd (M 5) N := ⟨by omega, by rcases hco with ⟨hc1, _⟩ | ⟨_, _, c3⟩ <;> omega⟩
    rw [if_pos hy, if_neg hf, bi_t hy] at H
    exact H
  · have hy : cEnd (M 5) N := ⟨by omega, by rcases hco with ⟨hc1, _⟩ | ⟨_, _, c3⟩ <;> omega⟩
    rw [if_pos hy, if_pos hf, bi_t hy] at H
    exact H
theorem k_pass (hn : 82 ≤ n) (hP : x_PP P) {ρ : Option xTx} (hR : rfR M (M 65 2) ρ) {K nm f h' : Int → Int} {fs m : Int} (h : inv (M 65) K m)
    (H : ∀ nm' f2 h2 fs', G (Rw (setA (x_upd M 64 29 (if rEnd (M 65) then x_wr (M 64 29 + 1) else M 64 29)) 65 (rHour ρ (M 65))) nm' f2 h2 fs')) : xCV Y_X10_pass g (d + 6) [vR (some 64)] n P (Rw M nm f h' fs) G := by
  have hm := h.1
  have hco := h.2.2.2.2.1
  have ht := h.2.2.2.1
  have h13 : M 65 13 = -1 ∨ (0 ≤ M 65 13 ∧ M 65 13 < 8) := by
    rcases hco with ⟨hc1, _⟩ | ⟨c1, _, _⟩
    · exact Or.inl hc1
    · exact Or.inr (by omega)
  have hk : 0 ≤ M 65 13 → rkOk (M 65) (M 65 13) := fun q => by
    rcases hco with ⟨hc1, _⟩ | ⟨c1, _, _⟩
    · exact absurd q (by omega)
    · have := ht _ c1.1 c1.2
      exact told_rkOk this.1 this.2
  have e0 : x_upd M 64 29 (M 64 29) = M := x_upd_self M 64 29
  unfold rHour rMid at H
  refine c_X10_pass hn hP hR (inv_rOk h) h13 hk (fun hc => ?_) (fun hc hl => ?_) (fun hc hl hf => ?_) (fun hc hl hf => ?_)
  · have hne : ¬ rEnd (M 65) := fun z => z.1 hc
    rw [if_neg hne, if_pos hc, if_neg hne, e0] at H
    exact H
  · have hne : ¬ rEnd (M 65) := fun z => hl z.2
    rw [if_neg hne, if_neg hc, if_neg hne, e0] at H
    exact H
  · have hy : rEnd (M 65) := ⟨hc, hl⟩
    rw [if_pos hy, if_neg hf, if_pos hy] at H
    exact H
  · have hy : rEnd (M 65) := ⟨hc, hl⟩
    rw [if_pos hy, if_pos hf, if_pos hy] at H
    exact H
end Hour2
