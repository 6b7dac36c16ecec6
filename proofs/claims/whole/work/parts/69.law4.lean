/-! the class's law: one hour's turn; judgment -/
theorem wn_0 (h q f x : Int) : wn h q f x 0 = h := if_pos rfl
theorem wn_1 (h q f x : Int) : wn h q f x 1 = q := rfl
theorem wn_2 (h q f x : Int) : wn h q f x 2 = f := rfl
theorem wn_3 (h q f x : Int) : wn h q f x 3 = x := rfl
def popc (a : Int) : Int := x_and (x_shr a 0) 1 + x_and (x_shr a 1) 1 + x_and (x_shr a 2) 1 + x_and (x_shr a 3) 1 + x_and (x_shr a 4) 1 + x_and (x_shr a 5) 1 + x_and (x_shr a 6) 1 + x_and (x_shr a 7) 1
section Law4
variable {g : Option Nat} {d n : Nat} {P : xP} {M : xM} {F : xM → Int → Prop} {G : xM → Prop}
theorem c_X2_turn (hn : 82 ≤ n) (hP : x_PP P) {N : Int} {u : Nat} (hA : x_cell n u 0 N) (hN : 5 ≤ N ∧ N ≤ 1000) (hu : u < 12 ∨ (14 < u ∧ u < 43)) {o : Option Nat} {ρ : Option xTx} (hR : clR n P M o ρ) {nm st : Int → Int} {fs x : Int} (hx : 0 ≤ x ∧ x ≤ 9) (h3 : 0 ≤ M u 3 ∧ M u 3 < 20000) (h0 : 0 ≤ M u 0 ∧ M u 0 < 4) (h1 : 0 ≤ M u 1 ∧ M u 1 ≤ 9)
    (H : ∀ nm' st', G (Lw (x_upd (x_upd (x_upd (x_upd M u 3 (M u 3 + 1)) u 0 (tq ρ (M u 3 + 1) (M u 0) (M u 1) x)) u 1 (tf ρ (M u 3 + 1) (M u 0) (M u 1) x)) u 2 (tg ρ (M u 3 + 1) (M u 0) (M u 1) x)) nm' st' fs)) :
    xCV Y_X2_turn g (d + 3) [vR (some 12), vR (some u), vR o, vI x] n P (Lw M nm st fs) G := by
  have okr := clR_ok hR
  have e : ∀ (M' : xM) nm' st' fs', Lw M' nm' st' fs' u = M' u := fun _ _ _ _ => Lw_ne (by omega) (by omega) (by omega)
  have eu : ∀ (M' : xM) nm' st' fs' i v, x_upd (Lw M' nm' st' fs') u i v = Lw (x_upd M' u i v) nm' st' fs' := fun _ _ _ _ _ _ => Lw_u (by omega) (by omega) (by omega)
  refine b_X2_turn hn hP hA ⟨by unfold inR; omega, fun _ => ⟨by omega, by rw [e]; unfold inR; omega, by omega, by omega, by omega, by omega, ?_⟩, fun h => absurd hN.1 h⟩
  rw [e, eu, e, x_upd_at, x_upd_nj (by decide), x_upd_nj (by decide)]
  refine c_X2_seeWind hn hP ⟨by omega, ?_⟩
  rw [Lw_u13]
  generalize hh : M u 3 + 1 = h at *
  generalize hq : M u 0 = q at *
  generalize hf : M u 1 = f at *
  have hq' := tq_r ρ (h := h) (f := f) (x := x) h0
  have v4 : veer ρ (up (up (up (up nm 0 h) 1 q) 2 f) 3 x) = veer ρ (wn h q f x) := veer_congr okr rfl rfl rfl rfl
  refine c_X2_veered hn hP (clR_upd (by omega) hR) (okN_w (by omega) (by show -1000000 ≤ h ∧ h ≤ 1000000; omega) h0 h1 hx) (fun st1 => ?_)
  have hv := veer_r ρ (wn h q f x)
  rw [e, x_upd_nj (by decide), hq, v4]
  refine ⟨by unfold inR; omega, c_fm hn (by omega) ⟨by omega, by omega, ?_⟩⟩
  rw [show (q + veer ρ (wn h q f x) + 4).tmod 4 = tq ρ h q f x from rfl, eu, e, x_upd_at, Lw_u13]
  generalize hq2 : tq ρ h q f x = q' at *
  have v5 : blow ρ (up (up (up (up (up nm 0 h) 1 q) 2 f) 3 x) 1 q') = blow ρ (wn h q' f x) := blow_congr okr rfl rfl rfl rfl
  refine c_X2_blown hn hP (clR_upd (by omega) (clR_upd (by omega) hR)) (okN_w (by omega) (by show -1000000 ≤ h ∧ h ≤ 1000000; omega) hq' h1 hx) (fun st2 => ?_)
  have hf' := blow_r ρ (nm := wn h q' f x) hx
  rw [v5, eu, e, x_upd_at, Lw_u13]
  refine ⟨by omega, by omega, ?_⟩
  have hf2 : tf ρ h q f x = blow ρ (wn h q' f x) := by unfold tf; rw [hq2]
  generalize hfv : blow ρ (wn h q' f x) = f' at *
  have v6 : fogg ρ (up (up (up (up (up (up nm 0 h) 1 q) 2 f) 3 x) 1 q') 2 f') = fogg ρ (wn h q' f' x) := fogg_congr okr rfl rfl rfl rfl
  have hg2 : tg ρ h q f x = fogg ρ (wn h q' f' x) := by unfold tg; rw [hf2, hq2]
  rw [hf2, hg2] at H
  have ok6 : okN 6 (wn h q' f' x) := okN_w (by omega) (by show -1000000 ≤ h ∧ h ≤ 1000000; omega) hq' hf' hx
  refine c_X2_isFoggy hn hP (clR_upd (by omega) (clR_upd (by omega) (clR_upd (by omega) hR))) (okN_w (by omega) (by show -1000000 ≤ h ∧ h ≤ 1000000; omega) hq' hf' hx) (fun st3 => ?_)
  rw [v6, eu, eu]
  rcases fogg_r okr ok6 with e6 | e6
  · rw [e6] at H ⊢
    exact ⟨fun _ => ⟨by omega, H _ _⟩, fun h => absurd rfl h⟩
  · rw [e6] at H ⊢
    exact ⟨fun h => absurd h (by decide), fun _ => ⟨by omega, H _ _⟩⟩
end Law4
