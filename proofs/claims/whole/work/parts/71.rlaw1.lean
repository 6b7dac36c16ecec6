/-! the reference's law: its cells -/
def Rw (M : xM) (nm f h : Int → Int) (fs : Int) : xM := setA (setA (setA (x_upd M 64 26 fs) 71 nm) 72 f) 73 h
theorem Rw_73 (M : xM) (nm f h : Int → Int) (fs : Int) : Rw M nm f h fs 73 = h := setA_at _ _ _
theorem Rw_72 (M : xM) (nm f h : Int → Int) (fs : Int) : Rw M nm f h fs 72 = f := by
  unfold Rw
  rw [setA_ne (by decide), setA_at]
theorem Rw_71 (M : xM) (nm f h : Int → Int) (fs : Int) : Rw M nm f h fs 71 = nm := by
  unfold Rw
  rw [setA_ne (by decide), setA_ne (by decide), setA_at]
theorem Rw_26 (M : xM) (nm f h : Int → Int) (fs : Int) : Rw M nm f h fs 64 26 = fs := by
  unfold Rw
  rw [setA_ne (by decide), setA_ne (by decide), setA_ne (by decide), x_upd_at]
theorem Rw_64 {M : xM} {nm f h : Int → Int} {fs j : Int} (hj : j ≠ 26) : Rw M nm f h fs 64 j = M 64 j := by
  unfold Rw
  rw [setA_ne (by decide), setA_ne (by decide), setA_ne (by decide), x_upd_nj hj]
theorem Rw_ne {M : xM} {nm f h : Int → Int} {fs : Int} {c : Nat} (h1 : c ≠ 64) (h2 : c ≠ 71) (h3 : c ≠ 72) (h4 : c ≠ 73) : Rw M nm f h fs c = M c := by
  unfold Rw
  rw [setA_ne h4, setA_ne h3, setA_ne h2]
  funext j
  exact x_upd_nb h1
theorem setA_comm {M : xM} {b c : Nat} (h : b ≠ c) (f f' : Int → Int) : setA (setA M b f) c f' = setA (setA M c f') b f := by
  funext a j
  unfold setA
  by_cases h1 : a = c
  · rw [if_pos h1, if_neg (fun z => h (z.symm.trans h1)), if_pos h1]
  · rw [if_neg h1]
    by_cases h2 : a = b
    · rw [if_pos h2, if_pos h2]
    · rw [if_neg h2, if_neg h2, if_neg h1]
theorem Rw_S2 (M : xM) (nm f h f' h' : Int → Int) (fs : Int) : S2 (Rw M nm f h fs) f' h' = Rw M nm f' h' fs := by
  unfold S2 Rw
  rw [setA_comm (by decide) h f', setA_setA, setA_setA]
theorem x_upd_set_ne {M : xM} {b c : Nat} {f : Int → Int} {i v : Int} (h : c ≠ b) : x_upd (setA M b f) c i v = setA (x_upd M c i v) b f := by
  funext a j
  unfold x_upd setA
  dsimp only
  by_cases h1 : a = b
  · rw [if_neg (fun z => h (z.1.symm.trans h1)), if_pos h1, if_pos h1]
  · rw [if_neg h1, if_neg h1]
theorem Rw_u71 (M : xM) (nm f h : Int → Int) (fs i v : Int) : x_upd (Rw M nm f h fs) 71 i v = Rw M (up nm i v) f h fs := by
  unfold Rw
  rw [x_upd_set_ne (by decide), x_upd_set_ne (by decide), x_upd_setA]
  rfl
theorem x_upd_swap {M : xM} {c c' : Nat} {i i' v w : Int} (h : ¬ (c = c' ∧ i = i')) : x_upd (x_upd M c i v) c' i' w = x_upd (x_upd M c' i' w) c i v := by
  funext a j
  unfold x_upd
  by_cases h1 : a = c' ∧ j = i'
  · rw [if_pos h1, if_neg (fun z => h ⟨z.1.symm.trans h1.1, z.2.symm.trans h1.2⟩), if_pos h1]
  · rw [if_neg h1]
    by_cases h2 : a = c ∧ j = i
    · rw [if_pos h2, if_pos h2]
    · rw [if_neg h2, if_neg h2, if_neg h1]
theorem Rw_u26 (M : xM) (nm f h : Int → Int) (fs v : Int) : x_upd (Rw M nm f h fs) 64 26 v = Rw M nm f h v := by
  unfold Rw
  rw [x_upd_set_ne (by decide), x_upd_set_ne (by decide), x_upd_set_ne (by decide), x_upd_upd]
theorem Rw_u {M : xM} {nm f h : Int → Int} {fs : Int} {c : Nat} {i v : Int} (h1 : ¬ (64 = c ∧ 26 = i)) (h2 : c ≠ 71) (h3 : c ≠ 72) (h4 : c ≠ 73) : x_upd (Rw M nm f h fs) c i v = Rw (x_upd M c i v) nm f h fs := by
  unfold Rw
  rw [x_upd_set_ne h4, x_upd_set_ne h3, x_upd_set_ne h2, x_upd_swap h1]
theorem x_upd_self (M : xM) (c : Nat) (i : Int) : x_upd M c i (M c i) = M := by
  funext a j
  unfold x_upd
  by_cases h : a = c ∧ j = i
  · rw [if_pos h, h.1, h.2]
  · rw [if_neg h]
theorem Rw_self (M : xM) : Rw M (M 71) (M 72) (M 73) (M 64 26) = M := by
  unfold Rw
  rw [x_upd_self, setA_self, setA_self, setA_self]
def rfR (M : xM) (τ : Int) (ρ : Option xTx) : Prop := (ρ = none → τ < 0) ∧ ∀ T, ρ = some T → (0 ≤ τ ∧ τ < 4) ∧ okT T ∧ rfT M τ T
theorem rfR_ok {M : xM} {τ : Int} {ρ : Option xTx} (h : rfR M τ ρ) : okR ρ := fun T e => (h.2 T e).2.1
theorem rfT_of {M M' : xM} {τ : Int} {T : xTx} (h : M' 67 = M 67) (H : rfT M τ T) : rfT M' τ T := by
  unfold rfT rfP hit at *
  rw [h]
  exact H
theorem rfR_of {M M' : xM} {τ : Int} {ρ : Option xTx} (h : M' 67 = M 67) (H : rfR M τ ρ) : rfR M' τ ρ := ⟨H.1, fun T e => ⟨(H.2 T e).1, (H.2 T e).2.1, rfT_of h (H.2 T e).2.2⟩⟩
/-- clause c of text τ is T's law κ -/
def isC (M : xM) (τ : Int) (T : xTx) (q : Int × Int) (c : Int) : Prop := (0 ≤ τ ∧ τ < 4) ∧ (0 ≤ c ∧ c < 24) ∧ M 67 (705 * τ + 1 + 4 * c + 1) = q.1 ∧ M 67 (705 * τ + 1 + 4 * c + 2) = q.2 ∧ rfP M τ T.1 q.1 q.2
section Rlaw1
variable {g : Option Nat} {d n : Nat} {P : xP} {M : xM} {F : xM → Int → Prop} {G : xM → Prop}
theorem c_X10_cl (hn : 82 ≤ n) (hP : x_PP P) {τ κ k0 q0 : Int} {ρ : Option xTx} (hR : rfR M τ ρ) (hk : 0 ≤ κ ∧ κ < 8) (hk0 : k0 = if κ < 4 then 4 else κ - 4) (hq : κ < 4 → q0 = κ)
    (H1 : (∀ T, ρ = some T → T.2 κ = none) → F M (-1)) (H2 : ∀ T q c, ρ = some T → T.2 κ = some q → isC M τ T q c → F M c) : xCI Y_X10_clauseOf g d [vR (some 64), vI τ, vI k0, vI q0] n P M F := by
  cases ρ with
  | none =>
    have ht := hR.1 rfl
    exact b_X10_clauseOf hn hP (b_X10_clauseOf_3 hn hP ⟨fun _ => H1 (fun T e => by cases e), fun h => absurd ht h⟩)
  | some T =>
    obtain ⟨ht, hT, hm, hr⟩ := hR.2 T rfl
    have hrk := hr κ hk.1 hk.2
    refine c_X10_clauseOf (κ := κ) hn hP ht hm hk0 hq hk.2 (fun hno => H1 (fun T' e => ?_)) (fun c c0 c1 hc hf => ?_)
    · cases e
      cases e2 : T.2 κ with
      | none => rfl
      | some q =>
        obtain ⟨_, c, c0, c1, hc, _⟩ := hrk.2 q e2
        exact absurd hc (hno c c0 c1)
    · cases e2 : T.2 κ with
      | none => exact absurd hc (hrk.1 e2 c c0 c1)
      | some q =>
        obtain ⟨hp, c', d0, d1, hc', hf', e3, e4⟩ := hrk.2 q e2
        have : c = c' := by
          by_cases h1 : c < c'
          · exact absurd hc (hf' c c0 h1)
          · by_cases h2 : c' < c
            · exact absurd hc' (hf c' d0 h2)
            · omega
        subst this
        exact H2 T q c rfl e2 ⟨ht, ⟨c0, by omega⟩, e3, e4, hp⟩
theorem c_X10_work (hn : 82 ≤ n) (hP : x_PP P) {τ κ c : Int} {T : xTx} {q : Int × Int} (hT : okT T) (hk : 0 ≤ κ ∧ κ < 8) (e : T.2 κ = some q) (hC : isC M τ T q c) {nm f h : Int → Int} {fs : Int} (hN : okN κ nm)
    (H : ∀ f' h' z, evl T κ nm fs = some z → (tyB κ = false → f' 0 = z) → (tyB κ = true → h' 0 = z) → G (Rw M nm f' h' fs)) : xCV Y_X10_work g (d + 2) [vR (some 64), vI τ, vI c] n P (Rw M nm f h fs) G := by
  obtain ⟨ht, hc, e1, e2, hp⟩ := hC
  have e67 : Rw M nm f h fs 67 = M 67 := Rw_ne (by decide) (by decide) (by decide) (by decide)
  obtain ⟨z, h1, h2, h3⟩ := evl_some (fs := fs) hT hk hN e
  obtain ⟨⟨a1, a2, a3⟩, a4, a5⟩ := hT κ q hk.1 hk.2 e
  have hp' : rfP (Rw M nm f h fs) τ T.1 q.1 q.2 := by
    unfold rfP at *
    rw [e67]
    exact hp
  refine b_X10_work hn hP ⟨by unfold inR; omega, by unfold inR; omega, by unfold inR; omega, by unfold inR; omega, by unfold inR; omega, by unfold inR; omega, by unfold inR; omega, by omega, ?_⟩
  rw [e67, e1]
  have := work_loop (g := g) (d := d) (M := Rw M nm f h fs) (G := G) hn hP ht hc (by rw [e67]; exact e2) (pr := T.1) a1 a3 (fun j h4 h5 => okJ_okA (a4 j h4 h5) (by rw [Rw_71]; exact hN)) hp' (q.2 - q.1).toNat q.1 [] [] f h (Int.le_refl _) (by omega) a5 trivial rfl rfl (by show (0 : Int) ≤ _; omega) (fun f' h' z1 hz1 b1 b2 => by
    rw [Rw_71, Rw_26, h1] at hz1
    cases hz1
    rw [Rw_S2]
    exact H f' h' z h2 b1 b2)
  rw [Rw_S2] at this
  exact this
end Rlaw1
