/-! the reference's law: says, judgment, one hour's turn -/
def cn (h q f k y s : Int) : Int → Int := fun v => if v = 0 then h else if v = 1 then q else if v = 2 then f else if v = 4 then k else if v = 5 then y else s
theorem al_c {κ v : Int} (hk : κ < 4) (h : al κ v) : v = 0 ∨ v = 1 ∨ v = 2 ∨ v = 4 ∨ v = 5 ∨ v = 6 := by
  unfold al at h
  omega
theorem al_s {v : Int} (h : al 7 v) : v = 0 ∨ v = 1 ∨ v = 2 ∨ v = 4 ∨ v = 5 ∨ v = 6 ∨ v = 7 := by
  unfold al at h
  omega
theorem gui_congr {ρ : Option xTx} (hR : okR ρ) {q : Int} (hq : 0 ≤ q ∧ q < 4) {nm nm' : Int → Int} (h0 : nm 0 = nm' 0) (h1 : nm 1 = nm' 1) (h2 : nm 2 = nm' 2) (h4 : nm 4 = nm' 4) (h5 : nm 5 = nm' 5) (h6 : nm 6 = nm' 6) (fs : Int) : gui ρ q nm fs = gui ρ q nm' fs := by
  unfold gui
  rw [lw_congr (fs' := fs) hR (by omega) (fun v hv => by rcases al_c hq.2 hv with rfl | rfl | rfl | rfl | rfl | rfl <;> assumption) (fun _ => rfl), h5]
theorem sent_congr {ρ : Option xTx} (hR : okR ρ) {nm nm' : Int → Int} (h0 : nm 0 = nm' 0) (h1 : nm 1 = nm' 1) (h2 : nm 2 = nm' 2) (h4 : nm 4 = nm' 4) (h5 : nm 5 = nm' 5) (h6 : nm 6 = nm' 6) (h7 : nm 7 = nm' 7) : sent ρ nm = sent ρ nm' := by
  unfold sent
  rw [lw_congr (fs' := 0) hR (by omega) (fun v hv => by rcases al_s hv with rfl | rfl | rfl | rfl | rfl | rfl | rfl <;> assumption) (fun _ => rfl), h5, h6]
theorem okN_c {κ : Int} (hk : κ < 4) {nm : Int → Int} (h0 : -1000000 ≤ nm 0 ∧ nm 0 ≤ 1000000) (h1 : -1000000 ≤ nm 1 ∧ nm 1 ≤ 1000000) (h2 : -1000000 ≤ nm 2 ∧ nm 2 ≤ 1000000) (h4 : -1000000 ≤ nm 4 ∧ nm 4 ≤ 1000000) (h5 : -1000000 ≤ nm 5 ∧ nm 5 ≤ 1000000) (h6 : -1000000 ≤ nm 6 ∧ nm 6 ≤ 1000000) : okN κ nm := by
  intro v hv
  rcases al_c hk hv with rfl | rfl | rfl | rfl | rfl | rfl <;> assumption
theorem okN_s {nm : Int → Int} (h0 : -1000000 ≤ nm 0 ∧ nm 0 ≤ 1000000) (h1 : -1000000 ≤ nm 1 ∧ nm 1 ≤ 1000000) (h2 : -1000000 ≤ nm 2 ∧ nm 2 ≤ 1000000) (h4 : -1000000 ≤ nm 4 ∧ nm 4 ≤ 1000000) (h5 : -1000000 ≤ nm 5 ∧ nm 5 ≤ 1000000) (h6 : -1000000 ≤ nm 6 ∧ nm 6 ≤ 1000000) (h7 : -1000000 ≤ nm 7 ∧ nm 7 ≤ 1000000) : okN 7 nm := by
  intro v hv
  rcases al_s hv with rfl | rfl | rfl | rfl | rfl | rfl | rfl <;> assumption
theorem x_shr_0 : ∀ b : Fin 256, x_shr (b.val : Int) 0 = (b.val : Int) := by decide +kernel
theorem x_shr0 {a : Int} (h : 0 ≤ a ∧ a < 256) : x_shr a 0 = a := by
  have := x_shr_0 ⟨a.toNat, by omega⟩
  rwa [show (((⟨a.toNat, by omega⟩ : Fin 256).val : Nat) : Int) = a by show (a.toNat : Int) = a; omega] at this
section Rlaw2
variable {g : Option Nat} {d n : Nat} {P : xP} {M : xM} {F : xM → Int → Prop} {G : xM → Prop}
theorem c_X10_cut (hn : 82 ≤ n) {z lo hi : Int} (h : -2147483648 ≤ lo ∧ lo ≤ hi ∧ hi ≤ 2147483647) (H : F M (cutI z lo hi)) : xCI Y_X10_cut g d [vJ z, vI lo, vI hi] n P M F := by
  unfold cutI at H
  refine b_X10_cut hn ⟨fun h1 => ⟨fun h2 => ?_, fun h2 => ?_⟩, fun h1 => ?_⟩
  · rw [x_cmp_ge] at h1
    rw [x_cmp_le] at h2
    rw [if_neg (by omega), if_neg (by omega)] at H
    exact ⟨by unfold inR; omega, H⟩
  · rw [x_cmp_ge] at h1
    rw [x_cmp_le] at h2
    rwa [if_neg (by omega), if_pos (by omega)] at H
  · rw [x_cmp_ge] at h1
    rwa [if_pos (by omega)] at H
theorem c_X10_says (hn : 82 ≤ n) (hP : x_PP P) {k0 df lo hi : Int} {ρ : Option xTx} (hR : rfR M (M 65 2) ρ) (hk : k0 = 0 ∨ k0 = 1 ∨ k0 = 3) (h : -2147483648 ≤ lo ∧ lo ≤ hi ∧ hi ≤ 2147483647) {nm f h' : Int → Int} {fs : Int} (hN : okN (k0 + 4) nm)
    (H : ∀ f2 h2, F (Rw M nm f2 h2 fs) (((lw ρ (k0 + 4) nm 0).map (fun z => cutI z lo hi)).getD df)) : xCI Y_X10_says g (d + 3) [vR (some 64), vI k0, vI df, vI lo, vI hi] n P (Rw M nm f h' fs) F := by
  have okr := rfR_ok hR
  have e65 : ∀ nm' f2 h2 fs', Rw M nm' f2 h2 fs' 65 = M 65 := fun _ _ _ _ => Rw_ne (by decide) (by decide) (by decide) (by decide)
  have e67 : ∀ nm' f2 h2 fs', Rw M nm' f2 h2 fs' 67 = M 67 := fun _ _ _ _ => Rw_ne (by decide) (by decide) (by decide) (by decide)
  refine b_X10_says hn hP ?_
  rw [e65]
  refine c_X10_cl (κ := k0 + 4) hn hP (rfR_of (e67 _ _ _ _) hR) (by omega) (by rw [if_neg (by omega)]; omega) (fun h => absurd h (by omega)) (fun hno => ?_) (fun T q c eT eq hC => ?_)
  · refine ⟨fun h => absurd h (by decide), fun _ => ?_⟩
    have H := H f h'
    have e : lw ρ (k0 + 4) nm 0 = none := by
      cases ρ with
      | none => rw [lw_none]
      | some T => rw [lw_some, evl_none (hno T rfl)]
    rw [e, Option.map_none, Option.getD_none] at H
    exact H
  · subst eT
    refine ⟨fun _ => ?_, fun h => absurd hC.2.1.1 h⟩
    rw [e65]
    have hC' : isC M (M 65 2) T q c := by
      unfold isC rfP at *
      rw [e67] at hC
      exact hC
    refine c_X10_work hn hP (okr T rfl) (by omega) eq hC' hN (fun f2 h2 z hz b1 b2 => ?_)
    rw [Rw_72, b1 (decide_eq_false (by omega))]
    refine c_X10_cut hn h ?_
    have H := H f2 h2
    rw [← lw_fs okr (by omega) fs, lw_some, hz, Option.map_some, Option.getD_some] at H
    exact H
theorem c_X10_name (hn : 82 ≤ n) (hP : x_PP P) {nm f h : Int → Int} {fs : Int} (H : G (Rw M (up (up (up nm 0 (M 65 11)) 1 (M 65 8)) 2 (M 65 9)) f h fs)) : xCV Y_X10_name g d [vR (some 64)] n P (Rw M nm f h fs) G := by
  refine b_X10_name hn hP ?_
  rwa [Rw_u71, Rw_u71, Rw_u71, Rw_ne (by decide) (by decide) (by decide) (by decide)]
theorem c_X10_nameCase (hn : 82 ≤ n) (hP : x_PP P) {c s : Int} (hc : 0 ≤ c ∧ c < 8) {nm f h : Int → Int} {fs : Int} (H : G (Rw M (up (up (up (up (up (up nm 0 (M 65 11)) 1 (M 65 8)) 2 (M 65 9)) 4 (M 65 (20 + 7 * c + 0))) 5 (M 65 (20 + 7 * c + 1))) 6 s) f h fs)) : xCV Y_X10_nameCase g (d + 1) [vR (some 64), vI c, vI s] n P (Rw M nm f h fs) G := by
  have e65 : ∀ nm' f2 h2 fs', Rw M nm' f2 h2 fs' 65 = M 65 := fun _ _ _ _ => Rw_ne (by decide) (by decide) (by decide) (by decide)
  refine b_X10_nameCase hn hP (c_X10_name hn hP ?_)
  refine c_X10_get hn hP hc (by omega) ?_
  rw [Rw_u71]
  refine c_X10_get hn hP hc (by omega) ?_
  rw [Rw_u71, Rw_u71, e65, e65]
  exact H
theorem c_X10_isGuilty (hn : 82 ≤ n) (hP : x_PP P) {τ q c s fa : Int} {ρ : Option xTx} (hR : rfR M τ ρ) (hq : 0 ≤ q ∧ q < 4) (hc : 0 ≤ c ∧ c < 8) (hfa : 0 ≤ fa ∧ fa < 256) {nm f h : Int → Int} {fs : Int} (hN : okN q (cn (M 65 11) q (M 65 9) (M 65 (20 + 7 * c + 0)) (M 65 (20 + 7 * c + 1)) s))
    (H : ∀ nm' f' h' fs', F (Rw M nm' f' h' fs') (gui ρ q (cn (M 65 11) q (M 65 9) (M 65 (20 + 7 * c + 0)) (M 65 (20 + 7 * c + 1)) s) fa)) : xCI Y_X10_isGuilty g (d + 3) [vR (some 64), vI τ, vI q, vI c, vI s, vI fa] n P (Rw M nm f h fs) F := by
  have okr := rfR_ok hR
  have e65 : ∀ nm' f2 h2 fs', Rw M nm' f2 h2 fs' 65 = M 65 := fun _ _ _ _ => Rw_ne (by decide) (by decide) (by decide) (by decide)
  have e67 : ∀ nm' f2 h2 fs', Rw M nm' f2 h2 fs' 67 = M 67 := fun _ _ _ _ => Rw_ne (by decide) (by decide) (by decide) (by decide)
  refine b_X10_isGuilty hn hP (c_X10_cl (κ := q) hn hP (rfR_of (e67 _ _ _ _) hR) (by omega) (by rw [if_pos (by omega)]) (fun _ => rfl) (fun hno => ?_) (fun T q1 c1 eT eq hC => ?_))
  · refine ⟨fun h => absurd h (by decide), fun _ => c_X10_get hn hP hc (by omega) ?_⟩
    have H := H nm f h fs
    have e : ∀ nm', lw ρ q nm' fa = none := by
      intro nm'
      cases ρ with
      | none => rw [lw_none]
      | some T => rw [lw_some, evl_none (hno T rfl)]
    unfold gui at H
    rw [e, Option.getD_none, show cn (M 65 11) q (M 65 9) (M 65 (20 + 7 * c + 0)) (M 65 (20 + 7 * c + 1)) s 5 = M 65 (20 + 7 * c + 1) from rfl] at H
    rw [e65]
    refine ⟨fun h1 => ?_, fun h1 => c_X10_has hn ?_⟩
    · rwa [bi_f (fun z => by omega)] at H
    · rw [x_shr0 hfa]
      rcases x_and_1 fa with e1 | e1
      · rw [e1]
        refine ⟨fun _ => ?_, fun h => absurd rfl h⟩
        rwa [bi_f (fun z => by omega)] at H
      · rw [e1]
        refine ⟨fun h => absurd h (by decide), fun _ => ?_⟩
        rwa [bi_t ⟨by omega, e1⟩] at H
  · subst eT
    refine ⟨fun _ => c_X10_nameCase hn hP hc ?_, fun h => absurd hC.2.1.1 h⟩
    rw [Rw_u71, Rw_u26]
    have hC' : isC M τ T q1 c1 := by
      unfold isC rfP at *
      rw [e67] at hC
      exact hC
    have okn : okN q (up (up (up (up (up (up (up nm 0 (M 65 11)) 1 (M 65 8)) 2 (M 65 9)) 4 (M 65 (20 + 7 * c + 0))) 5 (M 65 (20 + 7 * c + 1))) 6 s) 1 q) := by
      intro v hv
      have := hN v hv
      rcases al_c hq.2 hv with rfl | rfl | rfl | rfl | rfl | rfl <;> exact this
    refine c_X10_work hn hP (okr T rfl) (by omega) eq hC' okn (fun f2 h2 z hz b1 b2 => ?_)
    have hz2 := evl_truth (okr T rfl) (by omega) (Or.inl hq.2) okn hz
    rw [Rw_73, b2 (decide_eq_true (Or.inl hq.2))]
    refine ⟨hz2, ?_⟩
    have H := H (up (up (up (up (up (up (up nm 0 (M 65 11)) 1 (M 65 8)) 2 (M 65 9)) 4 (M 65 (20 + 7 * c + 0))) 5 (M 65 (20 + 7 * c + 1))) 6 s) 1 q) f2 h2 fa
    have eg : gui (some T) q (up (up (up (up (up (up (up nm 0 (M 65 11)) 1 (M 65 8)) 2 (M 65 9)) 4 (M 65 (20 + 7 * c + 0))) 5 (M 65 (20 + 7 * c + 1))) 6 s) 1 q) fa = gui (some T) q (cn (M 65 11) q (M 65 9) (M 65 (20 + 7 * c + 0)) (M 65 (20 + 7 * c + 1)) s) fa := by apply gui_congr okr hq <;> rfl
    rw [← eg] at H
    unfold gui at H
    rw [lw_some, hz, Option.getD_some] at H
    exact H
end Rlaw2
