/-! the winds that come: the class -/
def ls (A : Int → Int) (v : Int) : Int := if A 11 + v ≤ 9999 then v else 9999 - A 11
theorem lz_ls (A : Int → Int) (v : Int) : lz A (v + 1) = ls A v + 1 := by
  unfold lz ls
  by_cases h : A 11 + v ≤ 9999
  · rw [if_pos h, if_pos (by omega)]
  · rw [if_neg h, if_neg (by omega)]; omega
def offW (M M' : xM) : Prop := ∀ c, c < 12 ∨ 14 < c → M' c = M c
theorem offW_refl (M : xM) : offW M M := fun _ _ => rfl
theorem offW_trans {M M' M'' : xM} (h : offW M M') (h' : offW M' M'') : offW M M'' := fun c hc => (h' c hc).trans (h c hc)
theorem offW_Lw {M M' : xM} {nm st : Int → Int} {fs : Int} (h : offW M M') : offW M (Lw M' nm st fs) := fun c hc => by
  rw [← h c hc]
  exact Lw_ne (by omega) (by omega) (by omega)
theorem offW_C {M M' : xM} (h : offW M M') : offC M M' := fun c h1 _ => h c (by omega)
theorem wS_congr {ρ : Option xTx} {w w' : Int → Int} (h : ∀ j, 0 ≤ j → j < 5 → w j = w' j) {j : Int} (hj : 0 ≤ j ∧ j < 5) : wS ρ w j = wS ρ w' j := by
  have h0 := h 0 (by omega) (by omega)
  have h1 := h 1 (by omega) (by omega)
  have h3 := h 3 (by omega) (by omega)
  have h4 := h 4 (by omega) (by omega)
  have : j = 0 ∨ j = 1 ∨ j = 2 ∨ j = 3 ∨ j = 4 := by omega
  rcases this with rfl | rfl | rfl | rfl | rfl
  · rw [wS_0, wS_0, h0, h1, h3, h4]
  · rw [wS_1, wS_1, h0, h1, h3, h4]
  · rw [wS_2, wS_2, h0, h1, h3, h4]
  · rw [wS_3, wS_3, h3]
  · rw [wS_4, wS_4, h4]
theorem clR_enc {n : Nat} {P : xP} {M : xM} {o : Option Nat} {ρ : Option xTx} (h : clR n P M o ρ) : inT (x_enc o) := by
  cases ρ with
  | none => rw [h.1 rfl]; decide
  | some T =>
    obtain ⟨t, h1, _, h3, _⟩ := h.2 T rfl
    rw [h1]
    show inT (t : Int)
    unfold inT inR
    omega
theorem clR_C {n : Nat} {P : xP} {M M' : xM} {o : Option Nat} {ρ : Option xTx} (hc : offC M M') (h : clR n P M o ρ) : clR n P M' o ρ := clR_of (fun c h1 h2 => hc c (by omega) (by omega)) h
section Look
variable {g : Option Nat} {d n : Nat} {P : xP} {M : xM} {F : xM → Int → Prop} {G : xM → Prop}
theorem k_turn (hn : 82 ≤ n) (hP : x_PP P) {N : Int} {u : Nat} (hA : x_cell n u 0 N) (hN : 5 ≤ N ∧ N ≤ 1000) (hu : u < 12 ∨ (14 < u ∧ u < 43)) {o : Option Nat} {ρ : Option xTx} (hR : clR n P M o ρ) {x : Int} (hx : 0 ≤ x ∧ x ≤ 9) (h3 : 0 ≤ M u 3 ∧ M u 3 < 20000) (h0 : 0 ≤ M u 0 ∧ M u 0 < 4) (h1 : 0 ≤ M u 1 ∧ M u 1 ≤ 9)
    (H : ∀ M', offW (setA M u (cTurn ρ (M u) x)) M' → G M') : xCV Y_X2_turn g (d + 3) [vR (some 12), vR (some u), vR o, vI x] n P M G := by
  have := c_X2_turn (g := g) (d := d) (G := G) (nm := M 13) (st := M 14) (fs := M 12 1) hn hP hA hN hu hR hx h3 h0 h1 (fun nm' st' => by
    rw [x_upd_up M, x_upd_up2, x_upd_up2, x_upd_up2]
    exact H _ (offW_Lw (offW_refl _)))
  rw [Lw_self] at this
  exact this
theorem k_min (hn : 82 ≤ n) {a b : Int} (H : F M (if a ≤ b then a else b)) : xCI Y_J9_min_7cf53 g d [vI a, vI b] n P M F := by
  refine b_J9_min_7cf53 hn ⟨fun h => ?_, fun h => ?_⟩
  · by_cases h2 : a ≤ b
    · rw [if_pos h2] at H
      first
        | exact H
        | rwa [show b = a by omega]
    · rw [if_neg h2] at H
      first
        | exact H
        | (exfalso; omega)
  · by_cases h2 : a ≤ b
    · rw [if_pos h2] at H
      first
        | exact H
        | rwa [show b = a by omega]
    · rw [if_neg h2] at H
      first
        | exact H
        | (exfalso; omega)
theorem k_max (hn : 82 ≤ n) {a b : Int} (H : F M (if a ≤ b then b else a)) : xCI Y_J9_max_7cf53 g d [vI a, vI b] n P M F := by
  refine b_J9_max_7cf53 hn ⟨fun h => ?_, fun h => ?_⟩
  · by_cases h2 : a ≤ b
    · rw [if_pos h2] at H
      first
        | exact H
        | rwa [show a = b by omega]
    · rw [if_neg h2] at H
      first
        | exact H
        | (exfalso; omega)
  · by_cases h2 : a ≤ b
    · rw [if_pos h2] at H
      first
        | exact H
        | rwa [show a = b by omega]
    · rw [if_neg h2] at H
      first
        | exact H
        | (exfalso; omega)
theorem k_look (hn : 82 ≤ n) (hP : x_PP P) {A : Int → Int} {o : Option Nat} {ρ : Option xTx} {v : Int} (h : relC A (CC M)) (hR : clR n P M o ρ) (hv : 0 ≤ v ∧ v ≤ 60) (H : ∀ M', offC M M' → (∀ c, 1 ≤ c → c < 12 → M' c = M c) → M' 15 2 = x_enc o → wC ρ A (ls A v) M' → G M') : xCV Y_X1_look none (d + 4) [vR (some 15), vR o, vI v] n P M G := by
  have okr := clR_ok hR
  have ok : oka A := ⟨_, h⟩
  have hN : relN A (M 2) := h.2.2.1
  have e11 : A 11 = M 2 3 := rel_at hN (by omega) rfl
  have h11 := h.2.2.2.1.2.1.2.2.2.1
  have hs : 0 ≤ ls A v ∧ ls A v ≤ 60 := by
    unfold ls
    by_cases hl : A 11 + v ≤ 9999
    · rw [if_pos hl]; omega
    · rw [if_neg hl]; omega
  -- what stands all along
  let st : xM → Prop := fun N => offC M N ∧ (∀ c, 1 ≤ c → c < 12 → N c = M c) ∧ N 15 2 = x_enc o ∧ N 15 3 = ls A v
  have loop : ∀ (m : Nat) (k : Nat) (N : xM), (k : Int) + m = ls A v → st N → (∀ j, 0 ≤ j → j < 5 → N 20 j = wI ρ A k j) → (∀ i : Int, 0 ≤ i → i < (k : Int) → N 16 i = wI ρ A i.toNat 0 ∧ N 17 i = wI ρ A i.toNat 1 ∧ N 18 i = wI ρ A i.toNat 2) → xW Y_X1_look none (d + 4) 0 0 90 [(0, vR (some 15)), (3, vR (some 20)), (4, vI (k : Int))] [] (0, 0) (n, P, N) (kV n P G) := by
    intro m
    induction m with
    | zero =>
      intro k N hk hst hw hl
      obtain ⟨s1, s2, s3, s4⟩ := hst
      refine b_X1_look_90 (o := o) hn hP ⟨by omega, by omega, by omega, by unfold inR; omega, ?_⟩
      rw [hw 0 (by omega) (by omega), hw 1 (by omega) (by omega), hw 2 (by omega) (by omega)]
      have c15 : ∀ j, x_upd (x_upd (x_upd N 16 (k : Int) (wI ρ A k 0)) 17 (k : Int) (wI ρ A k 1)) 18 (k : Int) (wI ρ A k 2) 15 j = N 15 j := fun j => by rw [x_upd_nb (by decide), x_upd_nb (by decide), x_upd_nb (by decide)]
      refine b_X1_look_49 (o := o) hn hP ⟨fun _ => H _ (offC_upd (offC_upd (offC_upd s1 (by omega)) (by omega)) (by omega)) (fun c c0 c1 => ?_) ?_ ⟨?_, fun i i0 i1 => ?_⟩, fun z => absurd (by rw [c15, s4]; omega) z⟩
      · rw [← s2 c c0 c1]
        funext j
        rw [x_upd_nb (by omega), x_upd_nb (by omega), x_upd_nb (by omega)]
      · rw [c15]; exact s3
      · rw [c15]; exact s4
      · by_cases hi : i = (k : Int)
        · subst hi
          rw [x_upd_nb (by decide), x_upd_nb (by decide), x_upd_at, x_upd_nb (by decide), x_upd_at, x_upd_at]
          exact ⟨rfl, rfl, rfl⟩
        · rw [x_upd_nj hi, x_upd_nj hi, x_upd_nj hi, x_upd_nj hi, x_upd_nj hi, x_upd_nj hi, x_upd_nj hi, x_upd_nj hi, x_upd_nj hi]
          exact hl i i0 (by omega)
    | succ m ih =>
      intro k N hk hst hw hl
      obtain ⟨s1, s2, s3, s4⟩ := hst
      refine b_X1_look_90 (o := o) hn hP ⟨by omega, by omega, by omega, by unfold inR; omega, ?_⟩
      rw [hw 0 (by omega) (by omega), hw 1 (by omega) (by omega), hw 2 (by omega) (by omega)]
      generalize hN2 : x_upd (x_upd (x_upd N 16 (k : Int) (wI ρ A k 0)) 17 (k : Int) (wI ρ A k 1)) 18 (k : Int) (wI ρ A k 2) = N2
      have ce : ∀ c, c ≠ 16 → c ≠ 17 → c ≠ 18 → N2 c = N c := fun c h1 h2 h3 => by
        rw [← hN2]
        funext j
        rw [x_upd_nb h3, x_upd_nb h2, x_upd_nb h1]
      have oN2 : offC M N2 := by rw [← hN2]; exact offC_upd (offC_upd (offC_upd s1 (by omega)) (by omega)) (by omega)
      have hl2 : ∀ i, 0 ≤ i → i < (k : Int) + 1 → N2 16 i = wI ρ A i.toNat 0 ∧ N2 17 i = wI ρ A i.toNat 1 ∧ N2 18 i = wI ρ A i.toNat 2 := fun i i0 i1 => by
        rw [← hN2]
        by_cases hi : i = (k : Int)
        · subst hi
          rw [x_upd_nb (by decide), x_upd_nb (by decide), x_upd_at, x_upd_nb (by decide), x_upd_at, x_upd_at]
          exact ⟨rfl, rfl, rfl⟩
        · rw [x_upd_nj hi, x_upd_nj hi, x_upd_nj hi, x_upd_nj hi, x_upd_nj hi, x_upd_nj hi, x_upd_nj hi, x_upd_nj hi, x_upd_nj hi]
          exact hl i i0 (by omega)
      have e15 := ce 15 (by decide) (by decide) (by decide)
      have e20 := ce 20 (by decide) (by decide) (by decide)
      have hw2 : ∀ j, 0 ≤ j → j < 5 → N2 20 j = wI ρ A k j := fun j j0 j1 => by rw [e20]; exact hw j j0 j1
      obtain ⟨o0, o1, o2, o3, o4⟩ := wI_ok okr ok k (by omega)
      have hx : 0 ≤ (wI ρ A k 4).tmod 10 ∧ (wI ρ A k 4).tmod 10 ≤ 9 := by rw [Int.tmod_eq_emod_of_nonneg o4.1]; omega
      have w0 := hw2 0 (by omega) (by omega)
      have w1 := hw2 1 (by omega) (by omega)
      have w3 := hw2 3 (by omega) (by omega)
      have w4 := hw2 4 (by omega) (by omega)
      refine b_X1_look_49 (o := o) hn hP ⟨fun z => absurd z (by rw [e15, s4]; omega), fun _ => ⟨fun z => absurd z (by omega), fun _ => ?_⟩⟩
      rw [e15, s3, x_dec_enc, w4]
      refine k_turn hn hP (cl_20 hn) (by omega) (by omega) (clR_C oN2 hR) hx (by rw [w3]; omega) (by rw [w0]; exact o0) (by rw [w1]; exact o1) (fun N3 o3' => ?_)
      have f20 : N3 20 = cTurn ρ (N2 20) ((wI ρ A k 4).tmod 10) := by rw [o3' 20 (by omega), setA_at]
      have f4 : N3 20 4 = wI ρ A k 4 := by
        rw [f20]
        exact w4
      refine c_X9_nextX hn (by rw [f4]; exact o4) ?_
      rw [f4]
      have c3 : ∀ c, c < 12 ∨ 14 < c → c ≠ 20 → x_upd N3 20 4 ((wI ρ A k 4 * 331 + 223) % 30389) c = N2 c := fun c hc h20 => by
        funext j
        rw [x_upd_nb h20, o3' c hc, setA_ne h20]
      have g20 : ∀ j, 0 ≤ j → j < 5 → x_upd N3 20 4 ((wI ρ A k 4 * 331 + 223) % 30389) 20 j = wI ρ A (k + 1) j := fun j j0 j1 => by
        have : x_upd N3 20 4 ((wI ρ A k 4 * 331 + 223) % 30389) 20 j = wS ρ (N2 20) j := by
          unfold wS
          by_cases h4 : j = 4
          · subst h4
            rw [x_upd_at, up_at, w4]
          · rw [x_upd_nj h4, up_ne h4, f20, w4]
            rfl
        rw [this]
        exact wS_congr hw2 ⟨j0, j1⟩
      have := ih (k + 1) _ (by omega) ⟨offC_upd (offC_trans (offC_set oN2 (by omega)) (offW_C o3')) (by omega), fun c c0 c1 => (c3 c (by omega) (by omega)).trans ((ce c (by omega) (by omega) (by omega)).trans (s2 c c0 c1)), by rw [c3 15 (by omega) (by omega), e15]; exact s3, by rw [c3 15 (by omega) (by omega), e15]; exact s4⟩ g20 (fun i i0 i1 => by
        rw [c3 16 (by omega) (by omega), c3 17 (by omega) (by omega), c3 18 (by omega) (by omega)]
        exact hl2 i i0 (by omega))
      rw [show (((k + 1 : Nat) : Nat) : Int) = (k : Int) + 1 by omega] at this
      exact this
  refine b_X1_look hn hP ⟨clR_enc hR, k_min hn (c_X0_hoursLeft hn hP (by rw [x_upd_nb (by decide)]; omega) (k_min hn ?_))⟩
  rw [x_upd_nb (by decide), ← e11, if_pos hv.2]
  have e : (if v ≤ 9999 - A 11 then v else 9999 - A 11) = ls A v := by
    unfold ls
    by_cases hl : A 11 + v ≤ 9999
    · rw [if_pos hl, if_pos (by omega)]
    · rw [if_neg hl, if_neg (by omega)]
  rw [e]
  generalize hN : x_cpy (x_upd (x_upd M 15 2 (x_enc o)) 15 3 (ls A v)) 2 20 0 0 5 = N
  have ce : ∀ c, c ≠ 15 → c ≠ 20 → N c = M c := fun c h1 h2 => by
    rw [← hN]
    funext j
    rw [cpy_ne h2, x_upd_nb h1, x_upd_nb h1]
  have n2 : N 15 2 = x_enc o := by rw [← hN, cpy_ne (by decide), x_upd_nj (by decide), x_upd_at]
  have n3 : N 15 3 = ls A v := by rw [← hN, cpy_ne (by decide), x_upd_at]
  have oN : offC M N := fun c h1 h2 => ce c (by omega) (by omega)
  have := loop (ls A v).toNat 0 N (by omega) ⟨oN, fun c c0 c1 => ce c (by omega) (by omega), n2, n3⟩ (fun j j0 j1 => by
    rw [← hN, cpy_in j0 j1, x_upd_nb (by decide), x_upd_nb (by decide)]
    exact (rel_at ‹relN A (M 2)› (i := j) (by omega) rfl).symm) (fun i i0 i1 => absurd i1 (by omega))
  exact b_X1_look_49 (o := o) hn hP ⟨fun z => absurd z (by rw [n3]; omega), fun _ => ⟨fun _ => this, fun z => absurd (by omega) z⟩⟩
end Look
