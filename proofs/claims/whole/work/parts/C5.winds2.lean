/-! session: the winds laid once more, the rows kept -/
def offS (M M' : xM) : Prop := offR M M' ∧ ∀ c, 78 ≤ c → M' c = M c
theorem offS_refl (M : xM) : offS M M := ⟨offR_refl M, fun _ _ => rfl⟩
theorem offS_trans {M M' M'' : xM} (h : offS M M') (h' : offS M' M'') : offS M M'' := ⟨offR_trans h.1 h'.1, fun c hc => (h'.2 c hc).trans (h.2 c hc)⟩
theorem offS_set {M M' : xM} {c : Nat} {f : Int → Int} (h : offS M M') (hc : c = 65 ∨ (69 ≤ c ∧ c < 78)) : offS M (setA M' c f) := ⟨offR_set h.1 (by omega), fun b hb => by rw [← h.2 b hb]; exact setA_ne (by omega)⟩
theorem offS_upd {M M' : xM} {c : Nat} {i v : Int} (h : offS M M') (hc : (c = 65 ∨ (69 ≤ c ∧ c < 78)) ∨ (c = 64 ∧ i ≠ 4 ∧ i ≠ 5 ∧ i ≠ 6)) : offS M (x_upd M' c i v) := ⟨offR_upd h.1 (by omega), fun b hb => by rw [← h.2 b hb]; funext j; exact x_upd_nb (by omega)⟩
theorem offS_blk {M M' : xM} {c : Nat} {i k : Int} {f : Int → Int} (h : offS M M') (hc : c = 65 ∨ (69 ≤ c ∧ c < 78)) : offS M (x_blk M' c i k f) := ⟨offR_blk h.1 (by omega), fun b hb => by rw [← h.2 b hb]; funext j; exact if_neg (fun z => by omega)⟩
theorem offL_S {M M' : xM} (h : offL M M') : offS M M' := ⟨offL_R h, fun c hc => h.1 c (by omega) (by omega)⟩
theorem offE_S {M M' : xM} (h : offE M M') : offS M M' := ⟨offE_R h, fun c hc => h.1 c (by omega) (by omega) (by omega)⟩
section Winds2
variable {g : Option Nat} {d n : Nat} {P : xP} {M : xM} {F : xM → Int → Prop} {G : xM → Prop}
theorem q_layWinds2 (hn : 82 ≤ n) (hP : x_PP P) {ρ : Option xTx} {v : Int} (hρ : rho M (M 65 2) ρ) (h : oka (M 65)) (hv : 1 ≤ v ∧ v ≤ 61) (H : ∀ M', offS M M' → M' 65 = M 65 → wR ρ (M 65) (lz (M 65) v) M' → F M' (lz (M 65) v)) : xCI Y_X10_layWinds g (d + 5) [vR (some 64), vI v] n P M F := by
  have okr := rho_okR hρ
  obtain ⟨K, hI⟩ := oka_inv h
  have h11 := hI.2.1.2.2.2.1
  generalize hA : M 65 = A at *
  have hz : 1 ≤ lz A v ∧ lz A v ≤ v ∧ A 11 + lz A v ≤ 10000 := by
    unfold lz
    by_cases hl : A 11 + v ≤ 10000
    · rw [if_pos hl]; omega
    · rw [if_neg hl]; omega
  have loop : ∀ (m : Nat) (k : Nat) (N : xM), (k : Int) + 1 + m = lz A v → offS M N → N 65 = wB A (wI ρ A k) → (∀ i, 0 ≤ i → i < 5 → N 77 i = A (8 + i)) → wR ρ A k N → xW Y_X10_layWinds g (d + 5) 0 0 8 [(0, vR (some 64)), (1, vI v), (2, vI (k : Int)), (3, vI 1)] [] (0, 0) (n, P, N) (kI n P F) := by
    intro m
    induction m with
    | zero =>
      intro k N hk oN e65 e77 hw
      obtain ⟨o0, o1, o2, o3, o4⟩ := wI_ok okr h k (by omega)
      have b8 : N 65 8 = wI ρ A k 0 := by rw [e65]; exact wB_in (by omega) rfl
      have b9 : N 65 9 = wI ρ A k 1 := by rw [e65]; exact wB_in (by omega) rfl
      have b10 : N 65 10 = wI ρ A k 2 := by rw [e65]; exact wB_in (by omega) rfl
      have b11 : N 65 11 = A 11 + k := by rw [e65, wB_11]; exact o3
      generalize hN2 : x_upd (x_upd (x_upd N 74 (k : Int) (N 65 8)) 75 (k : Int) (N 65 9)) 76 (k : Int) (N 65 10) = N2
      have oN2 : offS M N2 := by rw [← hN2]; exact offS_upd (offS_upd (offS_upd oN (by omega)) (by omega)) (by omega)
      have f65 : N2 65 = N 65 := by rw [← hN2]; funext j; rw [x_upd_nb (by decide), x_upd_nb (by decide), x_upd_nb (by decide)]
      have f77 : N2 77 = N 77 := by rw [← hN2]; funext j; rw [x_upd_nb (by decide), x_upd_nb (by decide), x_upd_nb (by decide)]
      have hw2 : wR ρ A ((k : Int) + 1) N2 := fun i i0 i1 => by
        rw [← hN2]
        by_cases hi : i = (k : Int)
        · subst hi
          rw [x_upd_nb (by decide), x_upd_nb (by decide), x_upd_at, x_upd_nb (by decide), x_upd_at, x_upd_at, b8, b9, b10]
          exact ⟨rfl, rfl, rfl⟩
        · rw [x_upd_nj hi, x_upd_nj hi, x_upd_nj hi, x_upd_nj hi, x_upd_nj hi, x_upd_nj hi, x_upd_nj hi, x_upd_nj hi, x_upd_nj hi]
          exact hw i i0 (by omega)
      have fin : xW Y_X10_layWinds g (d + 5) 0 0 8 [(0, vR (some 64)), (1, vI v), (2, vI ((k : Int) + 1)), (3, vI 0)] [] (0, 0) (n, P, N2) (kI n P F) := by
        refine b_X10_layWinds_8 hn hP ⟨fun _ => q_putBack hn hP (f65.trans e65) (fun i i0 i1 => by rw [f77]; exact e77 i i0 i1) ?_, fun z => absurd rfl z⟩
        rw [show (k : Int) + 1 = lz A v by omega] at hw2 ⊢
        refine H _ (offS_set oN2 (by omega)) (setA_at _ _ _) (fun i i0 i1 => ?_)
        rw [setA_ne (by decide), setA_ne (by decide), setA_ne (by decide)]
        exact hw2 i i0 i1
      have stop : xW Y_X10_layWinds g (d + 5) 0 0 76 [(0, vR (some 64)), (1, vI v), (2, vI ((k : Int) + 1))] [] (0, 0) (n, P, N2) (kI n P F) := b_X10_layWinds_76 hn hP (b_X10_layWinds_77 hn hP ⟨fun _ => fin, fun z => absurd rfl z⟩)
      refine b_X10_layWinds_8 hn hP ⟨fun z => absurd z (by decide), fun _ => ⟨by omega, by omega, by omega, by unfold inR; omega, ?_⟩⟩
      rw [hN2]
      refine ⟨fun _ => stop, fun hv2 => ⟨fun _ => stop, fun hl => ?_⟩⟩
      exfalso
      rw [b11] at hl
      unfold lz at hk hz
      by_cases hl2 : A 11 + v ≤ 10000
      · rw [if_pos hl2] at hk; omega
      · rw [if_neg hl2] at hk; omega
    | succ m ih =>
      intro k N hk oN e65 e77 hw
      obtain ⟨o0, o1, o2, o3, o4⟩ := wI_ok okr h k (by omega)
      have b8 : N 65 8 = wI ρ A k 0 := by rw [e65]; exact wB_in (by omega) rfl
      have b9 : N 65 9 = wI ρ A k 1 := by rw [e65]; exact wB_in (by omega) rfl
      have b10 : N 65 10 = wI ρ A k 2 := by rw [e65]; exact wB_in (by omega) rfl
      have b11 : N 65 11 = A 11 + k := by rw [e65, wB_11]; exact o3
      have b12 : N 65 12 = wI ρ A k 4 := by rw [e65]; exact wB_in (by omega) rfl
      have b2 : N 65 2 = A 2 := by rw [e65]; exact wB_out (by omega)
      generalize hN2 : x_upd (x_upd (x_upd N 74 (k : Int) (N 65 8)) 75 (k : Int) (N 65 9)) 76 (k : Int) (N 65 10) = N2
      have oN2 : offS M N2 := by rw [← hN2]; exact offS_upd (offS_upd (offS_upd oN (by omega)) (by omega)) (by omega)
      have f65 : N2 65 = N 65 := by rw [← hN2]; funext j; rw [x_upd_nb (by decide), x_upd_nb (by decide), x_upd_nb (by decide)]
      have f77 : N2 77 = N 77 := by rw [← hN2]; funext j; rw [x_upd_nb (by decide), x_upd_nb (by decide), x_upd_nb (by decide)]
      have hw2 : wR ρ A ((k : Int) + 1) N2 := fun i i0 i1 => by
        rw [← hN2]
        by_cases hi : i = (k : Int)
        · subst hi
          rw [x_upd_nb (by decide), x_upd_nb (by decide), x_upd_at, x_upd_nb (by decide), x_upd_at, x_upd_at, b8, b9, b10]
          exact ⟨rfl, rfl, rfl⟩
        · rw [x_upd_nj hi, x_upd_nj hi, x_upd_nj hi, x_upd_nj hi, x_upd_nj hi, x_upd_nj hi, x_upd_nj hi, x_upd_nj hi, x_upd_nj hi]
          exact hw i i0 (by omega)
      refine b_X10_layWinds_8 hn hP ⟨fun z => absurd z (by decide), fun _ => ⟨by omega, by omega, by omega, by unfold inR; omega, ?_⟩⟩
      rw [hN2]
      refine ⟨fun z => absurd z (by omega), fun _ => ⟨fun z => absurd z (by rw [b11]; omega), fun _ => b_X10_layWinds_77 hn hP ⟨fun z => absurd z (by decide), fun _ => ?_⟩⟩⟩
      have hx : 0 ≤ (wI ρ A k 4).tmod 10 ∧ (wI ρ A k 4).tmod 10 ≤ 9 := by rw [Int.tmod_eq_emod_of_nonneg o4.1]; omega
      refine c_X10_drawn hn hP (by rw [f65, b12]; exact o4) (by decide) ?_
      rw [f65, b12, Int.tmod_eq_emod_of_nonneg (show 0 ≤ wI ρ A k 4 * 331 + 223 by omega), x_upd_up N2, f65]
      have eD : up (N 65) 12 ((wI ρ A k 4 * 331 + 223) % 30389) = rDraw (wB A (wI ρ A k)) := by
        unfold rDraw
        rw [e65, wB_12]
      rw [eD]
      have s65 : setA N2 65 (rDraw (wB A (wI ρ A k))) 65 = rDraw (wB A (wI ρ A k)) := setA_at _ _ _
      have d2 : rDraw (wB A (wI ρ A k)) 2 = A 2 := by show wB A (wI ρ A k) 2 = A 2; exact wB_out (by omega)
      have d8 : rDraw (wB A (wI ρ A k)) 8 = wI ρ A k 0 := by show wB A (wI ρ A k) 8 = _; exact wB_in (by omega) rfl
      have d9 : rDraw (wB A (wI ρ A k)) 9 = wI ρ A k 1 := by show wB A (wI ρ A k) 9 = _; exact wB_in (by omega) rfl
      have d11 : rDraw (wB A (wI ρ A k)) 11 = A 11 + k := by show wB A (wI ρ A k) 11 = _; rw [wB_11]; exact o3
      have oS : offS M (setA N2 65 (rDraw (wB A (wI ρ A k)))) := offS_set oN2 (by omega)
      refine q_turnBy hn hP (ρ := ρ) (by rw [s65, d2]; exact rho_rf (rho_R oS.1 hρ)) hx (by rw [s65, d11]; omega) (by rw [s65, d8]; exact o0) (by rw [s65, d9]; exact o1) (fun N3 o3' => ?_)
      rw [s65, wB_turn ρ A _ _ rfl, setA_setA] at o3'
      have e3 : N3 65 = wB A (wI ρ A (k + 1)) := by rw [o3'.1 65 (by decide) (by decide), setA_at]; rfl
      have := ih (k + 1) N3 (by omega) (offS_trans (offS_set oN2 (by omega)) (offL_S o3')) e3 (fun i i0 i1 => by rw [o3'.1 77 (by decide) (by decide), setA_ne (by decide), f77]; exact e77 i i0 i1) (fun i i0 i1 => by
        rw [o3'.1 74 (by decide) (by decide), o3'.1 75 (by decide) (by decide), o3'.1 76 (by decide) (by decide), setA_ne (by decide), setA_ne (by decide), setA_ne (by decide)]
        exact hw2 i i0 (by omega))
      rw [show (((k + 1 : Nat) : Nat) : Int) = (k : Int) + 1 by omega] at this
      exact this
  refine b_X10_layWinds hn hP (c_X10_begin hn hP ?_)
  rw [hA]
  refine loop (lz A v - 1).toNat 0 _ (by omega) (offS_blk (offS_refl M) (by omega)) ?_ (fun i i0 i1 => by rw [x_blk_in i0 (by omega)]) (fun i i0 i1 => absurd i1 (by omega))
  have : x_blk M 77 0 5 (fun j => A (8 + j)) 65 = A := by
    funext j
    rw [x_blk_out (fun z => absurd z.1 (by decide)), hA]
  rw [this]
  exact (wB_0 A).symm
end Winds2
