/-! the winds that come, on both sides -/
def wS (ρ : Option xTx) (w : Int → Int) : Int → Int := up (up (up (up (up w 3 (w 3 + 1)) 0 (tq ρ (w 3 + 1) (w 0) (w 1) ((w 4).tmod 10))) 1 (tf ρ (w 3 + 1) (w 0) (w 1) ((w 4).tmod 10))) 2 (tg ρ (w 3 + 1) (w 0) (w 1) ((w 4).tmod 10))) 4 ((w 4 * 331 + 223) % 30389)
def wI (ρ : Option xTx) (A : Int → Int) : Nat → Int → Int
  | 0 => fun i => A (8 + i)
  | k + 1 => wS ρ (wI ρ A k)
def wOk (w : Int → Int) (h : Int) : Prop := (0 ≤ w 0 ∧ w 0 < 4) ∧ (0 ≤ w 1 ∧ w 1 ≤ 9) ∧ (w 2 = 0 ∨ w 2 = 1) ∧ w 3 = h ∧ (0 ≤ w 4 ∧ w 4 < 30389)
theorem wS_0 (ρ : Option xTx) (w : Int → Int) : wS ρ w 0 = tq ρ (w 3 + 1) (w 0) (w 1) ((w 4).tmod 10) := rfl
theorem wS_1 (ρ : Option xTx) (w : Int → Int) : wS ρ w 1 = tf ρ (w 3 + 1) (w 0) (w 1) ((w 4).tmod 10) := rfl
theorem wS_2 (ρ : Option xTx) (w : Int → Int) : wS ρ w 2 = tg ρ (w 3 + 1) (w 0) (w 1) ((w 4).tmod 10) := rfl
theorem wS_3 (ρ : Option xTx) (w : Int → Int) : wS ρ w 3 = w 3 + 1 := rfl
theorem wS_4 (ρ : Option xTx) (w : Int → Int) : wS ρ w 4 = (w 4 * 331 + 223) % 30389 := rfl
theorem tf_r {ρ : Option xTx} {h q f x : Int} (hx : 0 ≤ x ∧ x ≤ 9) : 0 ≤ tf ρ h q f x ∧ tf ρ h q f x ≤ 9 := blow_r ρ hx
theorem tg_r {ρ : Option xTx} (hR : okR ρ) {h q f x : Int} (hh : 0 ≤ h ∧ h ≤ 30000) (hq : 0 ≤ q ∧ q < 4) (hx : 0 ≤ x ∧ x ≤ 9) : tg ρ h q f x = 0 ∨ tg ρ h q f x = 1 :=
  fogg_r hR (okN_w (by omega) (by show -1000000 ≤ h ∧ h ≤ 1000000; omega) (tq_r ρ hq) (tf_r hx) hx)
theorem wS_ok {ρ : Option xTx} (hR : okR ρ) {w : Int → Int} {h : Int} (hw : wOk w h) (hh : 0 ≤ h ∧ h ≤ 20000) : wOk (wS ρ w) (h + 1) := by
  obtain ⟨w0, w1, w2, w3, w4⟩ := hw
  have hx : 0 ≤ (w 4).tmod 10 ∧ (w 4).tmod 10 ≤ 9 := by rw [Int.tmod_eq_emod_of_nonneg w4.1]; omega
  refine ⟨?_, ?_, ?_, ?_, ?_⟩
  · rw [wS_0]; exact tq_r ρ w0
  · rw [wS_1]; exact tf_r hx
  · rw [wS_2]; exact tg_r hR (by omega) w0 hx
  · rw [wS_3, w3]
  · rw [wS_4]; omega
theorem wI_ok {ρ : Option xTx} (hR : okR ρ) {A : Int → Int} (h : oka A) : ∀ k : Nat, k ≤ 100 → wOk (wI ρ A k) (A 11 + k)
  | 0, _ => by
    obtain ⟨K, hI⟩ := oka_inv h
    obtain ⟨h8, h9, h10, h11, h12, _⟩ := hI.2.1
    exact ⟨h8, h9, h10, by show A 11 = A 11 + ((0 : Nat) : Int); omega, h12⟩
  | k + 1, hk => by
    obtain ⟨K, hI⟩ := oka_inv h
    have h11 := hI.2.1.2.2.2.1
    have := wS_ok hR (wI_ok hR h k (by omega)) (by omega)
    rw [show A 11 + ((k + 1 : Nat) : Int) = A 11 + (k : Int) + 1 by omega]
    exact this
/-- a[] with another wind -/
def wB (A w : Int → Int) : Int → Int := fun j => if 8 ≤ j ∧ j < 13 then w (j - 8) else A j
theorem wB_in {A w : Int → Int} {i : Int} (h : 0 ≤ i ∧ i < 5) {j : Int} (hj : j = 8 + i) : wB A w j = w i := by
  unfold wB
  rw [if_pos (by omega)]
  congr 1
  omega
theorem wB_out {A w : Int → Int} {j : Int} (h : ¬ (8 ≤ j ∧ j < 13)) : wB A w j = A j := if_neg h
theorem wB_0 (A : Int → Int) : wB A (fun i => A (8 + i)) = A := by
  funext j
  unfold wB
  by_cases h : 8 ≤ j ∧ j < 13
  · rw [if_pos h]
    show A (8 + (j - 8)) = A j
    congr 1
    omega
  · rw [if_neg h]
theorem wB_8 (A w : Int → Int) : wB A w 8 = w 0 := wB_in (by omega) rfl
theorem wB_9 (A w : Int → Int) : wB A w 9 = w 1 := wB_in (by omega) rfl
theorem wB_10 (A w : Int → Int) : wB A w 10 = w 2 := wB_in (by omega) rfl
theorem wB_11 (A w : Int → Int) : wB A w 11 = w 3 := wB_in (by omega) rfl
theorem wB_12 (A w : Int → Int) : wB A w 12 = w 4 := wB_in (by omega) rfl
theorem wB_turn (ρ : Option xTx) (A w : Int → Int) (x : Int) (hx : x = (w 4).tmod 10) : rTurn ρ (rDraw (wB A w)) x = wB A (wS ρ w) := by
  subst hx
  have d8 : rDraw (wB A w) 8 = w 0 := by show wB A w 8 = _; exact wB_in (by omega) rfl
  have d9 : rDraw (wB A w) 9 = w 1 := by show wB A w 9 = _; exact wB_in (by omega) rfl
  have d11 : rDraw (wB A w) 11 = w 3 := by show wB A w 11 = _; exact wB_in (by omega) rfl
  have b12 : wB A w 12 = w 4 := wB_in (by omega) rfl
  unfold rTurn
  rw [d8, d9, d11]
  funext j
  by_cases h8 : j = 8
  · subst h8; rw [up_ne (by decide), up_ne (by decide), up_at, wB_8, wS_0]
  by_cases h9 : j = 9
  · subst h9; rw [up_ne (by decide), up_at, wB_9, wS_1]
  by_cases h10 : j = 10
  · subst h10; rw [up_at, wB_10, wS_2]
  by_cases h11 : j = 11
  · subst h11; rw [up_ne (by decide), up_ne (by decide), up_ne (by decide), up_at, wB_11, wS_3]
  rw [up_ne h10, up_ne h9, up_ne h8, up_ne h11]
  unfold rDraw
  by_cases h12 : j = 12
  · subst h12; rw [up_at, b12, wB_12, wS_4]
  · rw [up_ne h12, wB_out (by omega), wB_out (by omega)]
def wR (ρ : Option xTx) (A : Int → Int) (s : Int) (M : xM) : Prop := ∀ k, 0 ≤ k → k < s → M 74 k = wI ρ A k.toNat 0 ∧ M 75 k = wI ρ A k.toNat 1 ∧ M 76 k = wI ρ A k.toNat 2
def wC (ρ : Option xTx) (A : Int → Int) (s : Int) (M : xM) : Prop := M 15 3 = s ∧ ∀ k, 0 ≤ k → k ≤ s → M 16 k = wI ρ A k.toNat 0 ∧ M 17 k = wI ρ A k.toNat 1 ∧ M 18 k = wI ρ A k.toNat 2
def lz (A : Int → Int) (v : Int) : Int := if A 11 + v ≤ 10000 then v else 10000 - A 11
/-- only the law's own cells change -/
def offL (M M' : xM) : Prop := (∀ c, c ≠ 64 → ¬ (71 ≤ c ∧ c < 74) → M' c = M c) ∧ ∀ j, j ≠ 26 → M' 64 j = M 64 j
theorem offL_refl (M : xM) : offL M M := ⟨fun _ _ _ => rfl, fun _ _ => rfl⟩
theorem offL_R {M M' : xM} (h : offL M M') : offR M M' := ⟨fun c hc => h.1 c (by omega) (by omega), fun j hj => h.2 j (by omega)⟩
theorem offL_Rw {M M' : xM} {nm f g : Int → Int} {fs : Int} (h : offL M M') : offL M (Rw M' nm f g fs) := ⟨fun b h1 h2 => by rw [← h.1 b h1 h2]; exact Rw_ne h1 (by omega) (by omega) (by omega), fun j hj => by rw [← h.2 j hj]; exact Rw_64 hj⟩
section Winds
variable {g : Option Nat} {d n : Nat} {P : xP} {M : xM} {F : xM → Int → Prop} {G : xM → Prop}
theorem q_turnBy (hn : 82 ≤ n) (hP : x_PP P) {ρ : Option xTx} {x : Int} (hR : rfR M (M 65 2) ρ) (hx : 0 ≤ x ∧ x ≤ 9) (h3 : 0 ≤ M 65 11 ∧ M 65 11 < 20000) (hq0 : 0 ≤ M 65 8 ∧ M 65 8 < 4) (hf0 : 0 ≤ M 65 9 ∧ M 65 9 ≤ 9) (H : ∀ M', offL (setA M 65 (rTurn ρ (M 65) x)) M' → G M') : xCV Y_X10_turnBy g (d + 4) [vR (some 64), vI x] n P M G := by
  have := c_X10_turnBy (g := g) (d := d) (G := G) (nm := M 71) (f0 := M 72) (h0 := M 73) (fs := M 64 26) hn hP hR hx h3 hq0 hf0 (fun nm' f' h' => by
    rw [x_upd_up M, x_upd_up2, x_upd_up2, x_upd_up2]
    exact H _ (offL_Rw (offL_refl _)))
  rw [Rw_self] at this
  exact this
theorem c_X10_begin (hn : 82 ≤ n) (hP : x_PP P) (H : G (x_blk M 77 0 5 (fun j => M 65 (8 + j)))) : xCV Y_X10_begin g d [vR (some 64)] n P M G := by
  have key := up_ind (p := fun i => xW Y_X10_begin g d 0 0 2 [(0, vR (some 64)), (1, vI i)] [] (0, 0) (n, P, x_blk M 77 0 i (fun j => M 65 (8 + j))) (kV n P G)) (lo := 0) (N := 5) ?_ ?_ 0 (by omega) (by omega)
  · rw [x_blk_0] at key
    exact b_X10_begin hn hP key
  · exact b_X10_begin_2 hn hP ⟨fun _ => H, fun h => absurd (Int.le_refl _) h⟩
  · intro i h1 h2 h3
    refine b_X10_begin_2 hn hP ⟨fun h => absurd h (by omega), fun _ => ⟨by unfold inR; omega, by omega, by omega, by unfold inR; omega, ?_⟩⟩
    rw [x_blk_out (fun z => absurd z.1 (by decide)), x_blk_succ h1 (by omega) rfl]
    exact h3
theorem c_X10_putBack (hn : 82 ≤ n) (hP : x_PP P) (H : G (x_blk M 65 8 5 (fun j => M 77 (j - 8)))) : xCV Y_X10_putBack g d [vR (some 64)] n P M G := by
  have key := up_ind (p := fun i => xW Y_X10_putBack g d 0 0 2 [(0, vR (some 64)), (1, vI i)] [] (0, 0) (n, P, x_blk M 65 8 i (fun j => M 77 (j - 8))) (kV n P G)) (lo := 0) (N := 5) ?_ ?_ 0 (by omega) (by omega)
  · rw [x_blk_0] at key
    exact b_X10_putBack hn hP key
  · exact b_X10_putBack_2 hn hP ⟨fun _ => H, fun h => absurd (Int.le_refl _) h⟩
  · intro i h1 h2 h3
    refine b_X10_putBack_2 hn hP ⟨fun h => absurd h (by omega), fun _ => ⟨by unfold inR; omega, by omega, by omega, by unfold inR; omega, ?_⟩⟩
    rw [x_blk_out (fun z => absurd z.1 (by decide)), x_blk_succ h1 rfl (by congr 1; omega)]
    exact h3
/-- aside holds the wind of A: putBack brings A back -/
theorem q_putBack (hn : 82 ≤ n) (hP : x_PP P) {A w : Int → Int} (e65 : M 65 = wB A w) (e77 : ∀ i, 0 ≤ i → i < 5 → M 77 i = A (8 + i)) (H : G (setA M 65 A)) : xCV Y_X10_putBack g d [vR (some 64)] n P M G := by
  refine c_X10_putBack hn hP ?_
  have : x_blk M 65 8 5 (fun j => M 77 (j - 8)) = setA M 65 A := by
    funext b j
    by_cases hb : b = 65
    · subst hb
      rw [setA_at]
      by_cases hj : 8 ≤ j ∧ j < 13
      · rw [x_blk_in hj.1 (by omega), e77 _ (by omega) (by omega)]
        congr 1
        omega
      · rw [x_blk_out (by omega), e65, wB_out hj]
    · rw [x_blk_out (fun z => hb z.1), setA_ne hb]
  rw [this]
  exact H
theorem q_layWinds (hn : 82 ≤ n) (hP : x_PP P) {ρ : Option xTx} {v : Int} (hρ : rho M (M 65 2) ρ) (h : oka (M 65)) (hv : 1 ≤ v ∧ v ≤ 61) (H : ∀ M', offR M M' → M' 65 = M 65 → wR ρ (M 65) (lz (M 65) v) M' → F M' (lz (M 65) v)) : xCI Y_X10_layWinds g (d + 5) [vR (some 64), vI v] n P M F := by
  have okr := rho_okR hρ
  obtain ⟨K, hI⟩ := oka_inv h
  have h11 := hI.2.1.2.2.2.1
  generalize hA : M 65 = A at *
  have hz : 1 ≤ lz A v ∧ lz A v ≤ v ∧ A 11 + lz A v ≤ 10000 := by
    unfold lz
    by_cases hl : A 11 + v ≤ 10000
    · rw [if_pos hl]; omega
    · rw [if_neg hl]; omega
  have loop : ∀ (m : Nat) (k : Nat) (N : xM), (k : Int) + 1 + m = lz A v → offR M N → N 65 = wB A (wI ρ A k) → (∀ i, 0 ≤ i → i < 5 → N 77 i = A (8 + i)) → wR ρ A k N → xW Y_X10_layWinds g (d + 5) 0 0 8 [(0, vR (some 64)), (1, vI v), (2, vI (k : Int)), (3, vI 1)] [] (0, 0) (n, P, N) (kI n P F) := by
    intro m
    induction m with
    | zero =>
      intro k N hk oN e65 e77 hw
      obtain ⟨o0, o1, o2, o3, o4⟩ := wI_ok okr h k (by omega)
      have b8 : N 65 8 = wI ρ A k 0 := by rw [e65]; exact wB_in (by omega) rfl
      have b9 : N 65 9 = wI ρ A k 1 := by rw [e65]; exact wB_in (by omega) rfl
      have b10 : N 65 10 = wI ρ A k 2 := by rw [e65]; exact wB_in (by omega) rfl
      have b11 : N 65 11 = A 11 + k := by rw [e65, wB_11]; exact o3
      generalize hN2 : x_upd (x_upd (x_upd N 74 (k : Int) (N 65 8)) 75 (k : Int) (N 65 9)) 76 (k : Int) (N 65 10) = N2
      have oN2 : offR M N2 := by rw [← hN2]; exact offR_upd (offR_upd (offR_upd oN (by omega)) (by omega)) (by omega)
      have f65 : N2 65 = N 65 := by rw [← hN2]; funext j; rw [x_upd_nb (by decide), x_upd_nb (by decide), x_upd_nb (by decide)]
      have f77 : N2 77 = N 77 := by rw [← hN2]; funext j; rw [x_upd_nb (by decide), x_upd_nb (by decide), x_upd_nb (by decide)]
      have hw2 : wR ρ A ((k : Int) + 1) N2 := fun i i0 i1 => by
        rw [← hN2]
        by_cases hi : i = (k : Int)
        · subst hi
          rw [x_upd_nb (by decide), x_upd_nb (by decide), x_upd_at, x_upd_nb (by decide), x_upd_at, x_upd_at, b8, b9, b10]
          exact ⟨rfl, rfl, rfl⟩
        · rw [x_upd_nj hi, x_upd_nj hi, x_upd_nj hi, x_upd_nj hi, x_upd_nj hi, x_upd_nj hi, x_upd_nj hi, x_upd_nj hi, x_upd_nj hi]
          exact hw i i0 (by omega)
      have fin : xW Y_X10_layWinds g (d + 5) 0 0 8 [(0, vR (some 64)), (1, vI v), (2, vI ((k : Int) + 1)), (3, vI 0)] [] (0, 0) (n, P, N2) (kI n P F) := by
        refine b_X10_layWinds_8 hn hP ⟨fun _ => q_putBack hn hP (f65.trans e65) (fun i i0 i1 => by rw [f77]; exact e77 i i0 i1) ?_, fun z => absurd rfl z⟩
        rw [show (k : Int) + 1 = lz A v by omega] at hw2 ⊢
        refine H _ (offR_set oN2 (by omega)) (setA_at _ _ _) (fun i i0 i1 => ?_)
        rw [setA_ne (by decide), setA_ne (by decide), setA_ne (by decide)]
        exact hw2 i i0 i1
      have stop : xW Y_X10_layWinds g (d + 5) 0 0 76 [(0, vR (some 64)), (1, vI v), (2, vI ((k : Int) + 1))] [] (0, 0) (n, P, N2) (kI n P F) := b_X10_layWinds_76 hn hP (b_X10_layWinds_77 hn hP ⟨fun _ => fin, fun z => absurd rfl z⟩)
      refine b_X10_layWinds_8 hn hP ⟨fun z => absurd z (by decide), fun _ => ⟨by omega, by omega, by omega, by unfold inR; omega, ?_⟩⟩
      rw [hN2]
      refine ⟨fun _ => stop, fun hv2 => ⟨fun _ => stop, fun hl => ?_⟩⟩
      exfalso
      rw [b11] at hl
      unfold lz at hk hz
      by_cases hl2 : A 11 + v ≤ 10000
      · rw [if_pos hl2] at hk; omega
      · rw [if_neg hl2] at hk; omega
    | succ m ih =>
      intro k N hk oN e65 e77 hw
      obtain ⟨o0, o1, o2, o3, o4⟩ := wI_ok okr h k (by omega)
      have b8 : N 65 8 = wI ρ A k 0 := by rw [e65]; exact wB_in (by omega) rfl
      have b9 : N 65 9 = wI ρ A k 1 := by rw [e65]; exact wB_in (by omega) rfl
      have b10 : N 65 10 = wI ρ A k 2 := by rw [e65]; exact wB_in (by omega) rfl
      have b11 : N 65 11 = A 11 + k := by rw [e65, wB_11]; exact o3
      have b12 : N 65 12 = wI ρ A k 4 := by rw [e65]; exact wB_in (by omega) rfl
      have b2 : N 65 2 = A 2 := by rw [e65]; exact wB_out (by omega)
      generalize hN2 : x_upd (x_upd (x_upd N 74 (k : Int) (N 65 8)) 75 (k : Int) (N 65 9)) 76 (k : Int) (N 65 10) = N2
      have oN2 : offR M N2 := by rw [← hN2]; exact offR_upd (offR_upd (offR_upd oN (by omega)) (by omega)) (by omega)
      have f65 : N2 65 = N 65 := by rw [← hN2]; funext j; rw [x_upd_nb (by decide), x_upd_nb (by decide), x_upd_nb (by decide)]
      have f77 : N2 77 = N 77 := by rw [← hN2]; funext j; rw [x_upd_nb (by decide), x_upd_nb (by decide), x_upd_nb (by decide)]
      have hw2 : wR ρ A ((k : Int) + 1) N2 := fun i i0 i1 => by
        rw [← hN2]
        by_cases hi : i = (k : Int)
        · subst hi
          rw [x_upd_nb (by decide), x_upd_nb (by decide), x_upd_at, x_upd_nb (by decide), x_upd_at, x_upd_at, b8, b9, b10]
          exact ⟨rfl, rfl, rfl⟩
        · rw [x_upd_nj hi, x_upd_nj hi, x_upd_nj hi, x_upd_nj hi, x_upd_nj hi, x_upd_nj hi, x_upd_nj hi, x_upd_nj hi, x_upd_nj hi]
          exact hw i i0 (by omega)
      refine b_X10_layWinds_8 hn hP ⟨fun z => absurd z (by decide), fun _ => ⟨by omega, by omega, by omega, by unfold inR; omega, ?_⟩⟩
      rw [hN2]
      refine ⟨fun z => absurd z (by omega), fun _ => ⟨fun z => absurd z (by rw [b11]; omega), fun _ => b_X10_layWinds_77 hn hP ⟨fun z => absurd z (by decide), fun _ => ?_⟩⟩⟩
      have hx : 0 ≤ (wI ρ A k 4).tmod 10 ∧ (wI ρ A k 4).tmod 10 ≤ 9 := by rw [Int.tmod_eq_emod_of_nonneg o4.1]; omega
      refine c_X10_drawn hn hP (by rw [f65, b12]; exact o4) (by decide) ?_
      rw [f65, b12, Int.tmod_eq_emod_of_nonneg (show 0 ≤ wI ρ A k 4 * 331 + 223 by omega), x_upd_up N2, f65]
      have eD : up (N 65) 12 ((wI ρ A k 4 * 331 + 223) % 30389) = rDraw (wB A (wI ρ A k)) := by
        unfold rDraw
        rw [e65, wB_12]
      rw [eD]
      have s65 : setA N2 65 (rDraw (wB A (wI ρ A k))) 65 = rDraw (wB A (wI ρ A k)) := setA_at _ _ _
      have d2 : rDraw (wB A (wI ρ A k)) 2 = A 2 := by show wB A (wI ρ A k) 2 = A 2; exact wB_out (by omega)
      have d8 : rDraw (wB A (wI ρ A k)) 8 = wI ρ A k 0 := by show wB A (wI ρ A k) 8 = _; exact wB_in (by omega) rfl
      have d9 : rDraw (wB A (wI ρ A k)) 9 = wI ρ A k 1 := by show wB A (wI ρ A k) 9 = _; exact wB_in (by omega) rfl
      have d11 : rDraw (wB A (wI ρ A k)) 11 = A 11 + k := by show wB A (wI ρ A k) 11 = _; rw [wB_11]; exact o3
      have oS : offR M (setA N2 65 (rDraw (wB A (wI ρ A k)))) := offR_set oN2 (by omega)
      refine q_turnBy hn hP (ρ := ρ) (by rw [s65, d2]; exact rho_rf (rho_R oS hρ)) hx (by rw [s65, d11]; omega) (by rw [s65, d8]; exact o0) (by rw [s65, d9]; exact o1) (fun N3 o3' => ?_)
      rw [s65, wB_turn ρ A _ _ rfl, setA_setA] at o3'
      have e3 : N3 65 = wB A (wI ρ A (k + 1)) := by rw [o3'.1 65 (by decide) (by decide), setA_at]; rfl
      have := ih (k + 1) N3 (by omega) (offR_trans (offR_set oN2 (by omega)) (offL_R o3')) e3 (fun i i0 i1 => by rw [o3'.1 77 (by decide) (by decide), setA_ne (by decide), f77]; exact e77 i i0 i1) (fun i i0 i1 => by
        rw [o3'.1 74 (by decide) (by decide), o3'.1 75 (by decide) (by decide), o3'.1 76 (by decide) (by decide), setA_ne (by decide), setA_ne (by decide), setA_ne (by decide)]
        exact hw2 i i0 (by omega))
      rw [show (((k + 1 : Nat) : Nat) : Int) = (k : Int) + 1 by omega] at this
      exact this
  refine b_X10_layWinds hn hP (c_X10_begin hn hP ?_)
  rw [hA]
  refine loop (lz A v - 1).toNat 0 _ (by omega) (offR_blk (offR_refl M) (by omega)) ?_ (fun i i0 i1 => by rw [x_blk_in i0 (by omega)]) (fun i i0 i1 => absurd i1 (by omega))
  have : x_blk M 77 0 5 (fun j => A (8 + j)) 65 = A := by
    funext j
    rw [x_blk_out (fun z => absurd z.1 (by decide)), hA]
  rw [this]
  exact (wB_0 A).symm
end Winds
