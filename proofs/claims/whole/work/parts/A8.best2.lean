/-! harshest, best: the searches -/
section Best2
variable {g : Option Nat} {d n : Nat} {P : xP} {M : xM} {F : xM → Int → Prop} {G : xM → Prop}
theorem k_lookAtCalls (hn : 82 ≤ n) (hP : x_PP P) {A : Int → Int} {ρ : Option xTx} {c : Int} (h : relC A (CC M)) (hρ : rho M (A 2) ρ) (hc : 0 ≤ c ∧ c < A 0) (H : ∀ o M', clR n P M' o ρ → offC M M' → (∀ c, 1 ≤ c → c < 12 → M' c = M c) → M' 15 2 = x_enc o → wC ρ A (ls A (23 + A (20 + 7 * c + 2))) M' → G M') : xCV Y_X9_lookAtCalls none (d + 5) [vR (some 0), vI c] n P M G := by
  have a0 : A 0 = M 4 1 := h.1.1
  have hm := h.2.2.2.1.1
  obtain ⟨c8, t0, t1, t2, t3⟩ := oka_told ⟨_, h⟩ hc
  obtain ⟨k0, k1, k2, k3⟩ := relC_told h hc
  refine b_X9_lookAtCalls hn hP (k_ruling hn hP h hρ (fun o ho => c_X5_at hn hP (x_rows4 hn hP) (by omega) (by omega) (by omega) ?_))
  rw [show M (4 + 1) (4 * c + 2) = A (20 + 7 * c + 2) from k2.symm]
  exact ⟨by unfold inR; omega, k_look hn hP h ho (by omega) (fun M1 o1 e1 q1 hw => H o M1 (clR_C o1 ho) o1 e1 q1 hw)⟩
theorem k_gravest (hn : 82 ≤ n) (hP : x_PP P) {A : Int → Int} {o : Option Nat} {ρ : Option xTx} {c : Int} (h : relC A (CC M)) (hR : clR n P M o ρ) (hw : wC ρ A (ls A (23 + A (20 + 7 * c + 2))) M) (h2 : M 15 2 = x_enc o) (hc : 0 ≤ c ∧ c < A 0) (H : ∀ M', offW M M' → F M' (hsF (eO ρ A c) 84)) : xCI Y_X1_gravest g (d + 5) [vR (some 15), vI c] n P M F := by
  have a0 : A 0 = M 4 1 := h.1.1
  have hm := h.2.2.2.1.1
  have ok : oka A := ⟨_, h⟩
  obtain ⟨c8, t0, t1, t2, t3⟩ := oka_told ok hc
  obtain ⟨k0, k1, k2, k3⟩ := relC_told h hc
  have inner : ∀ (k : Nat), k ≤ 20 → (∀ N, offW M N → xW Y_X1_gravest g (d + 5) 0 0 18 [(0, vR (some 15)), (1, vI c), (2, vI (A (20 + 7 * c + 2))), (3, vI (hsF (eO ρ A c) (4 * (k + 1)))), (4, vI ((k + 1 : Nat) : Int))] [] (0, 0) (n, P, N) (kI n P F)) → ∀ (m e : Nat), e + m = 4 → ∀ N, offW M N → xW Y_X1_gravest g (d + 5) 0 0 28 [(0, vR (some 15)), (1, vI c), (2, vI (A (20 + 7 * c + 2))), (3, vI (hsF (eO ρ A c) (4 * k + e))), (4, vI (k : Int)), (5, vI (e : Int))] [] (0, 0) (n, P, N) (kI n P F) := by
    intro k hk nx m
    induction m with
    | zero =>
      intro e he N oN
      refine b_X1_gravest_28 hn hP ⟨fun _ => ⟨by unfold inR; omega, ?_⟩, fun z => absurd z (by omega)⟩
      have := nx N oN
      rw [show 4 * (k + 1) = 4 * k + e by omega, show (((k + 1 : Nat) : Nat) : Int) = (k : Int) + 1 by omega] at this
      exact this
    | succ m ih =>
      intro e he N oN
      refine b_X1_gravest_28 hn hP ⟨fun z => absurd z (by omega), fun _ => ⟨by unfold inR; omega, k_eO hn hP (relC_same h (offW_k oN)) (clR_C (offW_C oN) hR) (wC_W oN hw) (by rw [oN 15 (by omega)]; exact h2) (by omega) hc (by omega) (by omega) (fun N2 o2 => k_max hn ⟨by unfold inR; omega, ?_⟩)⟩⟩
      have := ih (e + 1) (by omega) N2 (offW_trans oN o2)
      rw [show 4 * k + (e + 1) = 4 * k + e + 1 by omega, hsF_s _ k e (by omega), show (((e + 1 : Nat) : Nat) : Int) = (e : Int) + 1 by omega] at this
      exact this
  have outer : ∀ (m k : Nat), k + m = 21 → ∀ N, offW M N → xW Y_X1_gravest g (d + 5) 0 0 18 [(0, vR (some 15)), (1, vI c), (2, vI (A (20 + 7 * c + 2))), (3, vI (hsF (eO ρ A c) (4 * k))), (4, vI (k : Int))] [] (0, 0) (n, P, N) (kI n P F) := by
    intro m
    induction m with
    | zero =>
      intro k hk N oN
      refine b_X1_gravest_18 hn hP ⟨fun _ => ?_, fun z => absurd z (by omega)⟩
      rw [show 4 * k = 84 by omega]
      exact H N oN
    | succ m ih =>
      intro k hk N oN
      exact b_X1_gravest_18 hn hP ⟨fun z => absurd z (by omega), fun _ => inner k (by omega) (ih (k + 1) (by omega)) 4 0 (by omega) N oN⟩
  refine b_X1_gravest hn hP (c_X5_at hn hP (x_rows4 hn hP) (by omega) (by omega) (by omega) ?_)
  rw [show M (4 + 1) (4 * c + 2) = A (20 + 7 * c + 2) from k2.symm]
  exact outer 21 0 (by omega) M (offW_refl M)
theorem q_harshest (hn : 82 ≤ n) (hP : x_PP P) {ρ : Option xTx} {c : Int} (hρ : rho M (M 65 2) ρ) (h : oka (M 65)) (H0 : ¬ wt (M 65) c → F M (-1)) (H1 : wt (M 65) c → ∀ M', offR M M' → M' 65 = M 65 → F M' (hsF (eO ρ (M 65) c) 84)) : xCI Y_X10_harshest g (d + 6) [vR (some 64), vI c] n P M F := by
  refine b_X10_harshest hn hP (q_isWaiting hn hP h ⟨fun hz => ?_, fun hz => H0 (bi_0.mp hz)⟩)
  have hc := bi_n0.mp hz
  refine q_layWinds hn hP hρ h (by omega) (fun M1 o1 e1 w1 => ?_)
  have H := H1 hc
  generalize hA : M 65 = A at *
  obtain ⟨c8, t0, t1, t2, t3⟩ := oka_told h hc.1
  have inner : ∀ (k : Nat), k ≤ 20 → (∀ N, offE M1 N → xW Y_X10_harshest g (d + 6) 0 0 21 [(0, vR (some 64)), (1, vI c), (2, vI (hsF (eO ρ A c) (4 * (k + 1)))), (3, vI ((k + 1 : Nat) : Int))] [] (0, 0) (n, P, N) (kI n P F)) → ∀ (m e : Nat), e + m = 4 → ∀ N, offE M1 N → xW Y_X10_harshest g (d + 6) 0 0 30 [(0, vR (some 64)), (1, vI c), (2, vI (hsF (eO ρ A c) (4 * k + e))), (3, vI (k : Int)), (4, vI (e : Int))] [] (0, 0) (n, P, N) (kI n P F) := by
    intro k hk nx m
    induction m with
    | zero =>
      intro e he N oN
      refine b_X10_harshest_30 hn hP ⟨fun _ => ⟨by unfold inR; omega, ?_⟩, fun z => absurd z (by omega)⟩
      have := nx N oN
      rw [show 4 * (k + 1) = 4 * k + e by omega, show (((k + 1 : Nat) : Nat) : Int) = (k : Int) + 1 by omega] at this
      exact this
    | succ m ih =>
      intro e he N oN
      have n65 : N 65 = A := (offE_65 oN).trans e1
      have p0 := hsF_0 (eO ρ A c) (4 * k + e)
      have nxt : ∀ N2 s, offE M1 N2 → s = hsF (eO ρ A c) (4 * k + e + 1) → xW Y_X10_harshest g (d + 6) 0 0 60 [(0, vR (some 64)), (1, vI c), (2, vI s), (3, vI (k : Int)), (4, vI (e : Int))] [] (0, 0) (n, P, N2) (kI n P F) := by
        intro N2 s o2 hs
        subst hs
        have := ih (e + 1) (by omega) N2 o2
        rw [show 4 * k + (e + 1) = 4 * k + e + 1 by omega, show (((e + 1 : Nat) : Nat) : Int) = (e : Int) + 1 by omega] at this
        exact b_X10_harshest_60 hn hP ⟨by unfold inR; omega, this⟩
      refine b_X10_harshest_30 hn hP ⟨fun z => absurd z (by omega), fun _ => ?_⟩
      have hwN : wR ρ (N 65) (lz (N 65) 40) N := by rw [n65]; exact wR_E oN w1
      refine q_eO hn hP (ρ := ρ) (by rw [n65]; exact rho_R (offR_trans o1 (offE_R oN)) hρ) (by rw [n65]; exact h) hwN (by rw [n65]; exact hc.1) (by omega) (fun hq => ⟨fun _ => ?_, fun z => absurd rfl z⟩) (fun hq N2 o2 g1 g2 => ⟨fun z => absurd z (by decide), fun _ => ?_⟩)
      · rw [n65] at hq
        refine nxt N _ oN ?_
        rw [hsF_s _ k e (by omega), hq, if_neg (by omega)]
      · rw [n65] at hq g2
        have o12 := offE_trans oN o2
        have er := eO_r (ρ := ρ) h hc.1 (k := (k : Int)) (e := (e : Int)) (by omega)
        rw [g2]
        by_cases h1 : eO ρ A c k e = -1
        · rw [if_pos h1]
          refine ⟨fun _ => nxt N2 _ o12 ?_, fun z => absurd p0 z⟩
          rw [hsF_s _ k e (by omega), h1, if_neg (by omega)]
        · rw [if_neg h1]
          refine ⟨fun hl => nxt N2 _ o12 ?_, fun hl => nxt N2 _ o12 ?_⟩
          · rw [hsF_s _ k e (by omega)]
            split <;> omega
          · rw [hsF_s _ k e (by omega), if_pos (by omega)]
  have outer : ∀ (m k : Nat), k + m = 21 → ∀ N, offE M1 N → xW Y_X10_harshest g (d + 6) 0 0 21 [(0, vR (some 64)), (1, vI c), (2, vI (hsF (eO ρ A c) (4 * k))), (3, vI (k : Int))] [] (0, 0) (n, P, N) (kI n P F) := by
    intro m
    induction m with
    | zero =>
      intro k hk N oN
      refine b_X10_harshest_21 hn hP ⟨fun _ => ?_, fun z => absurd z (by omega)⟩
      rw [show 4 * k = 84 by omega]
      exact H N (offR_trans o1 (offE_R oN)) ((offE_65 oN).trans e1)
    | succ m ih =>
      intro k hk N oN
      exact b_X10_harshest_21 hn hP ⟨fun z => absurd z (by omega), fun _ => inner k (by omega) (ih (k + 1) (by omega)) 4 0 (by omega) N oN⟩
  exact outer 21 0 (by omega) M1 (offE_refl M1)
theorem op_harshest (hn : 82 ≤ n) (hP : x_PP P) {c : Int} (h : Rel M) : op2 n P Y_X9_harshest Y_X10_harshest (d + 100) [vI c] M := by
  obtain ⟨ρ, hρ⟩ := Rel_rul h
  have ok := Rel_oka h
  refine b_X9_harshest hn hP (k_isWaiting hn hP h.1 ⟨fun hz => ?_, fun hz => op_q h (offC_refl M) (fun _ _ _ => rfl) (fun F HF => q_harshest hn hP hρ ok (fun _ => HF M (offR_refl M) rfl) (fun z => absurd z (bi_0.mp hz)))⟩)
  have hc := bi_n0.mp hz
  refine k_lookAtCalls hn hP h.1 hρ hc.1 (fun o M1 ho o1 e1 q1 hw => k_gravest hn hP (relC_same h.1 e1) ho hw q1 hc.1 (fun M2 o2 => ?_))
  have o12 := offC_trans o1 (offW_C o2)
  have e65 := offC_65 o12
  exact op_q h o12 (fun c c0 c1 => (offW_k o2 c c0 c1).trans (e1 c c0 c1)) (fun F HF => q_harshest (ρ := ρ) hn hP (by rw [e65]; exact rho_C o12 hρ) (by rw [e65]; exact ok) (fun z => absurd (by rw [e65]; exact hc) z) (fun _ M' o' e' => by rw [e65]; exact HF M' o' e'))
theorem k_soonest (hn : 82 ≤ n) (hP : x_PP P) {A : Int → Int} {o : Option Nat} {ρ : Option xTx} {c y : Int} (h : relC A (CC M)) (hR : clR n P M o ρ) (hw : wC ρ A (ls A (23 + A (20 + 7 * c + 2))) M) (h2 : M 15 2 = x_enc o) (hc : 0 ≤ c ∧ c < A 0) (H0 : (∀ k e, inKE k e → ¬ hitB (eO ρ A c) y k e) → ∀ M', offW M M' → F M' (-1)) (H1 : ∀ k e, isB (eO ρ A c) y k e → ∀ M', offW M M' → F M' (4 * k + e)) : xCI Y_X1_soonest g (d + 5) [vR (some 15), vI c, vI y] n P M F := by
  have a0 : A 0 = M 4 1 := h.1.1
  have hm := h.2.2.2.1.1
  have ok : oka A := ⟨_, h⟩
  obtain ⟨c8, t0, t1, t2, t3⟩ := oka_told ok hc
  obtain ⟨k0, k1, k2, k3⟩ := relC_told h hc
  have inner : ∀ (L : Int), 0 ≤ L → L ≤ 23 → (∀ k e, inKE k e → k + e < L → ¬ hitB (eO ρ A c) y k e) → ((∀ k e, inKE k e → k + e < L + 1 → ¬ hitB (eO ρ A c) y k e) → ∀ N, offW M N → xW Y_X1_soonest g (d + 5) 0 0 16 [(0, vR (some 15)), (1, vI c), (2, vI y), (3, vI (A (20 + 7 * c + 2))), (4, vI (L + 1))] [] (0, 0) (n, P, N) (kI n P F)) → ∀ (m : Nat) (k : Int), 0 ≤ k → L - 3 ≤ k → k + m = (if L ≤ 20 then L else 20) + 1 → (∀ k' e', inKE k' e' → k' + e' = L → k' < k → ¬ hitB (eO ρ A c) y k' e') → ∀ N, offW M N → xW Y_X1_soonest g (d + 5) 0 0 33 [(0, vR (some 15)), (1, vI c), (2, vI y), (3, vI (A (20 + 7 * c + 2))), (4, vI L), (5, vI k)] [] (0, 0) (n, P, N) (kI n P F) := by
    intro L hL0 hL1 hno nx m
    induction m with
    | zero =>
      intro k hk0 hk1 hk hno2 N oN
      refine b_X1_soonest_33 hn hP (k_min hn ⟨fun _ => ⟨by unfold inR; omega, nx (fun k' e' hi hs => ?_) N oN⟩, fun z => absurd z (by omega)⟩)
      by_cases hlt : k' + e' < L
      · exact hno k' e' hi hlt
      · refine hno2 k' e' hi (by omega) ?_
        split at hk <;> omega
    | succ m ih =>
      intro k hk0 hk1 hk hno2 N oN
      have hkr : inKE k (L - k) := by split at hk <;> omega
      have skip : ¬ hitB (eO ρ A c) y k (L - k) → ∀ N2, offW M N2 → xW Y_X1_soonest g (d + 5) 0 0 94 [(0, vR (some 15)), (1, vI c), (2, vI y), (3, vI (A (20 + 7 * c + 2))), (4, vI L), (5, vI k)] [] (0, 0) (n, P, N2) (kI n P F) := by
        intro hh N2 o2
        refine b_X1_soonest_94 hn hP ⟨by unfold inR; omega, ih (k + 1) (by omega) (by omega) (by omega) (fun k' e' hi hs hlt => ?_) N2 o2⟩
        by_cases hkk : k' = k
        · subst hkk
          rw [show e' = L - k' by omega]
          exact hh
        · exact hno2 k' e' hi hs (by omega)
      refine b_X1_soonest_33 hn hP (k_min hn ⟨fun z => absurd z (by omega), fun _ => ⟨by unfold inR; omega, by unfold inR; omega, ?_⟩⟩)
      rw [show A (20 + 7 * c + 2) + L - k = A (20 + 7 * c + 2) + (L - k) by omega]
      refine k_eO hn hP (relC_same h (offW_k oN)) (clR_C (offW_C oN) hR) (wC_W oN hw) (by rw [oN 15 (by omega)]; exact h2) (by omega) hc hkr (by omega) (fun N2 o2 => ?_)
      have o12 := offW_trans oN o2
      have found : hitB (eO ρ A c) y k (L - k) → F N2 (4 * k + L - k) := fun hh => by
        rw [show 4 * k + L - k = 4 * k + (L - k) by omega]
        refine H1 k (L - k) ⟨hh, hkr, fun k' e' hi hh' => ?_⟩ N2 o12
        by_cases hlt : k' + e' < L
        · exact absurd hh' (hno k' e' hi hlt)
        · by_cases heq : k' + e' = L
          · by_cases hkk : k' < k
            · exact absurd hh' (hno2 k' e' hi heq hkk)
            · omega
          · omega
      refine ⟨fun hq => skip (fun z => z.1 hq) N2 o12, fun hq => ⟨fun h1 => b_X1_soonest_79 hn hP ⟨fun hy => skip (fun z => hy ?_) N2 o12, fun hy => ⟨by unfold inR; omega, by unfold inR; omega, by unfold inR; omega, found ⟨hq, ?_⟩⟩⟩, fun h1 => b_X1_soonest_79 hn hP ⟨fun hy => skip (fun z => hy ?_) N2 o12, fun hy => ⟨by unfold inR; omega, by unfold inR; omega, by unfold inR; omega, found ⟨hq, ?_⟩⟩⟩⟩⟩
      · rw [← z.2, bi_f (fun q => q h1)]
      · rw [bi_f (fun q => q h1)]; exact hy
      · rw [← z.2, bi_t h1]
      · rw [bi_t h1]; exact hy
  have outer : ∀ (m : Nat) (L : Int), 0 ≤ L → L + m = 24 → (∀ k e, inKE k e → k + e < L → ¬ hitB (eO ρ A c) y k e) → ∀ N, offW M N → xW Y_X1_soonest g (d + 5) 0 0 16 [(0, vR (some 15)), (1, vI c), (2, vI y), (3, vI (A (20 + 7 * c + 2))), (4, vI L)] [] (0, 0) (n, P, N) (kI n P F) := by
    intro m
    induction m with
    | zero =>
      intro L hL hk hno N oN
      exact b_X1_soonest_16 hn hP ⟨fun _ => H0 (fun k e hi => hno k e hi (by omega)) N oN, fun z => absurd z (by omega)⟩
    | succ m ih =>
      intro L hL hk hno N oN
      refine b_X1_soonest_16 hn hP ⟨fun z => absurd z (by omega), fun _ => ⟨by unfold inR; omega, k_max hn ?_⟩⟩
      refine inner L hL (by omega) hno (fun hno' N2 o2 => ih (L + 1) (by omega) (by omega) hno' N2 o2) ((if L ≤ 20 then L else 20) + 1 - (if 0 ≤ L - 3 then L - 3 else 0)).toNat _ ?_ ?_ ?_ (fun k' e' hi hs hlt => ?_) N oN
      · split <;> omega
      · split <;> omega
      · split <;> split <;> omega
      · split at hlt <;> omega
  refine b_X1_soonest hn hP (c_X5_at hn hP (x_rows4 hn hP) (by omega) (by omega) (by omega) ?_)
  rw [show M (4 + 1) (4 * c + 2) = A (20 + 7 * c + 2) from k2.symm]
  exact outer 24 0 (by omega) (by omega) (fun k e hi hs => absurd hs (by omega)) M (offW_refl M)
theorem q_best (hn : 82 ≤ n) (hP : x_PP P) {ρ : Option xTx} {c y w : Int} (hρ : rho M (M 65 2) ρ) (h : oka (M 65)) (H0 : ¬ (wt (M 65) c ∧ (0 ≤ w ∧ w ≤ 2)) → F M (-1)) (H1 : wt (M 65) c ∧ (0 ≤ w ∧ w ≤ 2) → (∀ k e, inKE k e → ¬ hitB (eO ρ (M 65) c) y k e) → ∀ M', offR M M' → M' 65 = M 65 → F M' (-1)) (H2 : wt (M 65) c ∧ (0 ≤ w ∧ w ≤ 2) → ∀ k e, isB (eO ρ (M 65) c) y k e → ∀ M', offR M M' → M' 65 = M 65 → F M' (if w = 0 then k else if w = 1 then e else k + e + M 65 (20 + 7 * c + 2))) : xCI Y_X10_best g (d + 6) [vR (some 64), vI c, vI y, vI w] n P M F := by
  refine b_X10_best hn hP (q_isWaiting hn hP h ⟨fun hz => H0 (fun z => bi_0.mp hz z.1), fun hz => c_X10_isIn hn ⟨fun hx => ?_, fun hx => H0 (fun z => bi_0.mp hx z.2)⟩⟩)
  have hc := bi_n0.mp hz
  have hw := bi_n0.mp hx
  refine q_layWinds hn hP hρ h (by omega) (fun M1 o1 e1 w1 => ?_)
  have H1 := H1 ⟨hc, hw⟩
  have H2 := H2 ⟨hc, hw⟩
  generalize hA : M 65 = A at *
  obtain ⟨c8, t0, t1, t2, t3⟩ := oka_told h hc.1
  -- what was found of those before (k, e)
  let bst : Int → Int → Int → Int → Prop := fun f1 f2 k e => (f1 = -1 ∧ f2 = 0 ∧ ∀ k' e', inKE k' e' → (k' < k ∨ (k' = k ∧ e' < e)) → ¬ hitB (eO ρ A c) y k' e') ∨ (hitB (eO ρ A c) y f1 f2 ∧ inKE f1 f2 ∧ f1 ≤ k ∧ ∀ k' e', inKE k' e' → (k' < k ∨ (k' = k ∧ e' < e)) → hitB (eO ρ A c) y k' e' → f1 + f2 < k' + e' ∨ (f1 + f2 = k' + e' ∧ f1 ≤ k'))
  have inner : ∀ (k : Int), 0 ≤ k → k ≤ 20 → (∀ N f1 f2, offE M1 N → bst f1 f2 (k + 1) 0 → xW Y_X10_best g (d + 6) 0 0 35 [(0, vR (some 64)), (1, vI c), (2, vI y), (3, vI w), (4, vI f1), (5, vI f2), (6, vI (k + 1))] [] (0, 0) (n, P, N) (kI n P F)) → ∀ (m : Nat) (e : Int), 0 ≤ e → e + m = 4 → ∀ N f1 f2, offE M1 N → bst f1 f2 k e → xW Y_X10_best g (d + 6) 0 0 45 [(0, vR (some 64)), (1, vI c), (2, vI y), (3, vI w), (4, vI f1), (5, vI f2), (6, vI k), (7, vI e)] [] (0, 0) (n, P, N) (kI n P F) := by
    intro k hk0 hk1 nx m
    induction m with
    | zero =>
      intro e he0 he N f1 f2 oN hb
      refine b_X10_best_45 hn hP ⟨fun _ => ⟨by unfold inR; omega, nx N f1 f2 oN ?_⟩, fun z => absurd z (by omega)⟩
      rcases hb with ⟨b1, b2, b3⟩ | ⟨b1, b2, b3, b4⟩
      · exact Or.inl ⟨b1, b2, fun k' e' hi hs => b3 k' e' hi (by omega)⟩
      · exact Or.inr ⟨b1, b2, by omega, fun k' e' hi hs => b4 k' e' hi (by omega)⟩
    | succ m ih =>
      intro e he0 he N f1 f2 oN hb
      have hke : inKE k e := by omega
      have n65 : N 65 = A := (offE_65 oN).trans e1
      have step : ∀ N2 f1 f2, offE M1 N2 → bst f1 f2 k (e + 1) → xW Y_X10_best g (d + 6) 0 0 101 [(0, vR (some 64)), (1, vI c), (2, vI y), (3, vI w), (4, vI f1), (5, vI f2), (6, vI k), (7, vI e)] [] (0, 0) (n, P, N2) (kI n P F) := fun N2 f1 f2 o2 hb2 => b_X10_best_101 hn hP ⟨by unfold inR; omega, ih (e + 1) (by omega) (by omega) N2 f1 f2 o2 hb2⟩
      have keep : (hitB (eO ρ A c) y k e → f1 ≠ -1 ∧ f1 + f2 ≤ k + e) → bst f1 f2 k (e + 1) := fun hh => by
        rcases hb with ⟨b1, b2, b3⟩ | ⟨b1, b2, b3, b4⟩
        · refine Or.inl ⟨b1, b2, fun k' e' hi hs hq => ?_⟩
          by_cases hkk : k' = k ∧ e' = e
          · rw [hkk.1, hkk.2] at hq
            exact (hh hq).1 b1
          · exact b3 k' e' hi (by omega) hq
        · refine Or.inr ⟨b1, b2, b3, fun k' e' hi hs hq => ?_⟩
          by_cases hkk : k' = k ∧ e' = e
          · rw [hkk.1, hkk.2] at hq
            have := hh hq
            omega
          · exact b4 k' e' hi (by omega) hq
      have try70 : (f1 = -1 ∨ k + e < f1 + f2) → xW Y_X10_best g (d + 6) 0 0 70 [(0, vR (some 64)), (1, vI c), (2, vI y), (3, vI w), (4, vI f1), (5, vI f2), (6, vI k), (7, vI e)] [] (0, 0) (n, P, N) (kI n P F) := by
        intro hf
        have hwN : wR ρ (N 65) (lz (N 65) 40) N := by rw [n65]; exact wR_E oN w1
        refine b_X10_best_70 hn hP (q_eO hn hP (ρ := ρ) (by rw [n65]; exact rho_R (offR_trans o1 (offE_R oN)) hρ) (by rw [n65]; exact h) hwN (by rw [n65]; exact hc.1) hke (fun hq => ⟨fun _ => step N f1 f2 oN (keep (fun z => absurd (by rw [n65] at hq; exact hq) z.1)), fun z => absurd rfl z⟩) (fun hq N2 o2 g1 g2 => ⟨fun z => absurd z (by decide), fun _ => ?_⟩))
        rw [n65] at hq g1
        have o12 := offE_trans oN o2
        rw [g1]
        refine ⟨fun hy => step N2 k e o12 (Or.inr ⟨⟨hq, hy⟩, hke, by omega, fun k' e' hi hs hh => ?_⟩), fun hy => step N2 f1 f2 o12 (keep (fun z => absurd z.2 hy))⟩
        by_cases hkk : k' = k ∧ e' = e
        · omega
        · rcases hb with ⟨b1, b2, b3⟩ | ⟨b1, b2, b3, b4⟩
          · exact absurd hh (b3 k' e' hi (by omega))
          · have := b4 k' e' hi (by omega) hh
            omega
      refine b_X10_best_45 hn hP ⟨fun z => absurd z (by omega), fun _ => ⟨fun hf => try70 (Or.inl hf), fun hf => ?_⟩⟩
      have fr : inKE f1 f2 := by
        rcases hb with ⟨b1, _, _⟩ | ⟨_, b2, _, _⟩
        · exact absurd b1 hf
        · exact b2
      exact ⟨by unfold inR; omega, by unfold inR; omega, fun hl => step N f1 f2 oN (keep (fun _ => ⟨hf, hl⟩)), fun hl => try70 (Or.inr (by omega))⟩
  have outer : ∀ (m : Nat) (k : Int), 0 ≤ k → k + m = 21 → ∀ N f1 f2, offE M1 N → bst f1 f2 k 0 → xW Y_X10_best g (d + 6) 0 0 35 [(0, vR (some 64)), (1, vI c), (2, vI y), (3, vI w), (4, vI f1), (5, vI f2), (6, vI k)] [] (0, 0) (n, P, N) (kI n P F) := by
    intro m
    induction m with
    | zero =>
      intro k hk0 hk N f1 f2 oN hb
      have n65 : N 65 = A := (offE_65 oN).trans e1
      have oR := offR_trans o1 (offE_R oN)
      refine b_X10_best_35 hn hP ⟨fun _ => ⟨fun hf => ?_, fun hf => ?_⟩, fun z => absurd z (by omega)⟩
      · have hB : isB (eO ρ A c) y f1 f2 := by
          rcases hb with ⟨b1, _, _⟩ | ⟨b1, b2, b3, b4⟩
          · exact absurd b1 hf
          · exact ⟨b1, b2, fun k' e' hi hh => b4 k' e' hi (by omega) hh⟩
        have fr := hB.2.1
        have HH := H2 f1 f2 hB N oR n65
        refine ⟨fun w0 => ⟨fun w1 => ⟨by unfold inR; omega, c_X10_get hn hP c8 (by omega) ?_⟩, fun w1 => ?_⟩, fun w0 => ?_⟩
        · rw [if_neg w0, if_neg w1] at HH
          rw [n65]
          exact ⟨by unfold inR; omega, HH⟩
        · rwa [if_neg w0, if_pos w1] at HH
        · rwa [if_pos w0] at HH
      · refine H1 (fun k' e' hi hh => ?_) N oR n65
        rcases hb with ⟨_, _, b3⟩ | ⟨_, b2, _, _⟩
        · exact b3 k' e' hi (by omega) hh
        · omega
    | succ m ih =>
      intro k hk0 hk N f1 f2 oN hb
      exact b_X10_best_35 hn hP ⟨fun z => absurd z (by omega), fun _ => inner k hk0 (by omega) (fun N2 f1 f2 o2 hb2 => ih (k + 1) (by omega) (by omega) N2 f1 f2 o2 hb2) 4 0 (by omega) (by omega) N f1 f2 oN hb⟩
  exact outer 21 0 (by omega) (by omega) M1 (-1) 0 (offE_refl M1) (Or.inl ⟨rfl, rfl, fun k' e' hi hs => absurd hs (by omega)⟩)
theorem op_best (hn : 82 ≤ n) (hP : x_PP P) {c y w : Int} (h : Rel M) : op2 n P Y_X9_best Y_X10_best (d + 100) [vI c, vI y, vI w] M := by
  obtain ⟨ρ, hρ⟩ := Rel_rul h
  have ok := Rel_oka h
  have no : ¬ (wt (M 65) c ∧ (0 ≤ w ∧ w ≤ 2)) → xCI Y_X10_best none (d + 100) [vR (some 64), vI c, vI y, vI w] n P M (fun M2 z2 => z2 = -1 ∧ Rel M2) := fun hh => op_q h (offC_refl M) (fun _ _ _ => rfl) (fun F HF => q_best hn hP hρ ok (fun _ => HF M (offR_refl M) rfl) (fun z => absurd z hh) (fun z => absurd z hh))
  refine b_X9_best hn hP (k_isWaiting hn hP h.1 ⟨fun hz => no (fun z => bi_0.mp hz z.1), fun hz => c_X9_within hn ⟨fun hx => ?_, fun hx => no (fun z => bi_0.mp hx z.2)⟩⟩)
  have hc := bi_n0.mp hz
  have hw := bi_n0.mp hx
  have a0 : M 65 0 = M 4 1 := h.1.1.1
  have hm := h.1.2.2.2.1.1
  obtain ⟨c8, t0, t1, t2, t3⟩ := oka_told ok hc.1
  obtain ⟨k0, k1, k2, k3⟩ := relC_told h.1 hc.1
  have ref : ∀ M2, offC M M2 → (∀ c, 1 ≤ c → c < 12 → M2 c = M c) → ∀ z, ((∀ k e, inKE k e → ¬ hitB (eO ρ (M 65) c) y k e) → z = -1) → (∀ k e, isB (eO ρ (M 65) c) y k e → z = if w = 0 then k else if w = 1 then e else k + e + M 65 (20 + 7 * c + 2)) → xCI Y_X10_best none (d + 100) [vR (some 64), vI c, vI y, vI w] n P M2 (fun M2 z2 => z2 = z ∧ Rel M2) := by
    intro M2 o2 e2 z z1 z2
    have e65 := offC_65 o2
    refine op_q h o2 e2 (fun F HF => q_best (ρ := ρ) hn hP (by rw [e65]; exact rho_C o2 hρ) (by rw [e65]; exact ok) (fun q => absurd (by rw [e65]; exact ⟨hc, hw⟩) q) (fun _ hno M' o' e' => ?_) (fun _ k e hB M' o' e' => ?_))
    · rw [e65] at hno
      rw [← z1 hno]
      exact HF M' o' e'
    · rw [e65] at hB ⊢
      rw [← z2 k e hB]
      exact HF M' o' e'
  refine k_lookAtCalls hn hP h.1 hρ hc.1 (fun o M1 ho o1 e1 q1 hw1 => k_soonest hn hP (relC_same h.1 e1) ho hw1 q1 hc.1 (fun hno M2 o2 => ⟨fun z => absurd rfl z, fun _ => ?_⟩) (fun k e hB M2 o2 => ⟨fun _ => ?_, fun z => absurd z (by have := hB.2.1; omega)⟩))
  · exact ref M2 (offC_trans o1 (offW_C o2)) (fun c c0 c1 => (offW_k o2 c c0 c1).trans (e1 c c0 c1)) (-1) (fun _ => rfl) (fun k e hB => absurd hB.1 (hno k e hB.2.1))
  · have fr := hB.2.1
    have t4 : (4 * k + e).tdiv 4 = k := by rw [Int.tdiv_eq_ediv_of_nonneg (by omega)]; omega
    have m4 : (4 * k + e).tmod 4 = e := by rw [Int.tmod_eq_emod_of_nonneg (by omega)]; omega
    rw [t4, m4]
    have e12 : ∀ c, 1 ≤ c → c < 12 → M2 c = M c := fun c c0 c1 => (offW_k o2 c c0 c1).trans (e1 c c0 c1)
    have go : ∀ z, z = (if w = 0 then k else if w = 1 then e else k + e + M 65 (20 + 7 * c + 2)) → xCI Y_X10_best none (d + 100) [vR (some 64), vI c, vI y, vI w] n P M2 (fun M2 z2 => z2 = z ∧ Rel M2) := fun z hz' => ref M2 (offC_trans o1 (offW_C o2)) e12 z (fun hno => absurd hB.1 (hno k e fr)) (fun k' e' hB' => by
      obtain ⟨q1, q2⟩ := isB_uniq hB hB'
      rw [hz', q1, q2])
    refine ⟨by unfold inR; omega, fun w0 => ⟨fun w1 => ⟨by unfold inR; omega, c_X5_at hn hP (x_rows4 hn hP) (by rw [e12 4 (by omega) (by omega)]; omega) (by rw [e12 4 (by omega) (by omega)]; omega) (by omega) ?_⟩, fun w1 => go _ ?_⟩, fun w0 => go _ ?_⟩
    · rw [show M2 (4 + 1) (4 * c + 2) = M 65 (20 + 7 * c + 2) by rw [e12 (4 + 1) (by omega) (by omega)]; exact k2.symm]
      exact ⟨by unfold inR; omega, go _ (by rw [if_neg w0, if_neg w1])⟩
    · rw [if_neg w0, if_pos w1]
    · rw [if_pos w0]
end Best2
