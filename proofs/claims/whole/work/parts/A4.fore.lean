/-! foretold, calm, standing -/
abbrev isCl (ρ : Option xTx) (A : Int → Int) (k : Nat) : Prop := wI ρ A k 1 = 0 ∨ wI ρ A k 2 = 1
/-- longest and run -/
def cmW (ρ : Option xTx) (A : Int → Int) : Nat → Int × Int
  | 0 => (0, 0)
  | k + 1 => (if (cmW ρ A k).1 ≤ (if isCl ρ A k then (cmW ρ A k).2 + 1 else 0) then (if isCl ρ A k then (cmW ρ A k).2 + 1 else 0) else (cmW ρ A k).1, if isCl ρ A k then (cmW ρ A k).2 + 1 else 0)
theorem cmW_r (ρ : Option xTx) (A : Int → Int) : ∀ k : Nat, (0 ≤ (cmW ρ A k).1 ∧ (cmW ρ A k).1 ≤ k) ∧ (0 ≤ (cmW ρ A k).2 ∧ (cmW ρ A k).2 ≤ k)
  | 0 => ⟨⟨Int.le_refl _, Int.le_refl _⟩, ⟨Int.le_refl _, Int.le_refl _⟩⟩
  | k + 1 => by
    have ih := cmW_r ρ A k
    have e2 : (cmW ρ A (k + 1)).2 = if isCl ρ A k then (cmW ρ A k).2 + 1 else 0 := rfl
    have e1 : (cmW ρ A (k + 1)).1 = if (cmW ρ A k).1 ≤ (if isCl ρ A k then (cmW ρ A k).2 + 1 else 0) then (if isCl ρ A k then (cmW ρ A k).2 + 1 else 0) else (cmW ρ A k).1 := rfl
    rw [e1, e2]
    by_cases hc : isCl ρ A k
    · rw [if_pos hc]
      split <;> omega
    · rw [if_neg hc]
      split <;> omega
def stW (ρ : Option xTx) (A : Int → Int) (q : Int) : Nat → Int
  | 0 => 0
  | k + 1 => stW ρ A q k + (if wI ρ A k 0 = q then 1 else 0)
theorem stW_r (ρ : Option xTx) (A : Int → Int) (q : Int) : ∀ k : Nat, 0 ≤ stW ρ A q k ∧ stW ρ A q k ≤ k
  | 0 => ⟨Int.le_refl _, Int.le_refl _⟩
  | k + 1 => by
    have ih := stW_r ρ A q k
    show 0 ≤ stW ρ A q k + (if wI ρ A k 0 = q then 1 else 0) ∧ stW ρ A q k + (if wI ρ A k 0 = q then 1 else 0) ≤ _
    split <;> omega
theorem ls_r {A : Int → Int} (h : oka A) {v : Int} (hv : 0 ≤ v ∧ v ≤ 60) : 0 ≤ ls A v ∧ ls A v ≤ 60 ∧ ls A v ≤ lz A v := by
  obtain ⟨K, hI⟩ := oka_inv h
  have h11 := hI.2.1.2.2.2.1
  unfold ls lz
  by_cases hl : A 11 + v ≤ 9999
  · rw [if_pos hl, if_pos (by omega)]; omega
  · rw [if_neg hl]
    by_cases hl2 : A 11 + v ≤ 10000
    · rw [if_pos hl2]; omega
    · rw [if_neg hl2]; omega
section Fore
variable {g : Option Nat} {d n : Nat} {P : xP} {M : xM} {F : xM → Int → Prop} {G : xM → Prop}
/-- after the class has asked: the reference asks, nothing of the state has changed -/
theorem op_q {z : Int} {Yr : xY} {as : List xV} (h : Rel M) {M1 : xM} (o1 : offC M M1) (e1 : ∀ c, 1 ≤ c → c < 12 → M1 c = M c) (H : ∀ F : xM → Int → Prop, (∀ M2, offR M1 M2 → M2 65 = M1 65 → F M2 z) → xCI Yr none d as n P M1 F) : xCI Yr none d as n P M1 (fun M2 z2 => z2 = z ∧ Rel M2) :=
  H _ (fun M2 o2 e2 => ⟨rfl, Rel_same h o1 e1 o2 e2⟩)
theorem q_foretold (hn : 82 ≤ n) (hP : x_PP P) {ρ : Option xTx} {v w : Int} (hρ : rho M (M 65 2) ρ) (h : oka (M 65)) (H0 : ¬ ((1 ≤ v ∧ v ≤ 60) ∧ (0 ≤ w ∧ w ≤ 2)) → F M (-1)) (H1 : (1 ≤ v ∧ v ≤ 60) ∧ (0 ≤ w ∧ w ≤ 2) → ∀ M', offR M M' → M' 65 = M 65 → F M' (wI ρ (M 65) (ls (M 65) v).toNat w)) : xCI Y_X10_foretold g (d + 6) [vR (some 64), vI v, vI w] n P M F := by
  refine b_X10_foretold hn hP (c_X10_isIn hn ⟨fun hz => H0 (fun z => bi_0.mp hz z.1), fun hz => c_X10_isIn hn ⟨fun hy => ?_, fun hy => H0 (fun z => bi_0.mp hy z.2)⟩⟩)
  have hv := bi_n0.mp hz
  have hw := bi_n0.mp hy
  have r := ls_r h (v := v) (by omega)
  refine ⟨by unfold inR; omega, q_layWinds hn hP hρ h (by omega) (fun M' o' e' w' => ?_)⟩
  rw [lz_ls] at w' ⊢
  rw [show ls (M 65) v + 1 - 1 = ls (M 65) v by omega]
  have q := w' (ls (M 65) v) (by omega) (by omega)
  have H := H1 ⟨hv, hw⟩ M' o' e'
  refine ⟨by unfold inR; omega, fun h0 => ⟨fun h1 => ⟨by omega, ?_⟩, fun h1 => ⟨by omega, ?_⟩⟩, fun h0 => ⟨by omega, ?_⟩⟩
  · rw [q.2.2]; rwa [show w = 2 by omega] at H
  · rw [q.2.1]; rwa [h1] at H
  · rw [q.1]; rwa [h0] at H
theorem op_foretold (hn : 82 ≤ n) (hP : x_PP P) {v w : Int} (h : Rel M) : op2 n P Y_X9_foretold Y_X10_foretold (d + 100) [vI v, vI w] M := by
  obtain ⟨ρ, hρ⟩ := Rel_rul h
  have ok := Rel_oka h
  have no : ∀ M1, offC M M1 → (∀ c, 1 ≤ c → c < 12 → M1 c = M c) → ¬ ((1 ≤ v ∧ v ≤ 60) ∧ (0 ≤ w ∧ w ≤ 2)) → xCI Y_X10_foretold none (d + 100) [vR (some 64), vI v, vI w] n P M1 (fun M2 z2 => z2 = -1 ∧ Rel M2) := fun M1 o1 e1 hz => by
    have e65 := offC_65 o1
    exact op_q h o1 e1 (fun F HF => q_foretold (ρ := ρ) hn hP (by rw [e65]; exact rho_C o1 hρ) (by rw [e65]; exact ok) (fun _ => HF M1 (offR_refl M1) rfl) (fun z => absurd z hz))
  refine b_X9_foretold hn hP (c_X9_within hn ⟨fun hz => ?_, fun hz => no M (offC_refl M) (fun _ _ _ => rfl) (fun z => bi_0.mp hz z.1)⟩)
  have hv := bi_n0.mp hz
  have r := ls_r ok (v := v) (by omega)
  refine k_ruling hn hP h.1 hρ (fun o ho => k_look hn hP h.1 ho (by omega) (fun M1 o1 e1 _ hw => ?_))
  obtain ⟨w3, ww⟩ := hw
  rw [w3]
  have q := ww (ls (M 65) v) (by omega) (by omega)
  have e65 := offC_65 o1
  have yes : ∀ z, 0 ≤ w ∧ w ≤ 2 → wI ρ (M 65) (ls (M 65) v).toNat w = z → xCI Y_X10_foretold none (d + 100) [vR (some 64), vI v, vI w] n P M1 (fun M2 z2 => z2 = z ∧ Rel M2) := fun z hw hz' => op_q h o1 e1 (fun F HF => q_foretold (ρ := ρ) hn hP (by rw [e65]; exact rho_C o1 hρ) (by rw [e65]; exact ok) (fun z => absurd ⟨hv, hw⟩ z) (fun _ M' o' e' => by rw [e65, hz']; exact HF M' o' e'))
  refine c_X9_within hn ⟨fun _ => ⟨fun hw => no M1 o1 e1 (by omega), fun hw => ⟨by omega, yes _ (by omega) (by rw [hw]; exact q.1.symm)⟩, fun hw => ⟨by omega, yes _ (by omega) (by rw [hw]; exact q.2.1.symm)⟩, fun hw => ⟨by omega, yes _ (by omega) (by rw [hw]; exact q.2.2.symm)⟩, trivial⟩, fun z => absurd (bi_0.mp z) (by omega)⟩
theorem q_calm (hn : 82 ≤ n) (hP : x_PP P) {ρ : Option xTx} {v : Int} (hρ : rho M (M 65 2) ρ) (h : oka (M 65)) (H0 : ¬ (1 ≤ v ∧ v ≤ 60) → F M (-1)) (H1 : (1 ≤ v ∧ v ≤ 60) → ∀ M', offR M M' → M' 65 = M 65 → F M' (cmW ρ (M 65) (ls (M 65) v).toNat).1) : xCI Y_X10_calm g (d + 6) [vR (some 64), vI v] n P M F := by
  obtain ⟨K, hI⟩ := oka_inv h
  have h11 := hI.2.1.2.2.2.1
  refine b_X10_calm hn hP (c_X10_isIn hn ⟨fun hz => ?_, fun hz => H0 (bi_0.mp hz)⟩)
  have hv := bi_n0.mp hz
  have r := ls_r h (v := v) (by omega)
  refine q_layWinds hn hP hρ h (by omega) (fun M' o' e' w' => ?_)
  have H := H1 hv M' o' e'
  rw [e']
  have loop : ∀ (m k : Nat), (k : Int) + m = ls (M 65) v → xW Y_X10_calm g (d + 6) 0 0 57 [(0, vR (some 64)), (2, vI (ls (M 65) v)), (3, vI (cmW ρ (M 65) k).1), (4, vI (cmW ρ (M 65) k).2), (5, vI (k : Int))] [] (0, 0) (n, P, M') (kI n P F) := by
    intro m
    induction m with
    | zero =>
      intro k hk
      refine b_X10_calm_57 hn hP ⟨fun _ => ?_, fun z => absurd z (by omega)⟩
      rw [show k = (ls (M 65) v).toNat by omega]
      exact H
    | succ m ih =>
      intro k hk
      have q := w' (k : Int) (by omega) (by omega)
      rw [Int.toNat_natCast] at q
      have cr := cmW_r ρ (M 65) k
      have nx := ih (k + 1) (by omega)
      have e2 : (cmW ρ (M 65) (k + 1)).2 = if isCl ρ (M 65) k then (cmW ρ (M 65) k).2 + 1 else 0 := rfl
      have e1 : (cmW ρ (M 65) (k + 1)).1 = if (cmW ρ (M 65) k).1 ≤ (if isCl ρ (M 65) k then (cmW ρ (M 65) k).2 + 1 else 0) then (if isCl ρ (M 65) k then (cmW ρ (M 65) k).2 + 1 else 0) else (cmW ρ (M 65) k).1 := rfl
      rw [e1, e2, show (((k + 1 : Nat) : Nat) : Int) = (k : Int) + 1 by omega] at nx
      have tail : ∀ s0, s0 = (if isCl ρ (M 65) k then (cmW ρ (M 65) k).2 + 1 else 0) → xW Y_X10_calm g (d + 6) 0 0 92 [(0, vR (some 64)), (2, vI (ls (M 65) v)), (3, vI (cmW ρ (M 65) k).1), (5, vI (k : Int))] [vI s0] (0, 0) (n, P, M') (kI n P F) := by
        intro s0 hs
        rw [← hs] at nx
        refine b_X10_calm_92 hn hP ⟨fun hl => b_X10_calm_106 hn hP ⟨by unfold inR; omega, ?_⟩, fun hl => b_X10_calm_106 hn hP ⟨by unfold inR; omega, ?_⟩⟩
        · by_cases hl2 : (cmW ρ (M 65) k).1 ≤ s0
          · rw [if_pos hl2] at nx
            rwa [show (cmW ρ (M 65) k).1 = s0 by omega]
          · rwa [if_neg hl2] at nx
        · rwa [if_pos (by omega)] at nx
      have calm : isCl ρ (M 65) k → xW Y_X10_calm g (d + 6) 0 0 84 [(0, vR (some 64)), (2, vI (ls (M 65) v)), (3, vI (cmW ρ (M 65) k).1), (4, vI (cmW ρ (M 65) k).2), (5, vI (k : Int))] [] (0, 0) (n, P, M') (kI n P F) := fun hc => b_X10_calm_84 hn hP ⟨by unfold inR; omega, tail _ (by rw [if_pos hc])⟩
      refine b_X10_calm_57 hn hP ⟨fun z => absurd z (by omega), fun _ => ⟨by omega, ?_⟩⟩
      rw [q.2.1, q.2.2]
      exact ⟨fun hc => calm (Or.inl hc), fun hc => ⟨by omega, fun hc2 => tail 0 (by rw [if_neg (fun z => by rcases z with z | z; exact hc z; exact hc2 z)]), fun hc2 => calm (Or.inr hc2)⟩⟩
  have go : xW Y_X10_calm g (d + 6) 0 0 48 [(0, vR (some 64))] [vI (ls (M 65) v)] (0, 0) (n, P, M') (kI n P F) := b_X10_calm_48 hn hP (loop (ls (M 65) v).toNat 0 (by omega))
  refine ⟨by unfold inR; omega, fun hl => ⟨by unfold inR; omega, ?_⟩, fun hl => ?_⟩
  · rw [show 9999 - M 65 11 = ls (M 65) v by
      unfold ls
      by_cases hl2 : M 65 11 + v ≤ 9999
      · rw [if_pos hl2]; omega
      · rw [if_neg hl2]]
    exact go
  · rw [show ls (M 65) v = v by unfold ls; rw [if_pos (by omega)]] at go
    exact go
theorem k_longestCalm (hn : 82 ≤ n) (hP : x_PP P) {ρ : Option xTx} {A : Int → Int} {s : Int} (hw : wC ρ A s M) (hs : 0 ≤ s ∧ s ≤ 60) (H : F M (cmW ρ A s.toNat).1) : xCI Y_X1_longestCalm g (d + 1) [vR (some 15)] n P M F := by
  obtain ⟨w3, ww⟩ := hw
  have loop : ∀ (m k : Nat), (k : Int) + m = s → xW Y_X1_longestCalm g (d + 1) 0 0 6 [(0, vR (some 15)), (1, vI (cmW ρ A k).1), (2, vI (cmW ρ A k).2), (3, vI (k : Int))] [] (0, 0) (n, P, M) (kI n P F) := by
    intro m
    induction m with
    | zero =>
      intro k hk
      refine b_X1_longestCalm_6 hn hP ⟨fun _ => ?_, fun z => absurd z (by omega)⟩
      rw [show k = s.toNat by omega]
      exact H
    | succ m ih =>
      intro k hk
      have q := ww (k : Int) (by omega) (by omega)
      rw [Int.toNat_natCast] at q
      have cr := cmW_r ρ A k
      have nx := ih (k + 1) (by omega)
      have e2 : (cmW ρ A (k + 1)).2 = if isCl ρ A k then (cmW ρ A k).2 + 1 else 0 := rfl
      have e1 : (cmW ρ A (k + 1)).1 = if (cmW ρ A k).1 ≤ (if isCl ρ A k then (cmW ρ A k).2 + 1 else 0) then (if isCl ρ A k then (cmW ρ A k).2 + 1 else 0) else (cmW ρ A k).1 := rfl
      rw [e1, e2, show (((k + 1 : Nat) : Nat) : Int) = (k : Int) + 1 by omega] at nx
      have tail : ∀ s0, s0 = (if isCl ρ A k then (cmW ρ A k).2 + 1 else 0) → xW Y_X1_longestCalm g (d + 1) 0 0 29 [(0, vR (some 15)), (1, vI (cmW ρ A k).1), (3, vI (k : Int))] [vI s0] (0, 0) (n, P, M) (kI n P F) := by
        intro s0 hs'
        rw [← hs'] at nx
        exact b_X1_longestCalm_29 hn hP (k_max hn ⟨by unfold inR; omega, nx⟩)
      have calm : isCl ρ A k → inR ((cmW ρ A k).2 + 1) ∧ xW Y_X1_longestCalm g (d + 1) 0 0 29 [(0, vR (some 15)), (1, vI (cmW ρ A k).1), (3, vI (k : Int))] [vI ((cmW ρ A k).2 + 1)] (0, 0) (n, P, M) (kI n P F) := fun hc => ⟨by unfold inR; omega, tail _ (by rw [if_pos hc])⟩
      refine b_X1_longestCalm_6 hn hP ⟨fun z => absurd z (by omega), fun _ => b_X1_isCalm hn hP ⟨fun z => absurd z (by omega), fun _ => ⟨fun z => absurd z (by omega), fun _ => ⟨by omega, ?_⟩⟩⟩⟩
      rw [q.2.1, q.2.2]
      exact ⟨fun hc => ⟨fun z => absurd z (by decide), fun _ => calm (Or.inl hc)⟩, fun hc => ⟨by omega, fun hc2 => ⟨fun _ => tail 0 (by rw [if_neg (fun z => by rcases z with z | z; exact hc z; exact hc2 z)]), fun z => absurd rfl z⟩, fun hc2 => ⟨fun z => absurd z (by decide), fun _ => calm (Or.inr hc2)⟩⟩⟩
  exact b_X1_longestCalm hn hP (loop s.toNat 0 (by omega))
theorem op_calm (hn : 82 ≤ n) (hP : x_PP P) {v : Int} (h : Rel M) : op2 n P Y_X9_calm Y_X10_calm (d + 100) [vI v] M := by
  obtain ⟨ρ, hρ⟩ := Rel_rul h
  have ok := Rel_oka h
  refine b_X9_calm hn hP (c_X9_within hn ⟨fun hz => ?_, fun hz => op_q h (offC_refl M) (fun _ _ _ => rfl) (fun F HF => q_calm hn hP hρ ok (fun _ => HF M (offR_refl M) rfl) (fun z => absurd z (bi_0.mp hz)))⟩)
  have hv := bi_n0.mp hz
  have r := ls_r ok (v := v) (by omega)
  refine k_ruling hn hP h.1 hρ (fun o ho => k_look hn hP h.1 ho (by omega) (fun M1 o1 e1 _ hw => k_longestCalm hn hP hw (by omega) ?_))
  have e65 := offC_65 o1
  exact op_q h o1 e1 (fun F HF => q_calm (ρ := ρ) hn hP (by rw [e65]; exact rho_C o1 hρ) (by rw [e65]; exact ok) (fun z => absurd hv z) (fun _ M' o' e' => by rw [e65]; exact HF M' o' e'))
theorem q_standing (hn : 82 ≤ n) (hP : x_PP P) {ρ : Option xTx} {v w : Int} (hρ : rho M (M 65 2) ρ) (h : oka (M 65)) (H0 : ¬ ((1 ≤ v ∧ v ≤ 60) ∧ (0 ≤ w ∧ w ≤ 3)) → F M (-1)) (H1 : (1 ≤ v ∧ v ≤ 60) ∧ (0 ≤ w ∧ w ≤ 3) → ∀ M', offR M M' → M' 65 = M 65 → F M' (stW ρ (M 65) w (ls (M 65) v).toNat)) : xCI Y_X10_standing g (d + 6) [vR (some 64), vI v, vI w] n P M F := by
  obtain ⟨K, hI⟩ := oka_inv h
  have h11 := hI.2.1.2.2.2.1
  refine b_X10_standing hn hP (c_X10_isIn hn ⟨fun hz => H0 (fun z => bi_0.mp hz z.1), fun hz => c_X10_isIn hn ⟨fun hy => ?_, fun hy => H0 (fun z => bi_0.mp hy z.2)⟩⟩)
  have hv := bi_n0.mp hz
  have hw := bi_n0.mp hy
  have r := ls_r h (v := v) (by omega)
  refine q_layWinds hn hP hρ h (by omega) (fun M' o' e' w' => ?_)
  have H := H1 ⟨hv, hw⟩ M' o' e'
  rw [e']
  have loop : ∀ (m k : Nat), (k : Int) + m = ls (M 65) v → xW Y_X10_standing g (d + 6) 0 0 64 [(0, vR (some 64)), (2, vI w), (3, vI (ls (M 65) v)), (4, vI (stW ρ (M 65) w k)), (5, vI (k : Int))] [] (0, 0) (n, P, M') (kI n P F) := by
    intro m
    induction m with
    | zero =>
      intro k hk
      refine b_X10_standing_64 hn hP ⟨fun _ => ?_, fun z => absurd z (by omega)⟩
      rw [show k = (ls (M 65) v).toNat by omega]
      exact H
    | succ m ih =>
      intro k hk
      have q := w' (k : Int) (by omega) (by omega)
      rw [Int.toNat_natCast] at q
      have cr := stW_r ρ (M 65) w k
      have nx := ih (k + 1) (by omega)
      have e1 : stW ρ (M 65) w (k + 1) = stW ρ (M 65) w k + (if wI ρ (M 65) k 0 = w then 1 else 0) := rfl
      rw [e1, show (((k + 1 : Nat) : Nat) : Int) = (k : Int) + 1 by omega] at nx
      refine b_X10_standing_64 hn hP ⟨fun z => absurd z (by omega), fun _ => ⟨by omega, ?_⟩⟩
      rw [q.1]
      refine ⟨fun hc => b_X10_standing_88 hn hP ⟨by unfold inR; omega, by unfold inR; omega, ?_⟩, fun hc => b_X10_standing_88 hn hP ⟨by unfold inR; omega, by unfold inR; omega, ?_⟩⟩
      · rwa [if_neg hc] at nx
      · rwa [if_pos hc] at nx
  have go : xW Y_X10_standing g (d + 6) 0 0 57 [(0, vR (some 64)), (2, vI w)] [vI (ls (M 65) v)] (0, 0) (n, P, M') (kI n P F) := b_X10_standing_57 hn hP (loop (ls (M 65) v).toNat 0 (by omega))
  refine ⟨by unfold inR; omega, fun hl => ⟨by unfold inR; omega, ?_⟩, fun hl => ?_⟩
  · rw [show 9999 - M 65 11 = ls (M 65) v by
      unfold ls
      by_cases hl2 : M 65 11 + v ≤ 9999
      · rw [if_pos hl2]; omega
      · rw [if_neg hl2]]
    exact go
  · rw [show ls (M 65) v = v by unfold ls; rw [if_pos (by omega)]] at go
    exact go
theorem k_hoursOf (hn : 82 ≤ n) (hP : x_PP P) {ρ : Option xTx} {A : Int → Int} {s w : Int} (hw : wC ρ A s M) (hs : 0 ≤ s ∧ s ≤ 60) (H : F M (stW ρ A w s.toNat)) : xCI Y_X1_hoursOf g d [vR (some 15), vI w] n P M F := by
  obtain ⟨w3, ww⟩ := hw
  have loop : ∀ (m k : Nat), (k : Int) + m = s → xW Y_X1_hoursOf g d 0 0 4 [(0, vR (some 15)), (1, vI w), (2, vI (stW ρ A w k)), (3, vI (k : Int))] [] (0, 0) (n, P, M) (kI n P F) := by
    intro m
    induction m with
    | zero =>
      intro k hk
      refine b_X1_hoursOf_4 hn hP ⟨fun _ => ?_, fun z => absurd z (by omega)⟩
      rw [show k = s.toNat by omega]
      exact H
    | succ m ih =>
      intro k hk
      have q := ww (k : Int) (by omega) (by omega)
      rw [Int.toNat_natCast] at q
      have cr := stW_r ρ A w k
      have nx := ih (k + 1) (by omega)
      have e1 : stW ρ A w (k + 1) = stW ρ A w k + (if wI ρ A k 0 = w then 1 else 0) := rfl
      rw [e1, show (((k + 1 : Nat) : Nat) : Int) = (k : Int) + 1 by omega] at nx
      refine b_X1_hoursOf_4 hn hP ⟨fun z => absurd z (by omega), fun _ => ⟨by omega, ?_⟩⟩
      rw [q.1]
      refine ⟨fun hc => b_X1_hoursOf_25 hn hP ⟨by unfold inR; omega, ?_⟩, fun hc => ⟨by unfold inR; omega, b_X1_hoursOf_25 hn hP ⟨by unfold inR; omega, ?_⟩⟩⟩
      · rwa [if_neg hc, Int.add_zero] at nx
      · rwa [if_pos hc] at nx
  exact b_X1_hoursOf hn hP (loop s.toNat 0 (by omega))
theorem op_standing (hn : 82 ≤ n) (hP : x_PP P) {v w : Int} (h : Rel M) : op2 n P Y_X9_standing Y_X10_standing (d + 100) [vI v, vI w] M := by
  obtain ⟨ρ, hρ⟩ := Rel_rul h
  have ok := Rel_oka h
  have no : ¬ ((1 ≤ v ∧ v ≤ 60) ∧ (0 ≤ w ∧ w ≤ 3)) → xCI Y_X10_standing none (d + 100) [vR (some 64), vI v, vI w] n P M (fun M2 z2 => z2 = -1 ∧ Rel M2) := fun hz => op_q h (offC_refl M) (fun _ _ _ => rfl) (fun F HF => q_standing hn hP hρ ok (fun _ => HF M (offR_refl M) rfl) (fun z => absurd z hz))
  refine b_X9_standing hn hP (c_X9_within hn ⟨fun hz => no (fun z => bi_0.mp hz z.1), fun hz => c_X9_within hn ⟨fun hy => ?_, fun hy => no (fun z => bi_0.mp hy z.2)⟩⟩)
  have hv := bi_n0.mp hz
  have hw := bi_n0.mp hy
  have r := ls_r ok (v := v) (by omega)
  refine k_ruling hn hP h.1 hρ (fun o ho => k_look hn hP h.1 ho (by omega) (fun M1 o1 e1 _ hw' => k_hoursOf hn hP hw' (by omega) ?_))
  have e65 := offC_65 o1
  exact op_q h o1 e1 (fun F HF => q_standing (ρ := ρ) hn hP (by rw [e65]; exact rho_C o1 hρ) (by rw [e65]; exact ok) (fun z => absurd ⟨hv, hw⟩ z) (fun _ M' o' e' => by rw [e65]; exact HF M' o' e'))
end Fore
