/-! turned, fewestWrong, whose -/
/-- a set of those numbers below k of which p is so -/
def stF (p : Nat → Prop) [DecidablePred p] : Nat → Int
  | 0 => 0
  | k + 1 => if p k then x_or (stF p k) (x_shl 1 k) else stF p k
theorem stF_r (p : Nat → Prop) [DecidablePred p] : ∀ k : Nat, k ≤ 4 → 0 ≤ stF p k ∧ stF p k < 16
  | 0, _ => ⟨Int.le_refl _, by show (0 : Int) < 16; decide⟩
  | k + 1, hk => by
    have ih := stF_r p k (by omega)
    show 0 ≤ (if p k then _ else _ : Int) ∧ (if p k then _ else _ : Int) < 16
    by_cases h : p k
    · rw [if_pos h]; exact laws_r ih (by omega)
    · rw [if_neg h]; exact ih
def fwF (f : Nat → Int) : Nat → Int
  | 0 => 8
  | k + 1 => if fwF f k ≤ f k then fwF f k else f k
theorem fwF_r {f : Nat → Int} (hf : ∀ k, 0 ≤ f k ∧ f k ≤ 8) : ∀ k, 0 ≤ fwF f k ∧ fwF f k ≤ 8
  | 0 => by show (0 : Int) ≤ 8 ∧ (8 : Int) ≤ 8; omega
  | k + 1 => by
    have ih := fwF_r hf k
    have := hf k
    show 0 ≤ (if fwF f k ≤ f k then _ else _ : Int) ∧ (if fwF f k ≤ f k then _ else _ : Int) ≤ 8
    split <;> omega
theorem offL_trans {M M' M'' : xM} (h : offL M M') (h' : offL M' M'') : offL M M'' := ⟨fun b h1 h2 => (h'.1 b h1 h2).trans (h.1 b h1 h2), fun j hj => (h'.2 j hj).trans (h.2 j hj)⟩
section Turned
variable {g : Option Nat} {d n : Nat} {P : xP} {M : xM} {F : xM → Int → Prop} {G : xM → Prop}
theorem op_turned (hn : 82 ≤ n) (hP : x_PP P) (h : Rel M) : op2 n P Y_X9_turned Y_X10_turned (d + 100) [] M := by
  obtain ⟨ρ, hρ⟩ := Rel_rul h
  have ok := Rel_oka h
  let p : Nat → Prop := fun k => wrF ρ (M 65) (k : Int) (M 65 4).toNat = 0
  have dp : DecidablePred p := fun k => inferInstanceAs (Decidable (_ = _))
  -- the reference, from any state that the class may leave
  have ref : ∀ M1, offC M M1 → (∀ c, 1 ≤ c → c < 12 → M1 c = M c) → xCI Y_X10_turned none (d + 100) [vR (some 64)] n P M1 (fun M2 z2 => z2 = stF p 4 ∧ Rel M2) := by
    intro M1 o1 e1
    have e65 := offC_65 o1
    refine op_q h o1 e1 (fun F HF => ?_)
    have loop : ∀ (m k : Nat), k + m = 4 → ∀ N, offL M1 N → xW Y_X10_turned none (d + 100) 0 0 4 [(0, vR (some 64)), (1, vI (stF p k)), (2, vI (k : Int))] [] (0, 0) (n, P, N) (kI n P F) := by
      intro m
      induction m with
      | zero =>
        intro k hk N oN
        refine b_X10_turned_4 hn hP ⟨fun _ => ?_, fun z => absurd z (by omega)⟩
        rw [show k = 4 by omega]
        exact HF N (offL_R oN) (oN.1 65 (by decide) (by decide))
      | succ m ih =>
        intro k hk N oN
        have n65 : N 65 = M 65 := (oN.1 65 (by decide) (by decide)).trans e65
        refine b_X10_turned_4 hn hP ⟨fun z => absurd z (by omega), fun _ => q_wrongBy (ρ := ρ) hn hP (by rw [n65]; exact ok) (by rw [n65]; exact rho_rf (rho_R (offL_R oN) (rho_C o1 hρ))) (by omega) (fun N2 o2 => ?_)⟩
        rw [n65]
        have nx := ih (k + 1) (by omega) N2 (offL_trans oN o2)
        have e : stF p (k + 1) = if p k then x_or (stF p k) (x_shl 1 k) else stF p k := rfl
        have sr := stF_r p k (by omega)
        rw [e, show (((k + 1 : Nat) : Nat) : Int) = (k : Int) + 1 by omega] at nx
        refine ⟨fun hz => b_X10_turned_31 hn hP ⟨by unfold inR; omega, ?_⟩, fun hz => b_X10_turned_31 hn hP ⟨by unfold inR; omega, ?_⟩⟩
        · rw [x_or_0 (by omega)]
          rwa [if_neg hz] at nx
        · rwa [if_pos hz] at nx
    exact b_X10_turned hn hP (loop 4 0 (by omega) M1 (offL_refl M1))
  have loop : ∀ (m k : Nat), k + m = 4 → ∀ N, offW M N → xW Y_X9_turned none (d + 100) 0 0 4 [(0, vR (some 0)), (1, vI (stF p k)), (2, vI (k : Int))] [] (0, 0) (n, P, N) (kI n P (fun M1 z1 => xCI Y_X10_turned none (d + 100) [vR (some 64)] n P M1 (fun M2 z2 => z2 = z1 ∧ Rel M2))) := by
    intro m
    induction m with
    | zero =>
      intro k hk N oN
      refine b_X9_turned_4 hn hP ⟨fun _ => ?_, fun z => absurd z (by omega)⟩
      rw [show k = 4 by omega]
      exact ref N (offW_C oN) (offW_k oN)
    | succ m ih =>
      intro k hk N oN
      have rN := relC_same h.1 (offW_k oN)
      refine b_X9_turned_4 hn hP ⟨fun z => absurd z (by omega), fun _ => k_ruling hn hP rN (rho_C (offW_C oN) hρ) (fun o ho => k_wrongRecords hn hP rN ho (by omega) (fun N2 o2 => ?_))⟩
      have nx := ih (k + 1) (by omega) N2 (offW_trans oN o2)
      have e : stF p (k + 1) = if p k then x_or (stF p k) (x_shl 1 k) else stF p k := rfl
      rw [e, show (((k + 1 : Nat) : Nat) : Int) = (k : Int) + 1 by omega] at nx
      refine ⟨fun hz => b_X9_turned_27 hn hP ⟨by unfold inR; omega, ?_⟩, fun hz => b_X9_turned_27 hn hP ⟨by unfold inR; omega, ?_⟩⟩
      · rwa [if_neg hz] at nx
      · rwa [if_pos hz] at nx
  exact b_X9_turned hn hP (loop 4 0 (by omega) M (offW_refl M))
theorem op_fewestWrong (hn : 82 ≤ n) (hP : x_PP P) (h : Rel M) : op2 n P Y_X9_fewestWrong Y_X10_fewestWrong (d + 100) [] M := by
  obtain ⟨ρ, hρ⟩ := Rel_rul h
  have ok := Rel_oka h
  have g4 := h.1.2.1.2.2.2.2.1
  let f : Nat → Int := fun k => wrF ρ (M 65) (k : Int) (M 65 4).toNat
  have fr : ∀ k, 0 ≤ f k ∧ f k ≤ 8 := fun k => by
    have := wrF_r ρ (M 65) (k : Int) (M 65 4).toNat
    show 0 ≤ wrF ρ (M 65) (k : Int) (M 65 4).toNat ∧ wrF ρ (M 65) (k : Int) (M 65 4).toNat ≤ 8
    omega
  have ref : ∀ M1, offC M M1 → (∀ c, 1 ≤ c → c < 12 → M1 c = M c) → xCI Y_X10_fewestWrong none (d + 100) [vR (some 64)] n P M1 (fun M2 z2 => z2 = fwF f 4 ∧ Rel M2) := by
    intro M1 o1 e1
    have e65 := offC_65 o1
    refine op_q h o1 e1 (fun F HF => ?_)
    have loop : ∀ (m k : Nat), k + m = 4 → ∀ N x1, offL M1 N → (k = 0 → x1 = 1000000000) → (k ≠ 0 → x1 = fwF f k) → xW Y_X10_fewestWrong none (d + 100) 0 0 6 [(0, vR (some 64)), (1, vI x1), (2, vI (k : Int))] [] (0, 0) (n, P, N) (kI n P F) := by
      intro m
      induction m with
      | zero =>
        intro k hk N x1 oN h0 h1
        refine b_X10_fewestWrong_6 hn hP ⟨fun _ => ?_, fun z => absurd z (by omega)⟩
        rw [h1 (by omega), show k = 4 by omega]
        exact HF N (offL_R oN) (oN.1 65 (by decide) (by decide))
      | succ m ih =>
        intro k hk N x1 oN h0 h1
        have n65 : N 65 = M 65 := (oN.1 65 (by decide) (by decide)).trans e65
        have fk := fr k
        have fwk := fwF_r fr k
        have e : fwF f (k + 1) = if fwF f k ≤ f k then fwF f k else f k := rfl
        have nx : ∀ N2 v, offL M1 N2 → v = fwF f (k + 1) → xW Y_X10_fewestWrong none (d + 100) 0 0 41 [(0, vR (some 64)), (2, vI (k : Int))] [vI v] (0, 0) (n, P, N2) (kI n P F) := fun N2 v o2 hv => by
          have := ih (k + 1) (by omega) N2 v o2 (fun z => absurd z (by omega)) (fun _ => hv)
          rw [show (((k + 1 : Nat) : Nat) : Int) = (k : Int) + 1 by omega] at this
          exact b_X10_fewestWrong_41 hn hP ⟨by unfold inR; omega, this⟩
        have eq : ∀ v, (x1 ≤ f k → v = x1) → (¬ x1 ≤ f k → v = f k) → v = fwF f (k + 1) := fun v v1 v2 => by
          rw [e]
          by_cases hk0 : k = 0
          · have e8 : fwF f k = 8 := by rw [hk0]; rfl
            have := h0 hk0
            rw [e8]
            by_cases hl : (8 : Int) ≤ f k
            · rw [if_pos hl, v2 (by omega)]; omega
            · rw [if_neg hl, v2 (by omega)]
          · have := h1 hk0
            by_cases hl : fwF f k ≤ f k
            · rw [if_pos hl, v1 (by omega), this]
            · rw [if_neg hl, v2 (by omega)]
        refine b_X10_fewestWrong_6 hn hP ⟨fun z => absurd z (by omega), fun _ => q_wrongBy (ρ := ρ) hn hP (by rw [n65]; exact ok) (by rw [n65]; exact rho_rf (rho_R (offL_R oN) (rho_C o1 hρ))) (by omega) (fun N2 o2 => ?_)⟩
        rw [n65]
        have o12 := offL_trans oN o2
        have m65 : N2 65 = M 65 := (o12.1 65 (by decide) (by decide)).trans e65
        refine ⟨fun hl => nx N2 x1 o12 (eq x1 (fun _ => rfl) (fun z => absurd hl z)), fun hl => q_wrongBy (ρ := ρ) hn hP (by rw [m65]; exact ok) (by rw [m65]; exact rho_rf (rho_R (offL_R o12) (rho_C o1 hρ))) (by omega) (fun N3 o3 => nx N3 _ (offL_trans o12 o3) ?_)⟩
        rw [m65]
        exact eq _ (fun z => absurd z hl) (fun _ => rfl)
    exact b_X10_fewestWrong hn hP (loop 4 0 (by omega) M1 1000000000 (offL_refl M1) (fun _ => rfl) (fun z => absurd rfl z))
  have loop : ∀ (m k : Nat), k + m = 4 → ∀ N, offW M N → xW Y_X9_fewestWrong none (d + 100) 0 0 5 [(0, vR (some 0)), (1, vI (fwF f k)), (2, vI (k : Int))] [] (0, 0) (n, P, N) (kI n P (fun M1 z1 => xCI Y_X10_fewestWrong none (d + 100) [vR (some 64)] n P M1 (fun M2 z2 => z2 = z1 ∧ Rel M2))) := by
    intro m
    induction m with
    | zero =>
      intro k hk N oN
      refine b_X9_fewestWrong_5 hn hP ⟨fun _ => ?_, fun z => absurd z (by omega)⟩
      rw [show k = 4 by omega]
      exact ref N (offW_C oN) (offW_k oN)
    | succ m ih =>
      intro k hk N oN
      have rN := relC_same h.1 (offW_k oN)
      refine b_X9_fewestWrong_5 hn hP ⟨fun z => absurd z (by omega), fun _ => k_ruling hn hP rN (rho_C (offW_C oN) hρ) (fun o ho => k_wrongRecords hn hP rN ho (by omega) (fun N2 o2 => ?_))⟩
      have nx := ih (k + 1) (by omega) N2 (offW_trans oN o2)
      have e : fwF f (k + 1) = if fwF f k ≤ f k then fwF f k else f k := rfl
      rw [e, show (((k + 1 : Nat) : Nat) : Int) = (k : Int) + 1 by omega] at nx
      refine ⟨fun hz => b_X9_fewestWrong_27 hn hP ⟨by unfold inR; omega, ?_⟩, fun hz => b_X9_fewestWrong_27 hn hP ⟨by unfold inR; omega, ?_⟩⟩
      · rwa [if_pos hz] at nx
      · rwa [if_neg hz] at nx
  exact b_X9_fewestWrong hn hP (loop 4 0 (by omega) M (offW_refl M))
theorem op_whose (hn : 82 ≤ n) (hP : x_PP P) (h : Rel M) : op2 n P Y_X9_whose Y_X10_whose (d + 100) [] M := by
  have ok := Rel_oka h
  have a1 : M 65 1 = M 1 8 := h.1.1.2.1
  have h1 := h.1.2.1.1
  obtain ⟨ρs, hs⟩ : ∃ ρs : Int → Option xTx, ∀ τ, 0 ≤ τ → τ < M 65 1 → rho M τ (ρs τ) := by
    refine ⟨fun τ => if hh : 0 ≤ τ ∧ τ < M 65 1 then Classical.choose (Rel_rho h (by omega : -1 ≤ τ) hh.2) else none, fun τ t0 t1 => ?_⟩
    dsimp only
    rw [dif_pos ⟨t0, t1⟩]
    exact Classical.choose_spec (Rel_rho h (by omega : -1 ≤ τ) t1)
  let p : Nat → Prop := fun k => wrF (ρs k) (M 65) 0 (M 65 4).toNat = 0
  have dp : DecidablePred p := fun k => inferInstanceAs (Decidable (_ = _))
  have ref : ∀ M1, offC M M1 → (∀ c, 1 ≤ c → c < 12 → M1 c = M c) → xCI Y_X10_whose none (d + 100) [vR (some 64)] n P M1 (fun M2 z2 => z2 = stF p (M 65 1).toNat ∧ Rel M2) := by
    intro M1 o1 e1
    have e65 := offC_65 o1
    refine op_q h o1 e1 (fun F HF => ?_)
    have loop : ∀ (m k : Nat), (k : Int) + m = M 65 1 → ∀ N, offL M1 N → xW Y_X10_whose none (d + 100) 0 0 4 [(0, vR (some 64)), (1, vI (stF p k)), (2, vI (k : Int))] [] (0, 0) (n, P, N) (kI n P F) := by
      intro m
      induction m with
      | zero =>
        intro k hk N oN
        have n65 : N 65 = M 65 := (oN.1 65 (by decide) (by decide)).trans e65
        refine b_X10_whose_4 hn hP ⟨fun _ => ?_, fun z => absurd z (by rw [n65]; omega)⟩
        rw [show k = (M 65 1).toNat by omega]
        exact HF N (offL_R oN) (oN.1 65 (by decide) (by decide))
      | succ m ih =>
        intro k hk N oN
        have n65 : N 65 = M 65 := (oN.1 65 (by decide) (by decide)).trans e65
        refine b_X10_whose_4 hn hP ⟨fun z => absurd z (by rw [n65]; omega), fun _ => q_wrongBy (ρ := ρs k) hn hP (by rw [n65]; exact ok) (rho_rf (rho_R (offL_R oN) (rho_C o1 (hs k (by omega) (by omega))))) (by omega) (fun N2 o2 => ?_)⟩
        rw [n65]
        have nx := ih (k + 1) (by omega) N2 (offL_trans oN o2)
        have e : stF p (k + 1) = if p k then x_or (stF p k) (x_shl 1 k) else stF p k := rfl
        have sr := stF_r p k (by omega)
        rw [e, show (((k + 1 : Nat) : Nat) : Int) = (k : Int) + 1 by omega] at nx
        refine ⟨fun hz => b_X10_whose_31 hn hP ⟨by unfold inR; omega, ?_⟩, fun hz => b_X10_whose_31 hn hP ⟨by unfold inR; omega, ?_⟩⟩
        · rw [x_or_0 (by omega)]
          rwa [if_neg hz] at nx
        · rwa [if_pos hz] at nx
    exact b_X10_whose hn hP (loop (M 65 1).toNat 0 (by omega) M1 (offL_refl M1))
  have loop : ∀ (m k : Nat), (k : Int) + m = M 65 1 → ∀ N, offW M N → xW Y_X9_whose none (d + 100) 0 0 4 [(0, vR (some 0)), (1, vI (stF p k)), (2, vI (k : Int))] [] (0, 0) (n, P, N) (kI n P (fun M1 z1 => xCI Y_X10_whose none (d + 100) [vR (some 64)] n P M1 (fun M2 z2 => z2 = z1 ∧ Rel M2))) := by
    intro m
    induction m with
    | zero =>
      intro k hk N oN
      refine b_X9_whose_4 hn hP ⟨fun _ => ?_, fun z => absurd z (by rw [oN 1 (by omega)]; omega)⟩
      rw [show k = (M 65 1).toNat by omega]
      exact ref N (offW_C oN) (offW_k oN)
    | succ m ih =>
      intro k hk N oN
      have rN := relC_same h.1 (offW_k oN)
      have hk4 : (0 : Int) ≤ k ∧ (k : Int) < 4 := by omega
      refine b_X9_whose_4 hn hP ⟨fun z => absurd z (by rw [oN 1 (by omega)]; omega), fun _ => ⟨fun z => absurd z (by omega), fun _ => ⟨_, ⟨hk4, (x_txt hn hP hk4).1, (x_txt hn hP hk4).2⟩, ?_⟩⟩⟩
      have cl := rho_cl hn hP (rho_C (offW_C oN) (hs k (by omega) (by omega)))
      rw [if_neg (by omega)] at cl
      refine k_wrongRecords hn hP rN cl (by omega) (fun N2 o2 => ?_)
      have nx := ih (k + 1) (by omega) N2 (offW_trans oN o2)
      have e : stF p (k + 1) = if p k then x_or (stF p k) (x_shl 1 k) else stF p k := rfl
      rw [e, show (((k + 1 : Nat) : Nat) : Int) = (k : Int) + 1 by omega] at nx
      refine ⟨fun hz => b_X9_whose_40 hn hP ⟨by unfold inR; omega, ?_⟩, fun hz => b_X9_whose_40 hn hP ⟨by unfold inR; omega, ?_⟩⟩
      · rwa [if_neg hz] at nx
      · rwa [if_pos hz] at nx
  exact b_X9_whose hn hP (loop (M 65 1).toNat 0 (by omega) M (offW_refl M))
end Turned
