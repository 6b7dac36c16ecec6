/-! what the class's court, the image, the texts, the tape and the fault are to the reference's -/
def CC (M : xM) : xCt := fun i => M (1 + i)
def CK (M : xM) : xCt := fun i => M (26 + i)
def offC (M M' : xM) : Prop := ∀ c, ¬ (1 ≤ c ∧ c < 26) → c ≠ 63 → M' c = M c
def offR (M M' : xM) : Prop := (∀ c, c < 64 ∨ (66 ≤ c ∧ c < 69) → M' c = M c) ∧ ∀ j, j = 4 ∨ j = 5 ∨ j = 6 → M' 64 j = M 64 j
theorem offC_refl (M : xM) : offC M M := fun _ _ _ => rfl
theorem offC_trans {M M' M'' : xM} (h : offC M M') (h' : offC M' M'') : offC M M'' := fun c h1 h2 => (h' c h1 h2).trans (h c h1 h2)
theorem offC_upd {M M' : xM} {c : Nat} {i v : Int} (h : offC M M') (hc : (1 ≤ c ∧ c < 26) ∨ c = 63) : offC M (x_upd M' c i v) := fun b h1 h2 => by
  rw [← h b h1 h2]
  funext j
  exact x_upd_nb (by omega)
theorem offC_set {M M' : xM} {c : Nat} {f : Int → Int} (h : offC M M') (hc : (1 ≤ c ∧ c < 26) ∨ c = 63) : offC M (setA M' c f) := fun b h1 h2 => by
  rw [← h b h1 h2]
  exact setA_ne (by omega)
theorem offC_cpy {M M' : xM} {s c : Nat} {i j k : Int} (h : offC M M') (hc : (1 ≤ c ∧ c < 26) ∨ c = 63) : offC M (x_cpy M' s c i j k) := fun b h1 h2 => by
  rw [← h b h1 h2]
  funext q
  exact if_neg (fun z => by omega)
theorem offC_blk {M M' : xM} {c : Nat} {i k : Int} {f : Int → Int} (h : offC M M') (hc : (1 ≤ c ∧ c < 26) ∨ c = 63) : offC M (x_blk M' c i k f) := fun b h1 h2 => by
  rw [← h b h1 h2]
  funext q
  exact if_neg (fun z => by omega)
theorem offC_Lw {M M' : xM} {nm st : Int → Int} {fs : Int} (h : offC M M') : offC M (Lw M' nm st fs) := fun b h1 h2 => by
  rw [← h b h1 h2]
  exact Lw_ne (by omega) (by omega) (by omega)
theorem offR_refl (M : xM) : offR M M := ⟨fun _ _ => rfl, fun _ _ => rfl⟩
theorem offR_trans {M M' M'' : xM} (h : offR M M') (h' : offR M' M'') : offR M M'' := ⟨fun c h1 => (h'.1 c h1).trans (h.1 c h1), fun j hj => (h'.2 j hj).trans (h.2 j hj)⟩
theorem offR_set {M M' : xM} {c : Nat} {f : Int → Int} (h : offR M M') (hc : c = 65 ∨ 69 ≤ c) : offR M (setA M' c f) := ⟨fun b hb => by rw [← h.1 b hb]; exact setA_ne (by omega), fun j hj => by rw [← h.2 j hj, setA_ne (by omega)]⟩
theorem offR_upd {M M' : xM} {c : Nat} {i v : Int} (h : offR M M') (hc : (c = 65 ∨ 69 ≤ c) ∨ (c = 64 ∧ i ≠ 4 ∧ i ≠ 5 ∧ i ≠ 6)) : offR M (x_upd M' c i v) := ⟨fun b hb => by rw [← h.1 b hb]; funext j; exact x_upd_nb (by omega), fun j hj => by rw [← h.2 j hj]; exact if_neg (fun z => by omega)⟩
theorem offR_blk {M M' : xM} {c : Nat} {i k : Int} {f : Int → Int} (h : offR M M') (hc : c = 65 ∨ 69 ≤ c) : offR M (x_blk M' c i k f) := ⟨fun b hb => by rw [← h.1 b hb]; funext j; exact if_neg (fun z => by omega), fun j hj => by rw [← h.2 j hj]; exact if_neg (fun z => by omega)⟩
theorem offR_Rw {M M' : xM} {nm f g : Int → Int} {fs : Int} (h : offR M M') : offR M (Rw M' nm f g fs) := ⟨fun b hb => by rw [← h.1 b hb]; exact Rw_ne (by omega) (by omega) (by omega) (by omega), fun j hj => by rw [← h.2 j hj]; exact Rw_64 (by omega)⟩
/-- a text's deeds, for played -/
def scr (M : xM) (t : Nat) (τ : Int) : Prop := M t 5 = M 67 (705 * τ) ∧ (0 ≤ M t 5 ∧ M t 5 ≤ 24) ∧ ∀ i, 0 ≤ i → i < M t 5 → (0 ≤ M (t + 4) (4 * i) ∧ M (t + 4) (4 * i) < 5 ∧ 0 ≤ M 67 (705 * τ + 1 + 4 * i) ∧ M 67 (705 * τ + 1 + 4 * i) < 5) ∨
  ((5 ≤ M (t + 4) (4 * i) ∧ M (t + 4) (4 * i) ≤ 11 ∧ M 67 (705 * τ + 1 + 4 * i) = M (t + 4) (4 * i)) ∧ (M (t + 4) (4 * i) ≠ 7 → M (t + 4) (4 * i) ≠ 10 → M 67 (705 * τ + 1 + 4 * i + 1) = M (t + 4) (4 * i + 1)) ∧ (M (t + 4) (4 * i) = 5 ∨ M (t + 4) (4 * i) = 9 → M 67 (705 * τ + 1 + 4 * i + 2) = M (t + 4) (4 * i + 2)) ∧ (M (t + 4) (4 * i) = 5 → M 67 (705 * τ + 1 + 4 * i + 3) = M (t + 4) (4 * i + 3)) ∧ (M (t + 4) (4 * i) = 11 → 1 ≤ M (t + 4) (4 * i + 1) ∧ M (t + 4) (4 * i + 1) ≤ 60))
/-- the facts that its codes ask for -/
def fct (M : xM) (t : Nat) (T : xTx) : Prop := (0 ≤ M t 6 ∧ M t 6 < 256) ∧ ∀ κ q, 0 ≤ κ → κ < 4 → T.2 κ = some q → ∀ j, q.1 ≤ j → j < q.2 → (T.1 j).1 = 24 → x_and (x_shr (M t 6) (T.1 j).2) 1 = 1
def txt (M : xM) (τ : Int) (T : xTx) : Prop := okT T ∧ clT M (43 + 5 * τ.toNat) T ∧ rfT M τ T ∧ scr M (43 + 5 * τ.toNat) τ ∧ fct M (43 + 5 * τ.toNat) T
def tpR (M : xM) : Prop := M 37 1 = M 64 4 ∧ (0 ≤ M 37 1 ∧ M 37 1 ≤ 300) ∧ ∀ i, 0 ≤ i → i < M 37 1 → M 38 i = M 68 i ∧ 0 ≤ M 38 i ∧ M 38 i ≤ 255
def Rel (M : xM) : Prop := relC (M 65) (CC M) ∧ relC (M 66) (CK M) ∧ M 66 1 ≤ M 65 1 ∧ (∀ τ, 0 ≤ τ → τ < M 65 1 → ∃ T, txt M τ T) ∧ tpR M ∧ (M 0 7 = M 64 5 ∧ M 0 8 = M 64 6)
/-- the law that rules by text τ (-1: none) -/
def rho (M : xM) (τ : Int) (ρ : Option xTx) : Prop := (τ < 0 → ρ = none) ∧ (0 ≤ τ → ∃ T, ρ = some T ∧ τ < 4 ∧ txt M τ T)
theorem txt_of {M M' : xM} {τ : Int} {T : xTx} (h0 : 0 ≤ τ ∧ τ < 4) (h : ∀ c, 43 ≤ c → c < 63 → M' c = M c) (h67 : M' 67 = M 67) (H : txt M τ T) : txt M' τ T := by
  obtain ⟨t1, t2, t3, t4, t5⟩ := H
  refine ⟨t1, clT_of (fun c h1 h2 => h c (by omega) (by omega)) t2, rfT_of h67 t3, ?_, ?_⟩
  · unfold scr at *
    rw [h (43 + 5 * τ.toNat) (by omega) (by omega), h (43 + 5 * τ.toNat + 4) (by omega) (by omega), h67]
    exact t4
  · unfold fct at *
    rw [h (43 + 5 * τ.toNat) (by omega) (by omega)]
    exact t5
theorem rho_of {M M' : xM} {τ : Int} {ρ : Option xTx} (h : ∀ c, 43 ≤ c → c < 63 → M' c = M c) (h67 : M' 67 = M 67) (H : rho M τ ρ) : rho M' τ ρ := by
  refine ⟨H.1, fun h0 => ?_⟩
  obtain ⟨T, e, h4, hT⟩ := H.2 h0
  exact ⟨T, e, h4, txt_of ⟨h0, h4⟩ h h67 hT⟩
theorem rho_C {M M' : xM} {τ : Int} {ρ : Option xTx} (h : offC M M') (H : rho M τ ρ) : rho M' τ ρ := rho_of (fun c h1 h2 => h c (by omega) (by omega)) (h 67 (by omega) (by omega)) H
theorem rho_R {M M' : xM} {τ : Int} {ρ : Option xTx} (h : offR M M') (H : rho M τ ρ) : rho M' τ ρ := rho_of (fun c h1 h2 => h.1 c (by omega)) (h.1 67 (by omega)) H
theorem rho_okR {M : xM} {τ : Int} {ρ : Option xTx} (H : rho M τ ρ) : okR ρ := fun T e => by
  by_cases h : τ < 0
  · rw [H.1 h] at e; cases e
  · obtain ⟨T', e', _, hT⟩ := H.2 (by omega)
    rw [e'] at e
    cases e
    exact hT.1
theorem rho_rf {M : xM} {τ : Int} {ρ : Option xTx} (H : rho M τ ρ) : rfR M τ ρ := by
  refine ⟨fun e => ?_, fun T e => ?_⟩
  · by_cases h : τ < 0
    · exact h
    · obtain ⟨T', e', _⟩ := H.2 (by omega)
      rw [e'] at e; cases e
  · by_cases h : τ < 0
    · rw [H.1 h] at e; cases e
    · obtain ⟨T', e', h4, hT⟩ := H.2 (by omega)
      rw [e'] at e
      cases e
      exact ⟨⟨by omega, h4⟩, hT.1, hT.2.2.1⟩
theorem Rel_rho {M : xM} (h : Rel M) {τ : Int} (h1 : -1 ≤ τ) (h2 : τ < M 65 1) : ∃ ρ, rho M τ ρ := by
  by_cases h0 : 0 ≤ τ
  · obtain ⟨T, hT⟩ := h.2.2.2.1 τ h0 h2
    have h4 := h.1.2.1.1
    exact ⟨some T, fun z => absurd z (by omega), fun _ => ⟨T, rfl, by omega, hT⟩⟩
  · exact ⟨none, fun _ => rfl, fun z => absurd z h0⟩
theorem Rel_rul {M : xM} (h : Rel M) : ∃ ρ, rho M (M 65 2) ρ := Rel_rho h h.1.2.1.2.1.1 h.1.2.1.2.1.2
theorem x_txt {n : Nat} {P : xP} (hn : 82 ≤ n) (hP : x_PP P) {τ : Int} (h : 0 ≤ τ ∧ τ < 4) : P 42 τ = some (43 + 5 * τ.toNat) ∧ x_Text n P (43 + 5 * τ.toNat) := by
  have : τ = 0 ∨ τ = 1 ∨ τ = 2 ∨ τ = 3 := by omega
  rcases this with rfl | rfl | rfl | rfl
  · exact ⟨pp_42_0 hP, cl_43 hn, cl_44 hn, cl_45 hn, cl_46 hn, cl_47 hn, pp_43_0 hP, pp_43_2 hP, pp_43_3 hP, pp_43_4 hP⟩
  · exact ⟨pp_42_1 hP, cl_48 hn, cl_49 hn, cl_50 hn, cl_51 hn, cl_52 hn, pp_48_0 hP, pp_48_2 hP, pp_48_3 hP, pp_48_4 hP⟩
  · exact ⟨pp_42_2 hP, cl_53 hn, cl_54 hn, cl_55 hn, cl_56 hn, cl_57 hn, pp_53_0 hP, pp_53_2 hP, pp_53_3 hP, pp_53_4 hP⟩
  · exact ⟨pp_42_3 hP, cl_58 hn, cl_59 hn, cl_60 hn, cl_61 hn, cl_62 hn, pp_58_0 hP, pp_58_2 hP, pp_58_3 hP, pp_58_4 hP⟩
theorem rho_cl {n : Nat} {P : xP} {M : xM} (hn : 82 ≤ n) (hP : x_PP P) {τ : Int} {ρ : Option xTx} (H : rho M τ ρ) : clR n P M (if τ < 0 then none else some (43 + 5 * τ.toNat)) ρ := by
  by_cases h : τ < 0
  · rw [if_pos h, H.1 h]
    exact ⟨fun _ => rfl, fun T e => by cases e⟩
  · rw [if_neg h]
    obtain ⟨T, e, h4, hT⟩ := H.2 (by omega)
    rw [e]
    refine ⟨fun z => (by cases z), fun T' e' => ?_⟩
    cases e'
    exact ⟨_, rfl, (x_txt hn hP ⟨by omega, h4⟩).2, by omega, hT.1, hT.2.1⟩
theorem relC_same {A : Int → Int} {M M' : xM} (h : relC A (CC M)) (e : ∀ c, 1 ≤ c → c < 12 → M' c = M c) : relC A (CC M') := by
  have : ∀ i, i < 11 → CC M' i = CC M i := fun i hi => e (1 + i) (by omega) (by omega)
  have q : ∀ i, i < 11 → ∀ j, CC M' i j = CC M i j := fun i hi j => by rw [this i hi]
  exact relC_of h (fun _ _ _ => rfl) (q 0 (by omega) _) (q 0 (by omega) _) (q 0 (by omega) _) (q 0 (by omega) _) (fun j _ _ => q 1 (by omega) j) (fun j _ _ => q 2 (by omega) j) (q 3 (by omega) _) (fun j _ _ => q 4 (by omega) j) (q 5 (by omega) _) (fun j _ _ => q 6 (by omega) j) (q 7 (by omega) _) (fun j _ _ => q 8 (by omega) j) (q 9 (by omega) _) (fun j _ _ => q 10 (by omega) j)
/-- class, then reference: the whole relation again -/
theorem Rel_op {M M1 M2 : xM} {A' : Int → Int} (h : Rel M) (h1 : offC M M1) (h2 : relC A' (CC M1)) (h3 : offR M1 M2) (h4 : M2 65 = A') (h5 : A' 1 = M 65 1) : Rel M2 := by
  obtain ⟨r1, r2, r3, r4, r5, r6⟩ := h
  have e : ∀ c, c = 0 ∨ (26 ≤ c ∧ c < 63) ∨ (66 ≤ c ∧ c < 69) → M2 c = M c := fun c hc => (h3.1 c (by omega)).trans (h1 c (by omega) (by omega))
  have e64 : ∀ j, j = 4 ∨ j = 5 ∨ j = 6 → M2 64 j = M 64 j := fun j hj => (h3.2 j hj).trans (by rw [h1 64 (by omega) (by omega)])
  have h14 := r1.2.1.1
  refine ⟨?_, ?_, ?_, fun τ t0 t1 => ?_, ?_, ?_⟩
  · rw [h4]
    exact relC_same h2 (fun c c0 c1 => h3.1 c (by omega))
  · rw [e 66 (by omega)]
    have q : ∀ i, i < 11 → ∀ j, CK M2 i j = CK M i j := fun i hi j => by
      show M2 (26 + i) j = M (26 + i) j
      rw [e (26 + i) (by omega)]
    exact relC_of r2 (fun _ _ _ => rfl) (q 0 (by omega) _) (q 0 (by omega) _) (q 0 (by omega) _) (q 0 (by omega) _) (fun j _ _ => q 1 (by omega) j) (fun j _ _ => q 2 (by omega) j) (q 3 (by omega) _) (fun j _ _ => q 4 (by omega) j) (q 5 (by omega) _) (fun j _ _ => q 6 (by omega) j) (q 7 (by omega) _) (fun j _ _ => q 8 (by omega) j) (q 9 (by omega) _) (fun j _ _ => q 10 (by omega) j)
  · rw [e 66 (by omega), h4, h5]
    exact r3
  · rw [h4, h5] at t1
    obtain ⟨T, hT⟩ := r4 τ t0 t1
    exact ⟨T, txt_of ⟨t0, by omega⟩ (fun c c0 c1 => e c (by omega)) (e 67 (by omega)) hT⟩
  · unfold tpR at *
    rw [e 37 (by omega), e 38 (by omega), e 68 (by omega), e64 4 (by omega)]
    exact r5
  · rw [e 0 (by omega), e64 5 (by omega), e64 6 (by omega)]
    exact r6
section Rel3
variable {g : Option Nat} {d n : Nat} {P : xP} {M : xM} {F : xM → Int → Prop} {G : xM → Prop}
theorem k_ruling {F : xM → Option Nat → Prop} (hn : 82 ≤ n) (hP : x_PP P) {A : Int → Int} {ρ : Option xTx} (h : relC A (CC M)) (hρ : rho M (A 2) ρ) (H : ∀ o, clR n P M o ρ → F M o) : xCR Y_X9_ruling g (d + 1) [vR (some 0)] n P M F := by
  have e1 : M 1 8 = A 1 := h.1.2.1.symm
  have e2 : M 1 9 = A 2 := h.1.2.2.1.symm
  obtain ⟨r1, r2, _⟩ := h.2.1
  have H' := H _ (rho_cl hn hP hρ)
  refine b_X9_ruling hn hP (b_X9_isText hn hP ?_)
  rw [e1, e2]
  refine ⟨fun h0 => ⟨fun _ => ?_, fun z => absurd rfl z⟩, fun h0 => ⟨fun h1 => absurd h1 (by omega), fun _ => ⟨fun h1 => absurd h1 (by omega), fun _ => ⟨fun z => absurd z (by decide), fun _ => ?_⟩⟩⟩⟩
  · rw [if_pos h0] at H'
    exact H'
  · rw [if_neg h0] at H'
    exact ⟨_, ⟨by omega, (x_txt hn hP (by omega)).1, (x_txt hn hP (by omega)).2⟩, H'⟩
end Rel3
