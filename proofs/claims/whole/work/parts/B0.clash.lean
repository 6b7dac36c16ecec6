/-! which codes say guilty: clash, records -/
def gC (ρ : Option xTx) (A : Int → Int) (q c fs : Int) : Int := gui ρ q (cn (A 11) q (A 9) (A (20 + 7 * c + 0)) (A (20 + 7 * c + 1)) (A (20 + 7 * c + 2))) fs
def clF (ρ : Option xTx) (A : Int → Int) (c fs : Int) : Nat → Int
  | 0 => 0
  | q + 1 => if gC ρ A q c fs = 0 then clF ρ A c fs q else x_or (clF ρ A c fs q) (x_shl 1 q)
theorem x_or_0f : ∀ a : Fin 256, x_or (a.val : Int) 0 = (a.val : Int) := by decide +kernel
theorem x_or_0 {a : Int} (h : 0 ≤ a ∧ a < 256) : x_or a 0 = a := by
  have := x_or_0f ⟨a.toNat, by omega⟩
  rwa [show (((⟨a.toNat, by omega⟩ : Fin 256).val : Nat) : Int) = a by show (a.toNat : Int) = a; omega] at this
theorem clF_r (ρ : Option xTx) (A : Int → Int) (c fs : Int) : ∀ q : Nat, q ≤ 4 → 0 ≤ clF ρ A c fs q ∧ clF ρ A c fs q < 16
  | 0, _ => ⟨Int.le_refl _, by show (0 : Int) < 16; decide⟩
  | q + 1, hq => by
    have ih := clF_r ρ A c fs q (by omega)
    show 0 ≤ (if gC ρ A q c fs = 0 then _ else _ : Int) ∧ (if gC ρ A q c fs = 0 then _ else _ : Int) < 16
    by_cases h : gC ρ A q c fs = 0
    · rw [if_pos h]; exact ih
    · rw [if_neg h]; exact laws_r ih (by omega)
theorem gC_r {ρ : Option xTx} (hR : okR ρ) {A : Int → Int} (h : oka A) {c : Int} (hc : 0 ≤ c ∧ c < A 0) {q : Int} (hq : 0 ≤ q ∧ q < 4) (fs : Int) : gC ρ A q c fs = 0 ∨ gC ρ A q c fs = 1 := by
  obtain ⟨c8, t0, t1, t2, t3⟩ := oka_told h hc
  obtain ⟨K, hI⟩ := oka_inv h
  obtain ⟨h8, h9, h10, h11, h12, _⟩ := hI.2.1
  exact gui_r hR hq (okN_c2 (by omega) h9 (by omega) (by omega) (by omega) hq.1 hq.2) fs
abbrev nmO (A : Int → Int) (c : Int) (nm : Int → Int) : Prop := nm 0 = A 11 ∧ nm 2 = A 9 ∧ nm 4 = A (20 + 7 * c + 0) ∧ nm 5 = A (20 + 7 * c + 1) ∧ nm 6 = A (20 + 7 * c + 2)
/-- one record judged: 1 if it is wrong -/
def wr1 (ρ : Option xTx) (A : Int → Int) (t i : Int) : Int := if gC ρ A ((A (76 + 3 * i + 1) + t) % 4) (A (76 + 3 * i)) (A (20 + 7 * A (76 + 3 * i) + 3)) = A (76 + 3 * i + 2) then 0 else 1
def wrF (ρ : Option xTx) (A : Int → Int) (t : Int) : Nat → Int
  | 0 => 0
  | i + 1 => wrF ρ A t i + wr1 ρ A t i
theorem wrF_r (ρ : Option xTx) (A : Int → Int) (t : Int) : ∀ k : Nat, 0 ≤ wrF ρ A t k ∧ wrF ρ A t k ≤ k
  | 0 => ⟨Int.le_refl _, Int.le_refl _⟩
  | k + 1 => by
    have ih := wrF_r ρ A t k
    show 0 ≤ wrF ρ A t k + wr1 ρ A t k ∧ wrF ρ A t k + wr1 ρ A t k ≤ _
    unfold wr1
    split <;> omega
theorem and3 : ∀ a : Fin 8, x_and (a.val : Int) 3 = (a.val : Int) % 4 := by decide +kernel
theorem x_and3 {a : Int} (h : 0 ≤ a ∧ a < 8) : x_and a 3 = a % 4 := by
  have := and3 ⟨a.toNat, by omega⟩
  rwa [show (((⟨a.toNat, by omega⟩ : Fin 8).val : Nat) : Int) = a by show (a.toNat : Int) = a; omega] at this
theorem oka_rec {A : Int → Int} (h : oka A) {i : Int} (hi : 0 ≤ i ∧ i < A 4) : (0 ≤ A (76 + 3 * i) ∧ A (76 + 3 * i) < A 0) ∧ (0 ≤ A (76 + 3 * i + 1) ∧ A (76 + 3 * i + 1) < 4) ∧ (A (76 + 3 * i + 2) = 0 ∨ A (76 + 3 * i + 2) = 1) ∧ i < 8 := by
  obtain ⟨C, h⟩ := h
  have r := h.2.2.2.2.1.1 i hi.1 hi.2
  have g4 := h.2.1.2.2.2.2.1
  exact ⟨r.2.1, r.2.2.1, r.2.2.2, by omega⟩
section Clash
variable {g : Option Nat} {d n : Nat} {P : xP} {M : xM} {F : xM → Int → Prop} {G : xM → Prop}
/-- the class's seeWind, seeCase, isGuiltyBy on any state -/
theorem k_seeWind (hn : 82 ≤ n) (hP : x_PP P) {a b c : Int} (H : ∀ M', offW M M' → M' 12 1 = M 12 1 → M' 13 = up (up (up (M 13) 0 a) 1 b) 2 c → G M') : xCV Y_X2_seeWind g d [vR (some 12), vI a, vI b, vI c] n P M G := by
  have := c_X2_seeWind (g := g) (d := d) (G := G) (M := M) (nm := M 13) (st := M 14) (fs := M 12 1) (a := a) (b := b) (c := c) hn hP (H _ (offW_Lw (offW_refl M)) (Lw_12 _ _ _ _) (Lw_13 _ _ _ _))
  rw [Lw_self] at this
  exact this
theorem k_seeCase (hn : 82 ≤ n) (hP : x_PP P) {A : Int → Int} {c s : Int} (h : relC A (CC M)) (hc : 0 ≤ c ∧ c < A 0) (H : ∀ M', offW M M' → M' 12 1 = A (20 + 7 * c + 3) → M' 13 = up (up (up (M 13) 4 (A (20 + 7 * c + 0))) 5 (A (20 + 7 * c + 1))) 6 s → G M') : xCV Y_X2_seeCase g (d + 2) [vR (some 12), vR (some 4), vI c, vI s] n P M G := by
  have a0 : A 0 = M 4 1 := h.1.1
  have hm := h.2.2.2.1.1
  obtain ⟨k0, k1, k2, k3⟩ := relC_told h hc
  have := c_X2_seeCase (g := g) (d := d) (G := G) (M := M) (nm := M 13) (st := M 14) (fs := M 12 1) (c := c) (s := s) hn hP (x_rows4 hn hP) (by omega) (by omega) (by omega) (by
    rw [show M (4 + 1) (4 * c) = A (20 + 7 * c + 0) from k0.symm, show M (4 + 1) (4 * c + 1) = A (20 + 7 * c + 1) from k1.symm, show M (4 + 1) (4 * c + 3) = A (20 + 7 * c + 3) from k3.symm]
    exact H _ (offW_Lw (offW_refl M)) (Lw_12 _ _ _ _) (Lw_13 _ _ _ _))
  rw [Lw_self] at this
  exact this
theorem k_guiltyBy (hn : 82 ≤ n) (hP : x_PP P) {A : Int → Int} {o : Option Nat} {ρ : Option xTx} {c q : Int} (h : oka A) (hR : clR n P M o ρ) (hc : 0 ≤ c ∧ c < A 0) (hq : 0 ≤ q ∧ q < 4) (hnm : nmO A c (M 13)) (H : ∀ M', offW M M' → M' 12 1 = M 12 1 → nmO A c (M' 13) → F M' (gC ρ A q c (M 12 1))) : xCI Y_X2_isGuiltyBy g (d + 2) [vR (some 12), vR o, vI q] n P M F := by
  have okr := clR_ok hR
  obtain ⟨c8, t0, t1, t2, t3⟩ := oka_told h hc
  obtain ⟨K, hI⟩ := oka_inv h
  obtain ⟨h8, h9, h10, h11, h12, _⟩ := hI.2.1
  obtain ⟨n0, n2, n4, n5, n6⟩ := hnm
  have eg : gui ρ q (up (M 13) 1 q) (M 12 1) = gC ρ A q c (M 12 1) := by
    unfold gC
    apply gui_congr okr hq
    · rw [up_ne (by decide)]; exact n0
    · rw [up_at]; rfl
    · rw [up_ne (by decide)]; exact n2
    · rw [up_ne (by decide)]; exact n4
    · rw [up_ne (by decide)]; exact n5
    · rw [up_ne (by decide)]; exact n6
  have okn : okN q (up (M 13) 1 q) := okN_c hq.2 (by rw [up_ne (by decide)]; omega) (by rw [up_at]; omega) (by rw [up_ne (by decide)]; omega) (by rw [up_ne (by decide)]; omega) (by rw [up_ne (by decide)]; omega) (by rw [up_ne (by decide)]; omega)
  have := c_X2_isGuiltyBy (g := g) (d := d) (F := F) (M := M) (nm := M 13) (st := M 14) (fs := M 12 1) hn hP hR hq okn (fun st' => by
    rw [eg]
    refine H _ (offW_Lw (offW_refl M)) (Lw_12 _ _ _ _) ?_
    rw [Lw_13]
    exact ⟨(up_ne (by decide)).trans n0, (up_ne (by decide)).trans n2, (up_ne (by decide)).trans n4, (up_ne (by decide)).trans n5, (up_ne (by decide)).trans n6⟩)
  rw [Lw_self] at this
  exact this
theorem q_isGuilty (hn : 82 ≤ n) (hP : x_PP P) {ρ : Option xTx} {τ q c fa : Int} (h : oka (M 65)) (hR : rfR M τ ρ) (hc : 0 ≤ c ∧ c < M 65 0) (hq : 0 ≤ q ∧ q < 4) (hfa : 0 ≤ fa ∧ fa < 256) (H : ∀ M', offL M M' → F M' (gC ρ (M 65) q c fa)) : xCI Y_X10_isGuilty g (d + 3) [vR (some 64), vI τ, vI q, vI c, vI (M 65 (20 + 7 * c + 2)), vI fa] n P M F := by
  obtain ⟨c8, t0, t1, t2, t3⟩ := oka_told h hc
  obtain ⟨K, hI⟩ := oka_inv h
  obtain ⟨h8, h9, h10, h11, h12, _⟩ := hI.2.1
  have := c_X10_isGuilty (g := g) (d := d) (F := F) (nm := M 71) (f := M 72) (h := M 73) (fs := M 64 26) hn hP hR hq c8 hfa (okN_c2 (by omega) h9 (by omega) (by omega) (by omega) hq.1 hq.2) (fun nm' f' h' fs' => H _ (offL_Rw (offL_refl M)))
  rw [Rw_self] at this
  exact this
theorem k_guiltyCodes (hn : 82 ≤ n) (hP : x_PP P) {A : Int → Int} {ρ : Option xTx} {c fa : Int} (h : relC A (CC M)) (hρ : rho M (A 2) ρ) (hc : 0 ≤ c ∧ c < A 0) (H : ∀ M', offW M M' → F M' (clF ρ A c fa 4)) : xCI Y_X9_guiltyCodes g (d + 3) [vR (some 0), vI c, vI fa] n P M F := by
  have okr := rho_okR hρ
  have ok : oka A := ⟨_, h⟩
  have a0 : A 0 = M 4 1 := h.1.1
  have hm := h.2.2.2.1.1
  have hN : relN A (M 2) := h.2.2.1
  have e11 : A 11 = M 2 3 := rel_at hN (by omega) rfl
  have e8 : A 8 = M 2 0 := rel_at hN (by omega) rfl
  have e9 : A 9 = M 2 1 := rel_at hN (by omega) rfl
  obtain ⟨k0, k1, k2, k3⟩ := relC_told h hc
  have loop : ∀ (m q : Nat), q + m = 4 → ∀ N, offW M N → N 12 1 = fa → nmO A c (N 13) → xW Y_X9_guiltyCodes g (d + 3) 0 0 74 [(0, vR (some 0)), (3, vI (clF ρ A c fa q)), (4, vI (q : Int))] [] (0, 0) (n, P, N) (kI n P F) := by
    intro m
    induction m with
    | zero =>
      intro q hq N oN f12 nN
      refine b_X9_guiltyCodes_74 hn hP ⟨fun _ => ?_, fun z => absurd z (by omega)⟩
      rw [show q = 4 by omega]
      exact H N oN
    | succ m ih =>
      intro q hq N oN f12 nN
      have rN := relC_same h (offW_k oN)
      refine b_X9_guiltyCodes_74 hn hP ⟨fun z => absurd z (by omega), fun _ => k_ruling hn hP rN (rho_C (offW_C oN) hρ) (fun o ho => k_guiltyBy hn hP ok ho hc (by omega) nN (fun N2 o2 g12 n2 => ?_))⟩
      rw [f12]
      have e : clF ρ A c fa (q + 1) = if gC ρ A q c fa = 0 then clF ρ A c fa q else x_or (clF ρ A c fa q) (x_shl 1 q) := rfl
      have nx := ih (q + 1) (by omega) N2 (offW_trans oN o2) (g12.trans f12) n2
      rw [e, show (((q + 1 : Nat) : Nat) : Int) = (q : Int) + 1 by omega] at nx
      refine ⟨fun hz => b_X9_guiltyCodes_103 hn hP ⟨by unfold inR; omega, ?_⟩, fun hz => b_X9_guiltyCodes_103 hn hP ⟨by unfold inR; omega, ?_⟩⟩
      · rwa [if_pos hz] at nx
      · rwa [if_neg hz] at nx
  refine b_X9_guiltyCodes hn hP (k_seeWind hn hP (fun M1 o1 f1 n1 => c_X5_at hn hP (x_rows4 hn hP) (by rw [o1 4 (by omega)]; omega) (by rw [o1 4 (by omega)]; omega) (by omega) ?_))
  rw [show M1 (4 + 1) (4 * c + 2) = A (20 + 7 * c + 2) by rw [o1 (4 + 1) (by omega)]; exact k2.symm]
  refine k_seeCase hn hP (relC_same h (offW_k o1)) hc (fun M2 o2 f2 n2 => ?_)
  have o12 := offW_trans o1 o2
  refine loop 4 0 (by omega) _ (fun b hb => by rw [← o12 b hb]; funext j; exact x_upd_nb (by omega)) (x_upd_at _ _ _ _) ?_
  rw [show x_upd M2 12 1 fa 13 = M2 13 by funext j; exact x_upd_nb (by decide), n2, n1, ← e11, ← e8, ← e9]
  exact ⟨rfl, rfl, rfl, rfl, rfl⟩
theorem q_clashOf (hn : 82 ≤ n) (hP : x_PP P) {ρ : Option xTx} {c fa : Int} (h : oka (M 65)) (hρ : rho M (M 65 2) ρ) (hc : 0 ≤ c ∧ c < M 65 0) (hfa : 0 ≤ fa ∧ fa < 256) (H : ∀ M', offL M M' → F M' (clF ρ (M 65) c fa 4)) : xCI Y_X10_clashOf g (d + 4) [vR (some 64), vI c, vI fa] n P M F := by
  have okr := rho_okR hρ
  obtain ⟨c8, t0, t1, t2, t3⟩ := oka_told h hc
  have loop : ∀ (m q : Nat), q + m = 4 → ∀ N, offL M N → xW Y_X10_clashOf g (d + 4) 0 0 5 [(0, vR (some 64)), (1, vI c), (2, vI fa), (3, vI (clF ρ (M 65) c fa q)), (4, vI (q : Int))] [] (0, 0) (n, P, N) (kI n P F) := by
    intro m
    induction m with
    | zero =>
      intro q hq N oN
      refine b_X10_clashOf_5 hn hP ⟨fun _ => ?_, fun z => absurd z (by omega)⟩
      rw [show q = 4 by omega]
      exact H N oN
    | succ m ih =>
      intro q hq N oN
      have n65 : N 65 = M 65 := oN.1 65 (by decide) (by decide)
      refine b_X10_clashOf_5 hn hP ⟨fun z => absurd z (by omega), fun _ => c_X10_get hn hP c8 (by omega) ?_⟩
      refine q_isGuilty hn hP (ρ := ρ) (by rw [n65]; exact h) (by rw [n65]; exact rho_rf (rho_R (offL_R oN) hρ)) (by rw [n65]; exact hc) (by omega) hfa (fun N2 o2 => ?_)
      rw [n65]
      have o12 : offL M N2 := ⟨fun b h1 h2 => (o2.1 b h1 h2).trans (oN.1 b h1 h2), fun j hj => (o2.2 j hj).trans (oN.2 j hj)⟩
      have cr := clF_r ρ (M 65) c fa q (by omega)
      have e : clF ρ (M 65) c fa (q + 1) = if gC ρ (M 65) q c fa = 0 then clF ρ (M 65) c fa q else x_or (clF ρ (M 65) c fa q) (x_shl 1 q) := rfl
      have nx := ih (q + 1) (by omega) N2 o12
      rw [e, show (((q + 1 : Nat) : Nat) : Int) = (q : Int) + 1 by omega] at nx
      refine ⟨fun hz => b_X10_clashOf_43 hn hP ⟨by unfold inR; omega, ?_⟩, fun hz => b_X10_clashOf_43 hn hP ⟨by unfold inR; omega, ?_⟩⟩
      · rw [x_or_0 (by omega)]
        rwa [if_pos hz] at nx
      · rwa [if_neg hz] at nx
  exact b_X10_clashOf hn hP (loop 4 0 (by omega) M (offL_refl M))
theorem op_clash (hn : 82 ≤ n) (hP : x_PP P) {c : Int} (h : Rel M) : op2 n P Y_X9_clash Y_X10_clash (d + 100) [vI c] M := by
  obtain ⟨ρ, hρ⟩ := Rel_rul h
  have ok := Rel_oka h
  have a0 : M 65 0 = M 4 1 := h.1.1.1
  have hm := h.1.2.2.2.1.1
  refine b_X9_clash hn hP (c_X5_has hn hP (x_rows4 hn hP) (by omega) ?_)
  rw [← a0]
  refine ⟨fun hz => ?_, fun hz => b_X10_clash hn hP (c_X10_isCase hn hP hm ⟨fun _ => ⟨rfl, h⟩, fun z => absurd (bi_n0.mp z) (bi_0.mp hz)⟩)⟩
  have hc := bi_n0.mp hz
  obtain ⟨c8, t0, t1, t2, t3⟩ := oka_told ok hc
  obtain ⟨k0, k1, k2, k3⟩ := relC_told h.1 hc
  refine c_X5_at hn hP (x_rows4 hn hP) (by omega) (by omega) (by omega) ?_
  rw [show M (4 + 1) (4 * c + 3) = M 65 (20 + 7 * c + 3) from k3.symm]
  refine k_guiltyCodes hn hP h.1 hρ hc (fun M1 o1 => ?_)
  have oC := offW_C o1
  have e65 := offC_65 oC
  refine op_q h oC (offW_k o1) (fun F HF => b_X10_clash hn hP (c_X10_isCase hn hP (by rw [e65]; exact hm) ⟨fun z => absurd (by rw [e65]; exact hc) (bi_0.mp z), fun _ => c_X10_get hn hP c8 (by omega) (q_clashOf (ρ := ρ) hn hP (by rw [e65]; exact ok) (by rw [e65]; exact rho_C oC hρ) (by rw [e65]; exact hc) (by rw [e65]; exact t3) (fun M2 o2 => ?_))⟩))
  rw [e65]
  exact HF M2 (offL_R o2) (o2.1 65 (by decide) (by decide))
theorem k_wrongRecords (hn : 82 ≤ n) (hP : x_PP P) {A : Int → Int} {o : Option Nat} {ρ : Option xTx} {t : Int} (h : relC A (CC M)) (hR : clR n P M o ρ) (ht : 0 ≤ t ∧ t < 4) (H : ∀ M', offW M M' → F M' (wrF ρ A t (A 4).toNat)) : xCI Y_X9_wrongRecords g (d + 3) [vR (some 0), vR o, vI t] n P M F := by
  have okr := clR_ok hR
  have ok : oka A := ⟨_, h⟩
  have a0 : A 0 = M 4 1 := h.1.1
  have a4 : A 4 = M 6 1 := h.1.2.2.2.2.1
  have g4 := h.2.1.2.2.2.2.1
  have hm := h.2.2.2.1.1
  have hN : relN A (M 2) := h.2.2.1
  have e11 : A 11 = M 2 3 := rel_at hN (by omega) rfl
  have e8 : A 8 = M 2 0 := rel_at hN (by omega) rfl
  have e9 : A 9 = M 2 1 := rel_at hN (by omega) rfl
  have loop : ∀ (m i : Nat), (i : Int) + m = A 4 → ∀ N, offW M N → N 13 0 = A 11 → N 13 2 = A 9 → xW Y_X9_wrongRecords g (d + 3) 0 0 39 [(0, vR (some 0)), (1, vR o), (2, vI t), (3, vI (wrF ρ A t i)), (4, vI (i : Int))] [] (0, 0) (n, P, N) (kI n P F) := by
    intro m
    induction m with
    | zero =>
      intro i hi N oN n0 n2
      refine b_X9_wrongRecords_39 hn hP ⟨fun _ => ?_, fun z => absurd z (by rw [oN 6 (by omega)]; omega)⟩
      rw [show i = (A 4).toNat by omega]
      exact H N oN
    | succ m ih =>
      intro i hi N oN n0 n2
      obtain ⟨r1, r2, r3, r4⟩ := oka_rec ok (i := (i : Int)) (by omega)
      obtain ⟨⟨q1, q2, q3⟩, _⟩ := h.2.2.2.2.1.1 (i : Int) (by omega) (by omega)
      obtain ⟨k0, k1, k2, k3⟩ := relC_told h r1
      have rN := relC_same h (offW_k oN)
      have m6 : N 6 1 = M 6 1 := by rw [oN 6 (by omega)]
      have m4 : N 4 1 = M 4 1 := by rw [oN 4 (by omega)]
      have wr := wrF_r ρ A t i
      refine b_X9_wrongRecords_39 hn hP ⟨fun z => absurd z (by omega), fun _ => c_X5_at hn hP (x_rows6 hn hP) (by omega) (by omega) (by omega) ?_⟩
      rw [show N (6 + 1) (4 * (i : Int) + 0) = A (76 + 3 * i) by rw [oN (6 + 1) (by omega), Int.add_zero]; exact q1.symm]
      refine c_X5_at hn hP (x_rows4 hn hP) (by omega) (by omega) (by omega) ?_
      rw [show N (4 + 1) (4 * A (76 + 3 * i) + 2) = A (20 + 7 * A (76 + 3 * i) + 2) by rw [oN (4 + 1) (by omega)]; exact k2.symm]
      refine k_seeCase hn hP rN r1 (fun N2 o2 f2 n2' => ?_)
      have o12 := offW_trans oN o2
      refine c_X5_at hn hP (x_rows6 hn hP) (by rw [o2 6 (by omega)]; omega) (by rw [o2 6 (by omega)]; omega) (by omega) ?_
      rw [show N2 (6 + 1) (4 * (i : Int) + 2) = A (76 + 3 * i + 1) by rw [o12 (6 + 1) (by omega)]; exact q2.symm, x_and3 (by omega)]
      refine ⟨by unfold inR; omega, k_guiltyBy hn hP ok (clR_C (offW_C o12) hR) r1 (by omega) ?_ (fun N3 o3 g12 nn => ?_)⟩
      · rw [n2']
        exact ⟨n0, n2, rfl, rfl, rfl⟩
      rw [f2]
      have o13 := offW_trans o12 o3
      refine c_X5_at hn hP (x_rows6 hn hP) (by rw [o13 6 (by omega)]; omega) (by rw [o13 6 (by omega)]; omega) (by omega) ?_
      rw [show N3 (6 + 1) (4 * (i : Int) + 1) = A (76 + 3 * i + 2) by rw [o13 (6 + 1) (by omega)]; exact q3.symm]
      have e : wrF ρ A t (i + 1) = wrF ρ A t i + wr1 ρ A t i := rfl
      have nx := ih (i + 1) (by omega) N3 o13 nn.1 nn.2.1
      rw [e, show (((i + 1 : Nat) : Nat) : Int) = (i : Int) + 1 by omega] at nx
      unfold wr1 at nx
      have fin : ∀ s0, s0 = A (76 + 3 * i + 2) → xW Y_X9_wrongRecords g (d + 3) 0 0 149 [(0, vR (some 0)), (1, vR o), (2, vI t), (3, vI (wrF ρ A t i)), (4, vI (i : Int))] [vI s0, vI (gC ρ A ((A (76 + 3 * i + 1) + t) % 4) (A (76 + 3 * i)) (A (20 + 7 * A (76 + 3 * i) + 3)))] (0, 0) (n, P, N3) (kI n P F) := by
        intro s0 hs
        subst hs
        refine b_X9_wrongRecords_149 hn hP ⟨fun hz => b_X9_wrongRecords_155 hn hP ⟨by unfold inR; omega, ?_⟩, fun hz => ⟨by unfold inR; omega, b_X9_wrongRecords_155 hn hP ⟨by unfold inR; omega, ?_⟩⟩⟩
        · rwa [if_pos hz, Int.add_zero] at nx
        · rwa [if_neg hz] at nx
      exact ⟨fun hz => fin 0 (by omega), fun hz => fin 1 hz.symm⟩
  refine b_X9_wrongRecords hn hP (k_seeWind hn hP (fun M1 o1 f1 n1 => loop (A 4).toNat 0 (by omega) M1 o1 ?_ ?_))
  · rw [n1, ← e11]; rfl
  · rw [n1, ← e9]; rfl
theorem q_wrongBy (hn : 82 ≤ n) (hP : x_PP P) {ρ : Option xTx} {τ t : Int} (h : oka (M 65)) (hR : rfR M τ ρ) (ht : 0 ≤ t ∧ t < 4) (H : ∀ M', offL M M' → F M' (wrF ρ (M 65) t (M 65 4).toNat)) : xCI Y_X10_wrongBy g (d + 4) [vR (some 64), vI τ, vI t] n P M F := by
  have g4 : 0 ≤ M 65 4 ∧ M 65 4 ≤ 8 := by obtain ⟨C, hC⟩ := h; exact hC.2.1.2.2.2.2.1
  have okr := rfR_ok hR
  have loop : ∀ (m i : Nat), (i : Int) + m = M 65 4 → ∀ N, offL M N → xW Y_X10_wrongBy g (d + 4) 0 0 5 [(0, vR (some 64)), (1, vI τ), (2, vI t), (3, vI (wrF ρ (M 65) t i)), (4, vI (i : Int))] [] (0, 0) (n, P, N) (kI n P F) := by
    intro m
    induction m with
    | zero =>
      intro i hi N oN
      refine b_X10_wrongBy_5 hn hP ⟨fun _ => ?_, fun z => absurd z (by rw [oN.1 65 (by decide) (by decide)]; omega)⟩
      rw [show i = (M 65 4).toNat by omega]
      exact H N oN
    | succ m ih =>
      intro i hi N oN
      have n65 : N 65 = M 65 := oN.1 65 (by decide) (by decide)
      obtain ⟨r1, r2, r3, r4⟩ := oka_rec h (i := (i : Int)) (by omega)
      obtain ⟨c8, t0, t1, t2, t3⟩ := oka_told h r1
      have wr := wrF_r ρ (M 65) t i
      refine b_X10_wrongBy_5 hn hP ⟨fun z => absurd z (by rw [n65]; omega), fun _ => ?_⟩
      rw [n65]
      refine ⟨by unfold inR; omega, by unfold inR; omega, by omega, by unfold inR; omega, by omega, by unfold inR; omega, c_X10_get hn hP c8 (by omega) (c_X10_get hn hP c8 (by omega) ?_)⟩
      rw [Int.tmod_eq_emod_of_nonneg (by omega)]
      refine q_isGuilty hn hP (ρ := ρ) (by rw [n65]; exact h) (rfR_of (oN.1 67 (by decide) (by decide)) hR) (by rw [n65]; exact r1) (by omega) (by rw [n65]; exact t3) (fun N2 o2 => ?_)
      rw [n65]
      have o12 : offL M N2 := ⟨fun b h1 h2 => (o2.1 b h1 h2).trans (oN.1 b h1 h2), fun j hj => (o2.2 j hj).trans (oN.2 j hj)⟩
      have m65 : N2 65 = M 65 := o12.1 65 (by decide) (by decide)
      rw [m65]
      have e : wrF ρ (M 65) t (i + 1) = wrF ρ (M 65) t i + wr1 ρ (M 65) t i := rfl
      have nx := ih (i + 1) (by omega) N2 o12
      rw [e, show (((i + 1 : Nat) : Nat) : Int) = (i : Int) + 1 by omega] at nx
      unfold wr1 at nx
      have fin : ∀ s0, s0 = M 65 (76 + 3 * i + 2) → xW Y_X10_wrongBy g (d + 4) 0 0 87 [(0, vR (some 64)), (1, vI τ), (2, vI t), (4, vI (i : Int))] [vI s0, vI (gC ρ (M 65) ((M 65 (76 + 3 * i + 1) + t) % 4) (M 65 (76 + 3 * i)) (M 65 (20 + 7 * M 65 (76 + 3 * i) + 3))), vI (wrF ρ (M 65) t i)] (0, 0) (n, P, N2) (kI n P F) := by
        intro s0 hs
        subst hs
        refine b_X10_wrongBy_87 hn hP ⟨fun hz => b_X10_wrongBy_95 hn hP ⟨by unfold inR; omega, by unfold inR; omega, ?_⟩, fun hz => b_X10_wrongBy_95 hn hP ⟨by unfold inR; omega, by unfold inR; omega, ?_⟩⟩
        · rwa [if_neg hz] at nx
        · rwa [if_pos hz] at nx
      exact ⟨by unfold inR; omega, by omega, fun hz => fin 0 (by omega), fun hz => fin 1 hz.symm⟩
  exact b_X10_wrongBy hn hP (loop (M 65 4).toNat 0 (by omega) M (offL_refl M))
end Clash
