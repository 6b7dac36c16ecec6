/-! ends, harshest, best -/
abbrev wt (A : Int → Int) (c : Int) : Prop := (0 ≤ c ∧ c < A 0) ∧ A (24 + 7 * c) = 0
/-- its end: -2 none, -1 acquitted, else the sentence -/
def eO (ρ : Option xTx) (A : Int → Int) (c k e : Int) : Int := if A 11 + k + (A (20 + 7 * c + 2) + e) ≤ 9999 then vd ρ A c k (A (20 + 7 * c + 2) + e) else -2
theorem eO_r {ρ : Option xTx} {A : Int → Int} (h : oka A) {c : Int} (hc : 0 ≤ c ∧ c < A 0) {k e : Int} (he : 0 ≤ e ∧ e ≤ 3) : -2 ≤ eO ρ A c k e ∧ eO ρ A c k e ≤ 999 := by
  obtain ⟨c8, t0, t1, t2, t3⟩ := oka_told h hc
  have := vd_r (ρ := ρ) (A := A) (c := c) (s := k) (hd := A (20 + 7 * c + 2) + e) (by omega) (by omega)
  unfold eO
  split <;> omega
def hsF (f : Int → Int → Int) : Nat → Int
  | 0 => 0
  | p + 1 => if hsF f p ≤ f (((p / 4 : Nat) : Nat) : Int) (((p % 4 : Nat) : Nat) : Int) then f (((p / 4 : Nat) : Nat) : Int) (((p % 4 : Nat) : Nat) : Int) else hsF f p
theorem hsF_0 (f : Int → Int → Int) : ∀ p, 0 ≤ hsF f p
  | 0 => Int.le_refl _
  | p + 1 => by
    have ih := hsF_0 f p
    show 0 ≤ (if hsF f p ≤ _ then _ else _ : Int)
    split <;> omega
theorem hsF_s (f : Int → Int → Int) (k e : Nat) (he : e < 4) : hsF f (4 * k + e + 1) = if hsF f (4 * k + e) ≤ f k e then f k e else hsF f (4 * k + e) := by
  show (if hsF f (4 * k + e) ≤ f ((((4 * k + e) / 4 : Nat) : Nat) : Int) ((((4 * k + e) % 4 : Nat) : Nat) : Int) then _ else _) = _
  rw [show (4 * k + e) / 4 = k by omega, show (4 * k + e) % 4 = e by omega]
abbrev hitB (f : Int → Int → Int) (y k e : Int) : Prop := f k e ≠ -2 ∧ bi (f k e ≠ -1) = y
abbrev inKE (k e : Int) : Prop := (0 ≤ k ∧ k ≤ 20) ∧ (0 ≤ e ∧ e ≤ 3)
def isB (f : Int → Int → Int) (y k e : Int) : Prop := hitB f y k e ∧ inKE k e ∧ ∀ k' e', inKE k' e' → hitB f y k' e' → k + e < k' + e' ∨ (k + e = k' + e' ∧ k ≤ k')
theorem isB_uniq {f : Int → Int → Int} {y k e k' e' : Int} (h : isB f y k e) (h' : isB f y k' e') : k = k' ∧ e = e' := by
  have a := h.2.2 k' e' h'.2.1 h'.1
  have b := h'.2.2 k e h.2.1 h.1
  omega
section Best
variable {g : Option Nat} {d n : Nat} {P : xP} {M : xM} {F : xM → Int → Prop} {G : xM → Prop}
theorem k_isWaiting (hn : 82 ≤ n) (hP : x_PP P) {A : Int → Int} {c : Int} (h : relC A (CC M)) (H : F M (bi (wt A c))) : xCI Y_X0_isWaiting g (d + 1) [vR (some 1), vI c] n P M F := by
  have a0 : A 0 = M 4 1 := h.1.1
  have hm := h.2.2.2.1.1
  have hN : relN A (M 2) := h.2.2.1
  refine c_X0_isWaiting hn hP (by omega) ?_
  have e : ((0 ≤ c ∧ c < M 4 1) ∧ M 2 (10 + c) = 0) ↔ wt A c := by
    unfold wt
    rw [a0]
    refine ⟨fun z => ⟨z.1, ?_⟩, fun z => ⟨z.1, ?_⟩⟩
    · rw [(hN.2.1 c (by omega) (by omega)).1]; exact z.2
    · rw [← (hN.2.1 c (by omega) (by omega)).1]; exact z.2
  rw [bi_congr e]
  exact H
theorem q_isWaiting (hn : 82 ≤ n) (hP : x_PP P) {c : Int} (h : oka (M 65)) (H : F M (bi (wt (M 65) c))) : xCI Y_X10_isWaiting g (d + 2) [vR (some 64), vI c] n P M F := by
  obtain ⟨K, hI⟩ := oka_inv h
  refine c_X10_isWaiting hn hP hI.1 ?_
  rw [show (20 + 7 * c + 4 : Int) = 24 + 7 * c by omega]
  exact H
/-- layWinds(40), then ends asked for by it -/
theorem q_eO (hn : 82 ≤ n) (hP : x_PP P) {ρ : Option xTx} {c k e : Int} (hρ : rho M (M 65 2) ρ) (h : oka (M 65)) (hw : wR ρ (M 65) (lz (M 65) 40) M) (hc : 0 ≤ c ∧ c < M 65 0) (hke : inKE k e)
    (H0 : eO ρ (M 65) c k e = -2 → F M 0) (H1 : eO ρ (M 65) c k e ≠ -2 → ∀ M', offE M M' → M' 64 34 = bi (eO ρ (M 65) c k e ≠ -1) → M' 64 35 = (if eO ρ (M 65) c k e = -1 then 0 else eO ρ (M 65) c k e) → F M' 1) : xCI Y_X10_isEnding g (d + 5) [vR (some 64), vI c, vI k, vI e] n P M F := by
  obtain ⟨c8, t0, t1, t2, t3⟩ := oka_told h hc
  obtain ⟨K, hI⟩ := oka_inv h
  have h11 := hI.2.1.2.2.2.1
  have vr := vd_r (ρ := ρ) (A := M 65) (c := c) (s := k) (hd := M 65 (20 + 7 * c + 2) + e) (by omega) (by omega)
  refine q_isEnding hn hP hρ h hw hc (by omega) hke.2 (fun hl => ?_) ?_ (fun hl => H0 (if_neg hl)) (fun hl M' o' g1 g2 => ?_)
  · unfold lz
    split <;> omega
  · unfold lz
    split <;> omega
  · have he : eO ρ (M 65) c k e = vd ρ (M 65) c k (M 65 (20 + 7 * c + 2) + e) := if_pos hl
    rw [he] at H1
    exact H1 (by omega) M' o' g1 g2
theorem k_eO (hn : 82 ≤ n) (hP : x_PP P) {A : Int → Int} {o : Option Nat} {ρ : Option xTx} {c k e v : Int} (h : relC A (CC M)) (hR : clR n P M o ρ) (hw : wC ρ A (ls A v) M) (h2 : M 15 2 = x_enc o) (hv : 0 ≤ v ∧ v ≤ 60) (hc : 0 ≤ c ∧ c < A 0) (hke : inKE k e) (hle : k + (A (20 + 7 * c + 2) + e) ≤ v) (H : ∀ M', offW M M' → F M' (eO ρ A c k e)) : xCI Y_X1_endOf g (d + 4) [vR (some 15), vI c, vI k, vI (A (20 + 7 * c + 2) + e)] n P M F := by
  have ok : oka A := ⟨_, h⟩
  obtain ⟨c8, t0, t1, t2, t3⟩ := oka_told ok hc
  have r := ls_r ok hv
  have h11 := h.2.2.2.1.2.1.2.2.2.1
  refine k_endOf hn hP h hR hw h2 (by omega) hc (by omega) (by omega) (fun M' o' => ?_)
  have HH := H M' o'
  unfold eO at HH
  by_cases hl : A 11 + k + (A (20 + 7 * c + 2) + e) ≤ 9999
  · rw [if_pos hl] at HH
    rw [if_pos (by unfold ls; split <;> omega)]
    exact HH
  · rw [if_neg hl] at HH
    rw [if_neg (by unfold ls; split <;> omega)]
    exact HH
theorem offW_k {M M' : xM} (h : offW M M') : (∀ c, 1 ≤ c → c < 12 → M' c = M c) := fun c c0 c1 => h c (by omega)
theorem wC_W {ρ : Option xTx} {A : Int → Int} {s : Int} {M M' : xM} (h : offW M M') (hw : wC ρ A s M) : wC ρ A s M' := by
  unfold wC at *
  rw [h 15 (by omega), h 16 (by omega), h 17 (by omega), h 18 (by omega)]
  exact hw
theorem op_ends (hn : 82 ≤ n) (hP : x_PP P) {c k e w : Int} (h : Rel M) : op2 n P Y_X9_ends Y_X10_ends (d + 100) [vI c, vI k, vI e, vI w] M := by
  obtain ⟨ρ, hρ⟩ := Rel_rul h
  have ok := Rel_oka h
  -- the reference
  have ref : ∀ M1, offC M M1 → (∀ c, 1 ≤ c → c < 12 → M1 c = M c) → ∀ z, ((¬ (wt (M 65) c ∧ inKE k e ∧ (0 ≤ w ∧ w ≤ 2)) → z = -1) ∧ ((wt (M 65) c ∧ inKE k e ∧ (0 ≤ w ∧ w ≤ 2)) → z = if eO ρ (M 65) c k e = -2 then -1 else if w = 0 then k + (M 65 (20 + 7 * c + 2) + e) else if w = 1 then bi (eO ρ (M 65) c k e ≠ -1) else if eO ρ (M 65) c k e = -1 then 0 else eO ρ (M 65) c k e)) → xCI Y_X10_ends none (d + 100) [vR (some 64), vI c, vI k, vI e, vI w] n P M1 (fun M2 z2 => z2 = z ∧ Rel M2) := by
    intro M1 o1 e1 z hz
    have e65 := offC_65 o1
    have ok1 : oka (M1 65) := by rw [e65]; exact ok
    have hρ1 : rho M1 (M1 65 2) ρ := by rw [e65]; exact rho_C o1 hρ
    rw [← e65] at hz
    refine op_q h o1 e1 (fun F HF => ?_)
    have no : ¬ (wt (M1 65) c ∧ inKE k e ∧ (0 ≤ w ∧ w ≤ 2)) → F M1 (-1) := fun hh => by rw [← hz.1 hh]; exact HF M1 (offR_refl M1) rfl
    refine b_X10_ends hn hP (q_isWaiting hn hP ok1 ⟨fun h1 => no (fun z => bi_0.mp h1 z.1), fun h1 => c_X10_isIn hn ⟨fun h2 => no (fun z => bi_0.mp h2 z.2.1.1), fun h2 => c_X10_isIn hn ⟨fun h3 => no (fun z => bi_0.mp h3 z.2.1.2), fun h3 => c_X10_isIn hn ⟨fun h4 => ?_, fun h4 => no (fun z => bi_0.mp h4 z.2.2)⟩⟩⟩⟩)
    have b1 := bi_n0.mp h1
    have b2 := bi_n0.mp h2
    have b3 := bi_n0.mp h3
    have b4 := bi_n0.mp h4
    have hz2 := hz.2 ⟨b1, ⟨b2, b3⟩, b4⟩
    obtain ⟨c8, t0, t1, t2, t3⟩ := oka_told ok1 b1.1
    refine q_layWinds hn hP hρ1 ok1 (by omega) (fun M2 o2 e2 w2 => ?_)
    rw [← e2] at w2 hz2 t2 b1
    have ok2 : oka (M2 65) := by rw [e2]; exact ok1
    refine q_eO hn hP (ρ := ρ) (by rw [e2]; exact rho_R o2 hρ1) ok2 w2 b1.1 ⟨b2, b3⟩ (fun he => ⟨fun z => absurd rfl z, fun _ => ?_⟩) (fun he M3 o3 g1 g2 => ⟨fun _ => ?_, fun z => absurd z (by decide)⟩)
    · rw [if_pos he] at hz2
      rw [← hz2]
      exact HF M2 o2 e2
    · rw [if_neg he] at hz2
      have o23 := offR_trans o2 (offE_R o3)
      have e3 : M3 65 = M1 65 := (offE_65 o3).trans e2
      refine ⟨fun w0 => ⟨fun w1 => ?_, fun w1 => ?_⟩, fun w0 => c_X10_get hn hP c8 (by omega) ?_⟩
      · rw [if_neg w0, if_neg w1] at hz2
        rw [g2, ← hz2]
        exact HF M3 o23 e3
      · rw [if_neg w0, if_pos w1] at hz2
        rw [g1]
        refine ⟨fun q => ?_, fun q => ?_⟩
        · have := HF M3 o23 e3; rwa [hz2, q] at this
        · have := HF M3 o23 e3; rwa [hz2, bi_t (bi_n0.mp q)] at this
      · rw [if_pos w0] at hz2
        rw [offE_65 o3]
        refine ⟨by unfold inR; omega, by unfold inR; omega, ?_⟩
        rw [show k + M2 65 (20 + 7 * c + 2) + e = z by omega]
        exact HF M3 o23 e3
  have no : ¬ (wt (M 65) c ∧ inKE k e ∧ (0 ≤ w ∧ w ≤ 2)) → xCI Y_X10_ends none (d + 100) [vR (some 64), vI c, vI k, vI e, vI w] n P M (fun M2 z2 => z2 = -1 ∧ Rel M2) := fun hh => ref M (offC_refl M) (fun _ _ _ => rfl) (-1) ⟨fun _ => rfl, fun z => absurd z hh⟩
  have no33 : ¬ (inKE k e ∧ (0 ≤ w ∧ w ≤ 2)) → xW Y_X9_ends none (d + 100) 0 0 33 [(0, vR (some 0)), (1, vI c), (2, vI k), (3, vI e), (4, vI w)] [] (0, 0) (n, P, M) (kI n P (fun M1 z1 => xCI Y_X10_ends none (d + 100) [vR (some 64), vI c, vI k, vI e, vI w] n P M1 (fun M2 z2 => z2 = z1 ∧ Rel M2))) := fun hh => b_X9_ends_33 hn hP (b_X9_ends_34 hn hP ⟨fun _ => no (fun z => hh z.2), fun z => absurd rfl z⟩)
  refine b_X9_ends hn hP (c_X9_within hn ⟨fun h2 => no33 (fun z => bi_0.mp h2 z.1.1), fun h2 => c_X9_within hn ⟨fun h3 => no33 (fun z => bi_0.mp h3 z.1.2), fun h3 => c_X9_within hn ⟨fun h4 => no33 (fun z => bi_0.mp h4 z.2), fun h4 => b_X9_ends_34 hn hP ⟨fun z => absurd z (by decide), fun _ => k_isWaiting hn hP h.1 ⟨fun h1 => ?_, fun h1 => no (fun z => bi_0.mp h1 z.1)⟩⟩⟩⟩⟩)
  have b1 := bi_n0.mp h1
  have b2 := bi_n0.mp h2
  have b3 := bi_n0.mp h3
  have b4 := bi_n0.mp h4
  have a0 : M 65 0 = M 4 1 := h.1.1.1
  have hm := h.1.2.2.2.1.1
  obtain ⟨c8, t0, t1, t2, t3⟩ := oka_told ok b1.1
  obtain ⟨k0, k1, k2, k3⟩ := relC_told h.1 b1.1
  refine c_X5_at hn hP (x_rows4 hn hP) (by omega) (by omega) (by omega) ?_
  rw [show M (4 + 1) (4 * c + 2) = M 65 (20 + 7 * c + 2) from k2.symm]
  refine ⟨by unfold inR; omega, k_ruling hn hP h.1 hρ (fun o ho => ⟨by unfold inR; omega, k_look hn hP h.1 ho (by omega) (fun M1 o1 e1 q1 hw => ?_)⟩)⟩
  have r1 := relC_same h.1 e1
  refine k_eO hn hP r1 (clR_C o1 ho) hw q1 (by omega) b1.1 ⟨b2, b3⟩ (by omega) (fun M2 o2 => ?_)
  have o12 := offC_trans o1 (offW_C o2)
  have e12 : ∀ c, 1 ≤ c → c < 12 → M2 c = M c := fun c c0 c1 => (offW_k o2 c c0 c1).trans (e1 c c0 c1)
  have yes : ∀ z, (z = if eO ρ (M 65) c k e = -2 then -1 else if w = 0 then k + (M 65 (20 + 7 * c + 2) + e) else if w = 1 then bi (eO ρ (M 65) c k e ≠ -1) else if eO ρ (M 65) c k e = -1 then 0 else eO ρ (M 65) c k e) → xCI Y_X10_ends none (d + 100) [vR (some 64), vI c, vI k, vI e, vI w] n P M2 (fun M2 z2 => z2 = z ∧ Rel M2) := fun z hz => ref M2 o12 e12 z ⟨fun q => absurd ⟨b1, ⟨b2, b3⟩, b4⟩ q, fun _ => hz⟩
  refine ⟨fun he => ⟨fun w0 => ⟨fun w1 => ⟨fun hq => yes _ ?_, fun hq => yes _ ?_⟩, fun w1 => ⟨fun hq => yes _ ?_, fun hq => yes _ ?_⟩⟩, fun w0 => ⟨by unfold inR; omega, yes _ ?_⟩⟩, fun he => yes _ ?_⟩
  · rw [if_neg he, if_neg w0, if_neg w1, if_neg hq]
  · rw [if_neg he, if_neg w0, if_neg w1, if_pos hq]
  · rw [if_neg he, if_neg w0, if_pos w1, bi_t hq]
  · rw [if_neg he, if_neg w0, if_pos w1, bi_f (fun z => z hq)]
  · rw [if_neg he, if_pos w0]
  · rw [if_pos he]
end Best
