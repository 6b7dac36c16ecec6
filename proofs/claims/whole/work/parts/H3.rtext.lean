/-! the reference's clause and readText -/
def offQ (τ : Int) (M M' : xM) : Prop := (∀ c, c ≠ 64 → c ≠ 67 → c ≠ 69 → c ≠ 70 → M' c = M c) ∧ (∀ k, ¬ (7 ≤ k ∧ k ≤ 14) → ¬ (17 ≤ k ∧ k ≤ 24) → M' 64 k = M 64 k) ∧ ∀ i, i < 705 * τ ∨ 705 * τ + 705 ≤ i → M' 67 i = M 67 i
theorem offQ_refl (τ : Int) (M : xM) : offQ τ M M := ⟨fun _ _ _ _ _ => rfl, fun _ _ _ => rfl, fun _ _ => rfl⟩
theorem offQ_trans {τ : Int} {M M' M'' : xM} (h : offQ τ M M') (h' : offQ τ M' M'') : offQ τ M M'' := ⟨fun c h1 h2 h3 h4 => (h'.1 c h1 h2 h3 h4).trans (h.1 c h1 h2 h3 h4), fun k h1 h2 => (h'.2.1 k h1 h2).trans (h.2.1 k h1 h2), fun i hi => (h'.2.2 i hi).trans (h.2.2 i hi)⟩
theorem offQ_K {τ : Int} {M M' M'' : xM} (h : offQ τ M M') (h' : offK M' M'') : offQ τ M M'' := offQ_trans h ⟨fun c h1 _ _ _ => h'.1 c h1, fun k h1 _ => h'.2 k (by omega), fun i _ => by rw [h'.1 67 (by decide)]⟩
theorem offQ_67 {τ : Int} {M M' : xM} {i v : Int} (h : offQ τ M M') (hi : 705 * τ ≤ i ∧ i < 705 * τ + 705) : offQ τ M (x_upd M' 67 i v) := offQ_trans h ⟨fun b h1 h2 h3 h4 => by funext q; exact x_upd_nb h2, fun q _ _ => x_upd_nb (by decide), fun q hq => x_upd_nj (by omega)⟩
theorem offQ_64 {τ : Int} {M M' : xM} {k v : Int} (h : offQ τ M M') (hk : (7 ≤ k ∧ k ≤ 14) ∨ (17 ≤ k ∧ k ≤ 24)) : offQ τ M (x_upd M' 64 k v) := offQ_trans h ⟨fun b h1 h2 h3 h4 => by funext q; exact x_upd_nb h1, fun q _ _ => x_upd_nj (by omega), fun q hq => x_upd_nb (by decide)⟩
theorem offQ_B {τ x : Int} {M M' M'' : xM} (h : offQ τ M M') (h' : offB τ x M' M'') (hx : 705 * τ ≤ x ∧ x + 4 ≤ 705 * τ + 97) : offQ τ M M'' := offQ_trans h ⟨h'.1, fun k h1 h2 => h'.2.1 k (by omega) (by omega) (by omega), fun i hi => h'.2.2 i (by omega)⟩
theorem tpT_Q {f : Int → Int} {L τ : Int} {M M' : xM} (h : offQ τ M M') (ht : tpT f L M) : tpT f L M' := ⟨by rw [h.2.1 4 (by decide) (by decide)]; exact ht.1, ht.2.1, fun i i0 i1 => by rw [h.1 68 (by decide) (by decide) (by decide) (by decide)]; exact ht.2.2 i i0 i1⟩
def b24 (M : xM) (R : tR) : Prop := ∀ q, 0 ≤ q → q < 4 → (bX (M 64 24) q.toNat = true ↔ R (q + 4) ≠ none)
def rB (f : Int → Int) (L τ : Int) (M0 M : xM) (R : tR) (l : List (Int × Int)) (C : List tC) (j : Nat) : Prop := offQ τ M0 M ∧ tkR f L M (ps f L j) ∧ M 64 12 = 705 * τ ∧ (M 64 13 = (l.length : Int) ∧ olR τ M l) ∧ M 67 (705 * τ) = (C.length : Int) ∧ (∀ i : Nat, i < C.length → crR τ M i (C.getD i (0, 0, 0, 0))) ∧ b23 M R ∧ b24 M R
theorem sortK_r (k : Int) : (sortK k = -1 ∧ ¬ (0 ≤ k ∧ k ≤ 11)) ∨ (sortK k = 4 ∧ k = 0) ∨ (sortK k = k - 1 ∧ 1 ≤ k ∧ k ≤ 4) ∨ (sortK k = k ∧ 5 ≤ k ∧ k ≤ 11) := by
  unfold sortK
  split
  · omega
  split
  · omega
  split <;> omega
section Rtext
variable {g : Option Nat} {d n : Nat} {P : xP} {M M0 : xM} {F : xM → Int → Prop} {f : Int → Int} {L τ : Int} {J j fu : Nat} {R : tR} {l : List (Int × Int)} {C : List tC}
theorem h_clause (hn : 82 ≤ n) (hP : x_PP P) (ht : tpT f L M0) (hτ : 0 ≤ τ ∧ τ ≤ 3) (hJ : tkJ f L J) (hf : 16 * J + 6 ≤ fu) (S : rB f L τ M0 M R l C j) (hC : inC R l C j) (hj : j ≤ J)
    (H0 : (czS (Kf f L) (Vf f L) fu R l C j).1 = 0 → ∀ M', rB f L τ M0 M' (czS (Kf f L) (Vf f L) fu R l C j).2.2.1 (czS (Kf f L) (Vf f L) fu R l C j).2.2.2.1 (czS (Kf f L) (Vf f L) fu R l C j).2.2.2.2 (czS (Kf f L) (Vf f L) fu R l C j).2.1 → F M' 0)
    (H1 : (czS (Kf f L) (Vf f L) fu R l C j).1 ≠ 0 → ∀ M', offQ τ M0 M' → tkR f L M' (ps f L (czS (Kf f L) (Vf f L) fu R l C j).2.1) → F M' (czS (Kf f L) (Vf f L) fu R l C j).1) : xCI Y_X10_clause g (d + 12) [vR (some 64)] n P M F := by
  obtain ⟨S1, S2, S3, ⟨S4, S5⟩, S6, S7, S8, S9⟩ := S
  have pr := fun i => ps_r (f := f) ht.2.1.1 i
  have V0 : ∀ i, 0 ≤ Vf f L i ∧ Vf f L i ≤ 10000 := fun i => V_r _ (pr i).2
  have KJ := K_73 hJ
  have tp := tpT_Q S1 ht
  have J300 := hJ.2.2
  have c24 := hC.2.1
  generalize hz : czS (Kf f L) (Vf f L) fu R l C j = z at H0 H1
  unfold czS at hz
  have sr := sortK_r (Kf f L j)
  -- the clause begins
  have at65 : ∀ N, offQ τ M0 N → tkR f L N (ps f L j) → N 64 12 = 705 * τ → N 64 13 = (l.length : Int) → N 67 = M 67 → b23 N R → (0 ≤ Kf f L j ∧ Kf f L j ≤ 11) → ¬ ((1 ≤ Kf f L j ∧ Kf f L j ≤ 4) ∧ R (Kf f L j + 3) ≠ none) → ¬ 24 ≤ C.length → (∀ q, 0 ≤ q → q < 4 → (bX (N 64 24) q.toNat = true ↔ (R (q + 4) ≠ none ∨ q + 1 = Kf f L j))) → xW Y_X10_clause g (d + 12) 0 0 65 [(0, vR (some 64)), (1, vI (sortK (Kf f L j))), (2, vI (C.length : Int))] [] (0, 0) (n, P, N) (kI n P F) := fun N N1 N2 N3 N4 N67 N23 hk hno hlt N24 => by
    rw [if_neg (fun w => w hk), if_neg hno, if_neg hlt] at hz
    have lt1 : j + 1 ≤ J := by
      have : j ≠ J := fun e => by have := (KJ j hj).mpr e; omega
      omega
    have o1 : offQ τ M0 (x_upd N 64 14 (sortK (Kf f L j))) := offQ_64 N1 (by omega)
    refine b_X10_clause_65 (d := d + 1) hn hP (h_next hn hP (tpT_Q o1 ht) (tkR_s (fun k _ _ => x_upd_nj (by omega)) N2) (fun M8 k8 t8 => ?_))
    have e12 : M8 64 12 = 705 * τ := by rw [k8.2 12 (by decide), x_upd_nj (by decide)]; exact N3
    have e13 : M8 64 13 = (l.length : Int) := by rw [k8.2 13 (by decide), x_upd_nj (by decide)]; exact N4
    have e14 : M8 64 14 = sortK (Kf f L j) := by rw [k8.2 14 (by decide), x_upd_at]
    have e23 : M8 64 23 = N 64 23 := by rw [k8.2 23 (by decide), x_upd_nj (by decide)]
    have e24 : M8 64 24 = N 64 24 := by rw [k8.2 24 (by decide), x_upd_nj (by decide)]
    have e67 : ∀ i, M8 67 i = M 67 i := fun i => by rw [k8.1 67 (by decide), x_upd_nb (by decide), N67]
    have o8 : offQ τ M0 M8 := offQ_K o1 k8
    rw [e12]
    refine ⟨by unfold inR; omega, by unfold inR; omega, by unfold inR; omega, by omega, ?_⟩
    have hx : 705 * τ < 705 * τ + 1 + 4 * (C.length : Int) ∧ 705 * τ + 1 + 4 * (C.length : Int) + 4 ≤ 705 * τ + 97 := by omega
    have ob : offQ τ M0 (x_upd M8 67 (705 * τ + 1 + 4 * (C.length : Int)) (sortK (Kf f L j))) := offQ_67 o8 (by omega)
    generalize hMb : x_upd M8 67 (705 * τ + 1 + 4 * (C.length : Int)) (sortK (Kf f L j)) = Mb at ob
    have m64 : ∀ k, Mb 64 k = M8 64 k := fun k => by rw [← hMb]; exact x_upd_nb (by decide)
    have mx : Mb 67 (705 * τ + 1 + 4 * (C.length : Int)) = sortK (Kf f L j) := by rw [← hMb]; exact x_upd_at _ _ _ _
    have mo : ∀ i, i ≠ 705 * τ + 1 + 4 * (C.length : Int) → Mb 67 i = M 67 i := fun i hi => by rw [← hMb, x_upd_nj hi]; exact e67 i
    have bo := bd_ok (l := l) (R := R) KJ V0 hf (w := Kf f L j) (by omega) (fun q => by
      cases e : R (Kf f L j + 3) with
      | none => rfl
      | some y => exact absurd ⟨q, by rw [e]; exact fun z => by cases z⟩ hno) lt1
    refine h_body (fu := fu) (R := R) (κ0 := 0) (w := Kf f L j) (M0 := Mb) hn hP ⟨tpT_Q ob ht, by rw [m64]; exact e14, hJ, hτ, by rw [m64]; exact e12⟩ ⟨offB_refl _ _ _, tkR_s (fun k _ _ => m64 k) t8, by rw [m64]; exact e13, olR_of (fun i hi => mo i (by omega)) S5⟩ hx hk (fun q => by
      cases e : R (Kf f L j + 3) with
      | none => rfl
      | some y => exact absurd ⟨q, by rw [e]; exact fun z => by cases z⟩ hno) lt1 (by have := hC.1; omega) hf (by unfold b23; rw [m64, e23]; exact N23) (fun b0 M9 s9 cl9 q23 => ⟨fun _ => ?_, fun w => absurd rfl w⟩) (fun b1 M9 o9 t9 => ⟨fun w => absurd w b1, fun _ => ?_⟩)
    rotate_left
    · rw [if_pos b1] at hz
      subst hz
      exact H1 b1 M9 (offQ_B ob o9 (by omega)) t9
    rw [if_neg (fun w => w b0)] at hz
    obtain ⟨s9a, s9b, s9c, s9d⟩ := s9
    have f12 : M9 64 12 = 705 * τ := by rw [s9a.2.1 12 (by decide) (by decide) (by decide), m64]; exact e12
    have f67 : M9 67 (705 * τ) = (C.length : Int) := by rw [s9a.2.2 _ (by omega), mo _ (by omega)]; exact S6
    rw [f12, f67]
    have o9 : offQ τ M0 (x_upd M9 67 (705 * τ) ((C.length : Int) + 1)) := offQ_67 (offQ_B ob s9a (by omega)) (by omega)
    obtain ⟨_, _, _, _, tc⟩ := tk_kind s9b
    refine ⟨by omega, by unfold inR; omega, by omega, fun y59 => ?_, fun n59 => ?_⟩
    rotate_left
    · have k59 : Kf f L (bdS (Kf f L) (Vf f L) fu R l (Kf f L j) (j + 1)).2.1 ≠ 59 := fun w => n59 ((tc 59 (by decide)).mpr w)
      rw [if_pos k59] at hz
      subst hz
      exact H1 (by show (1 : Int) ≠ 0; decide) _ o9 (tkR_s (fun k _ _ => x_upd_nb (by decide)) s9b)
    have k59 : Kf f L (bdS (Kf f L) (Vf f L) fu R l (Kf f L j) (j + 1)).2.1 = 59 := (tc 59 (by decide)).mp y59
    rw [if_neg (fun w => w k59)] at hz
    subst hz
    refine h_next hn hP (tpT_Q o9 ht) (tkR_s (fun k _ _ => x_upd_nb (by decide)) s9b) (fun M10 k10 t10 => H0 rfl M10 ?_)
    have r67 : ∀ i, i ≠ 705 * τ → M10 67 i = M9 67 i := fun i hi => by rw [k10.1 67 (by decide), x_upd_nj hi]
    have r64 : ∀ k, ¬ (7 ≤ k ∧ k ≤ 11) → M10 64 k = M9 64 k := fun k hk => by rw [k10.2 k hk, x_upd_nb (by decide)]
    have lenC : ∀ c : tC, (C ++ [c]).length = C.length + 1 := fun c => by rw [List.length_append]; rfl
    refine ⟨offQ_K o9 k10, t10, by rw [r64 12 (by decide)]; exact f12, ⟨by rw [r64 13 (by decide)]; exact s9c, olR_of (fun i hi => r67 i (by omega)) s9d⟩, ?_, fun i hi => ?_, ?_, ?_⟩
    · rw [k10.1 67 (by decide), x_upd_at]
      show (C.length : Int) + 1 = ((C ++ [_]).length : Int)
      rw [lenC]; omega
    · have hi' : i < C.length + 1 := by rw [← lenC]; exact hi
      show crR τ M10 i ((C ++ [(Kf f L j, (bdS (Kf f L) (Vf f L) fu R l (Kf f L j) (j + 1)).2.2.2.2)]).getD i (0, 0, 0, 0))
      by_cases q : i = C.length
      · subst q
        rw [getD_app2 (Nat.le_refl _), Nat.sub_self]
        obtain ⟨p1, p2, p3, p4⟩ := cl9
        refine ⟨?_, fun w => ?_, fun a b c => ?_, fun w => ?_, fun w => ?_⟩
        · rw [r67 _ (by omega), s9a.2.2 _ (by omega)]; exact mx
        · obtain ⟨a1, a2, a3⟩ := p1 w
          exact ⟨by rw [r67 _ (by omega)]; exact a1, by rw [r67 _ (by omega)]; exact a2, fun y => by rw [r67 _ (by omega)]; exact a3 y⟩
        · rw [r67 _ (by omega)]; exact p2 a b c
        · rw [r67 _ (by omega)]; exact p3 w
        · rw [r67 _ (by omega)]; exact p4 w
      · rw [getD_app1 (by omega)]
        have same : ∀ k : Int, 0 ≤ k → k < 4 → M10 67 (705 * τ + 1 + 4 * (i : Int) + k) = M 67 (705 * τ + 1 + 4 * (i : Int) + k) := fun k k0 k4 => by rw [r67 _ (by omega), s9a.2.2 _ (by omega), mo _ (by omega)]
        have h := S7 i (by omega)
        have s0 := same 0 (by decide) (by decide)
        rw [Int.add_zero] at s0
        unfold crR at h ⊢
        rw [s0, same 1 (by decide) (by decide), same 2 (by decide) (by decide), same 3 (by decide) (by decide)]
        exact h
    · unfold b23
      rw [r64 23 (by decide)]
      exact q23
    · intro q q0 q4
      rw [r64 24 (by decide), s9a.2.1 24 (by decide) (by decide) (by decide), m64, e24, N24 q q0 q4]
      show _ ↔ (bdS (Kf f L) (Vf f L) fu R l (Kf f L j) (j + 1)).2.2.1 (q + 4) ≠ none
      rcases (bo.2.2 b0).2 with ⟨w5, e1, _⟩ | ⟨w4, κ, cs, hκ, _, w0, w1, e1, _⟩
      · rw [e1]; exact ⟨fun w => by rcases w with w | w; exact w; omega, fun w => Or.inl w⟩
      · rw [e1]
        by_cases y : q + 4 = κ
        · have u1 : updR R κ ((l.length : Int), ((l ++ cs).length : Int)) (q + 4) = some _ := if_pos y
          rw [u1]
          exact ⟨fun _ w => (by cases w), fun _ => Or.inr (by have := w1 (fun w => by have := w0 w; omega); omega)⟩
        · have u1 : updR R κ ((l.length : Int), ((l ++ cs).length : Int)) (q + 4) = R (q + 4) := if_neg y
          rw [u1]
          exact ⟨fun w => by rcases w with w | w; exact w; (exfalso; have := w1 (by omega); omega), fun w => Or.inl w⟩
  have at29 : (0 ≤ Kf f L j ∧ Kf f L j ≤ 11) → ¬ ((1 ≤ Kf f L j ∧ Kf f L j ≤ 4) ∧ R (Kf f L j + 3) ≠ none) → xW Y_X10_clause g (d + 12) 0 0 29 [(0, vR (some 64)), (1, vI (sortK (Kf f L j)))] [] (0, 0) (n, P, M) (kI n P F) := fun hk hno => by
    refine b_X10_clause_29 (d := d + 1) hn hP ?_
    rw [S3, S6]
    refine ⟨by omega, fun n24 => ⟨fun h3 => at65 M S1 S2 S3 S4 rfl S8 hk hno (by omega) (fun q q0 q4 => ?_), fun h3 => at65 _ (offQ_64 S1 (by omega)) (tkR_s (fun k _ _ => x_upd_nj (by omega)) S2) (by rw [x_upd_nj (by decide)]; exact S3) (by rw [x_upd_nj (by decide)]; exact S4) (by funext q; exact x_upd_nb (by decide)) (by unfold b23; rw [x_upd_nj (by decide)]; exact S8) hk hno (by omega) (fun q q0 q4 => ?_)⟩, fun y24 => ?_⟩
    · rw [S9 q q0 q4]
      exact ⟨fun w => Or.inl w, fun w => by rcases w with w | w; exact w; omega⟩
    · rw [x_upd_at, bX_or, bX_shl (by omega) (by omega)]
      have := S9 q q0 q4
      rw [Bool.or_eq_true, this, decide_eq_true_iff]
      exact ⟨fun w => by rcases w with w | w; exact Or.inl w; exact Or.inr (by omega), fun w => by rcases w with w | w; exact Or.inl w; exact Or.inr (by omega)⟩
    · rw [if_neg (fun w => w hk), if_neg hno, if_pos (by omega)] at hz
      subst hz
      exact H1 (by show (6 : Int) ≠ 0; decide) M S1 S2
  refine b_X10_clause (d := d + 1) hn hP (q_sortOf (d := d + 5) hn hP (pr j) tp S2 ⟨fun h0 => ⟨fun h3 => at29 ?_ ?_, fun h3 => c_X10_has hn ?_⟩, fun h0 => ?_⟩)
  · have : 0 ≤ sortK (Kf f L j) := h0
    omega
  · have : 3 < sortK (Kf f L j) := h3
    omega
  · have a0 : 0 ≤ sortK (Kf f L j) := h0
    have a3 : ¬ 3 < sortK (Kf f L j) := h3
    have hk : sortK (Kf f L j) = Kf f L j - 1 ∧ 1 ≤ Kf f L j ∧ Kf f L j ≤ 4 := by omega
    show ((x_and (x_shr (M 64 24) (sortK (Kf f L j))) 1 = 0 → _) ∧ (¬ x_and (x_shr (M 64 24) (sortK (Kf f L j))) 1 = 0 → _))
    rw [bX_bit (by omega)]
    have hb := S9 (sortK (Kf f L j)) (by omega) (by omega)
    have e4 : sortK (Kf f L j) + 4 = Kf f L j + 3 := by omega
    rw [e4] at hb
    by_cases hB : bX (M 64 24) (sortK (Kf f L j)).toNat = true
    · rw [if_pos hB]
      refine ⟨fun w => absurd w (by decide), fun _ => ?_⟩
      rw [if_neg (fun w => w (by omega)), if_pos ⟨hk.2, hb.mp hB⟩] at hz
      subst hz
      exact H1 (by show (4 : Int) ≠ 0; decide) M S1 S2
    · rw [if_neg hB]
      exact ⟨fun _ => at29 (by omega) (fun w => hB (hb.mpr w.2)), fun w => absurd rfl w⟩
  · have a0 : ¬ 0 ≤ sortK (Kf f L j) := h0
    rw [if_pos (by omega)] at hz
    subst hz
    exact H1 (by show (1 : Int) ≠ 0; decide) M S1 S2
end Rtext
