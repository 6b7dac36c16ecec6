/-! the class's Reader: deeds, laws, clauses -/
def lwC (t : Nat) (M : xM) (R : tR) : Prop := ∀ κ, 0 ≤ κ → κ < 8 → (R κ = none → M (t + 3) κ ≤ M (t + 2) κ) ∧ ∀ q, R κ = some q → M (t + 2) κ = q.1 ∧ M (t + 3) κ = q.2
def crC (t : Nat) (M : xM) (i : Nat) (c : tC) : Prop := M (t + 4) (4 * (i : Int)) = c.1 ∧ (c.1 ≠ 7 → c.1 ≠ 10 → 5 ≤ c.1 → M (t + 4) (4 * (i : Int) + 1) = c.2.1) ∧ (c.1 = 5 ∨ c.1 = 9 → M (t + 4) (4 * (i : Int) + 2) = c.2.2.1) ∧ (c.1 = 5 → M (t + 4) (4 * (i : Int) + 3) = c.2.2.2)
def offTx (t : Nat) (M N : xM) : Prop := ∀ c, c ≠ 82 → ¬ (t ≤ c ∧ c ≤ t + 4) → N c = M c
/-- the clause n at hand: nothing told of those before it changes -/
def offD (t n : Nat) (M N : xM) : Prop := (∀ c, c ≠ 82 → c ≠ t → c ≠ t + 1 → c ≠ t + 4 → N c = M c) ∧ (∀ k, k ≠ 1 → k ≠ 6 → N t k = M t k) ∧ ∀ i, i ≤ 4 * (n : Int) → N (t + 4) i = M (t + 4) i
theorem offTx_X {t : Nat} {M N : xM} (h : offX t M N) : offTx t M N := fun c h1 h2 => h.1 c h1 (by omega) (by omega)
theorem offTx_trans {t : Nat} {M N Q : xM} (h : offTx t M N) (h' : offTx t N Q) : offTx t M Q := fun c h1 h2 => (h' c h1 h2).trans (h c h1 h2)
theorem offTx_upd {t c : Nat} {M N : xM} {i v : Int} (h : offTx t M N) (hc : t ≤ c ∧ c ≤ t + 4) : offTx t M (x_upd N c i v) := fun b h1 h2 => by rw [← h b h1 h2]; funext q; exact x_upd_nb (by omega)
theorem offD_Tx {t n : Nat} {M N : xM} (h : offD t n M N) : offTx t M N := fun c h1 h2 => h.1 c h1 (by omega) (by omega) (by omega)
theorem offD_X {t n : Nat} {M N Q : xM} (ht : 43 ≤ t ∧ t ≤ 58) (h : offD t n M N) (h' : offX t N Q) : offD t n M Q := ⟨fun c h1 h2 h3 h4 => (h'.1 c h1 h2 h3).trans (h.1 c h1 h2 h3 h4), fun k h1 h2 => (h'.2 k h1 h2).trans (h.2.1 k h1 h2), fun i hi => by rw [h'.1 (t + 4) (by omega) (by omega) (by omega)]; exact h.2.2 i hi⟩
theorem offD_refl (t n : Nat) (M : xM) : offD t n M M := ⟨fun _ _ _ _ _ => rfl, fun _ _ _ => rfl, fun _ _ => rfl⟩
theorem offD_4 {t n : Nat} {M N : xM} {i v : Int} (h : offD t n M N) (hi : 4 * (n : Int) < i) : offD t n M (x_upd N (t + 4) i v) := ⟨fun c h1 h2 h3 h4 => by rw [← h.1 c h1 h2 h3 h4]; funext q; exact x_upd_nb h4, fun k h1 h2 => by rw [← h.2.1 k h1 h2]; exact x_upd_nb (by omega), fun q hq => by rw [← h.2.2 q hq]; exact x_upd_nj (by omega)⟩
theorem lwC_of {t : Nat} {M N : xM} {R : tR} (h2 : N (t + 2) = M (t + 2)) (h3 : N (t + 3) = M (t + 3)) (h : lwC t M R) : lwC t N R := by
  unfold lwC at *
  rw [h2, h3]
  exact h
section Cclause
variable {g : Option Nat} {d n : Nat} {P : xP} {M M0 : xM} {F : xM → Int → Prop} {t J : Nat} {K V p : Nat → Int} {κ : Int} {R : tR} {l : List (Int × Int)} {j m fu : Nat}
theorem k_told (hn : 83 ≤ n) (hP : x_PP P) (hT : x_Text n P t) (hr0 : P 82 0 = some 37) (hr1 : P 82 1 = some t) (ht : 43 ≤ t ∧ t ≤ 58) (hJ : ∀ j, j ≤ J → (K j = 73 ↔ j = J)) {a lo hi : Int} (ha : 1 ≤ a ∧ a < 4) (hm : m < 24) (h5 : M t 5 = (m : Int) + 1) (o0 : offD t m M0 M) (hc : cl t J K V p κ M j l)
    (H1 : fgS K V lo hi j = 0 → ∀ N, offD t m M0 N → cl t J K V p κ N (j + 1) l → N t 5 = (m : Int) + 1 → N (t + 4) (4 * (m : Int) + a) = V j → (∀ i, i ≠ 4 * (m : Int) + a → N (t + 4) i = M (t + 4) i) → F N 1)
    (H0 : fgS K V lo hi j ≠ 0 → ∀ N, offD t m M0 N → flt t J K V p N (fgS K V lo hi j) j → F N 0) : xCI Y_X4_takeTold g (d + 2) [vR (some 82), vI a, vI lo, vI hi] n P M F := by
  have ei : ((m : Int) + 1 - 1) * 4 + a = 4 * (m : Int) + a := by omega
  refine k_takeTold hn hP hT hr0 hr1 ht hJ (by omega) h5 (by omega) hc (fun k72 hv N oN cN => ?_) (fun k72 hv N v oN fN => ?_) (fun k72 N v oN fN => ?_)
  · rw [ei] at cN ⊢
    have e : fgS K V lo hi j = 0 := by rcases fgS_r (K := K) (V := V) (lo := lo) (hi := hi) (j := j) with q | q | q <;> first | exact q.1 | (exfalso; omega)
    refine H1 e _ (offD_4 (offD_X ht o0 oN) (by omega)) cN ?_ (x_upd_at _ _ _ _) (fun i hi => ?_)
    · rw [x_upd_nb (by omega), oN.2 5 (by decide) (by decide)]; exact h5
    · rw [x_upd_nj hi, oN.1 (t + 4) (by omega) (by omega) (by omega)]
  · rw [ei] at fN ⊢
    have e : fgS K V lo hi j = 2 := by rcases fgS_r (K := K) (V := V) (lo := lo) (hi := hi) (j := j) with q | q | q <;> first | exact q.1 | (exfalso; omega)
    rw [e] at H0
    exact H0 (by decide) _ (offD_4 (offD_X ht o0 oN) (by omega)) fN
  · rw [ei] at fN ⊢
    have e : fgS K V lo hi j = 1 := by rcases fgS_r (K := K) (V := V) (lo := lo) (hi := hi) (j := j) with q | q | q <;> first | exact q.1 | (exfalso; omega)
    rw [e] at H0
    exact H0 (by decide) _ (offD_4 (offD_X ht o0 oN) (by omega)) fN
theorem bdS_deed {w : Int} (h : 5 ≤ w) : bdS K V fu R l w j = (if w = 5 then (if fgS K V 0 5 j ≠ 0 then no (fgS K V 0 5 j) j R l else if K (j + 1) ≠ 16 then no 1 (j + 1) R l else if fgS K V 1 9 (j + 2) ≠ 0 then no (fgS K V 1 9 (j + 2)) (j + 2) R l else if K (j + 3) ≠ 19 then no 1 (j + 3) R l else if fgS K V 1 9 (j + 4) ≠ 0 then no (fgS K V 1 9 (j + 4)) (j + 4) R l else (0, j + 5, R, l, (V j, V (j + 2), V (j + 4))))
  else if w = 6 ∨ w = 8 then (if fgS K V 0 7 j ≠ 0 then no (fgS K V 0 7 j) j R l else (0, j + 1, R, l, (V j, 0, 0)))
  else if w = 7 ∨ w = 10 then (0, j, R, l, (0, 0, 0))
  else if w = 9 then (if fgS K V 0 3 j ≠ 0 then no (fgS K V 0 3 j) j R l else if K (j + 1) ≠ 13 then no 1 (j + 1) R l else if fgS K V 0 9 (j + 2) ≠ 0 then no (fgS K V 0 9 (j + 2)) (j + 2) R l else (0, j + 3, R, l, (V j, V (j + 2), 0)))
  else (if fgS K V 1 60 j ≠ 0 then no (fgS K V 1 60 j) j R l else (0, j + 1, R, l, (V j, 0, 0)))) := by
  unfold bdS
  rw [if_neg (by omega), if_neg (by omega)]
theorem k_deed (hn : 83 ≤ n) (hP : x_PP P) (hT : x_Text n P t) (hr0 : P 82 0 = some 37) (hr1 : P 82 1 = some t) (ht : 43 ≤ t ∧ t ≤ 58) (hJ : ∀ j, j ≤ J → (K j = 73 ↔ j = J)) {w : Int} (hw : 5 ≤ w ∧ w ≤ 11) (hm : m < 24) (h5 : M t 5 = (m : Int) + 1) (h4 : M (t + 4) (4 * (m : Int)) = w) (hc : cl t J K V p κ M j l)
    (H1 : (bdS K V fu R l w j).1 = 0 → ∀ N, offD t m M N → cl t J K V p κ N (bdS K V fu R l w j).2.1 l → N t 5 = (m : Int) + 1 → crC t N m (w, (bdS K V fu R l w j).2.2.2.2) → (bdS K V fu R l w j).2.2.1 = R ∧ (bdS K V fu R l w j).2.2.2.1 = l → F N 1)
    (H0 : (bdS K V fu R l w j).1 ≠ 0 → ∀ N, offD t m M N → flt t J K V p N (bdS K V fu R l w j).1 (bdS K V fu R l w j).2.1 → F N 0) : xCI Y_X4_readDeed g (d + 3) [vR (some 82), vI w] n P M F := by
  generalize hb : bdS K V fu R l w j = b at H1 H0
  rw [bdS_deed hw.1] at hb
  have one : ∀ lo hi : Int, w ≠ 5 → w ≠ 9 → (w ≠ 7 ∧ w ≠ 10) → (if fgS K V lo hi j ≠ 0 then no (fgS K V lo hi j) j R l else (0, j + 1, R, l, (V j, 0, 0))) = b → xCI Y_X4_takeTold g (d + 2) [vR (some 82), vI 1, vI lo, vI hi] n P M (fun M1 z1 => (z1 = 0 ∨ z1 = 1) ∧ F M1 z1) := fun lo hi n5 n9 n7 hb => by
    refine k_told hn hP hT hr0 hr1 ht hJ (by decide) hm h5 (offD_refl t m M) hc (fun e N oN cN e5 ev _ => ⟨Or.inr rfl, ?_⟩) (fun e N oN fN => ⟨Or.inl rfl, ?_⟩)
    · rw [if_neg (fun z => z e)] at hb
      subst hb
      exact H1 rfl N oN cN e5 ⟨by rw [oN.2.2 _ (Int.le_refl _)]; exact h4, fun _ _ _ => ev, fun z => absurd z (by show ¬ (w = 5 ∨ w = 9); omega), fun z => absurd z n5⟩ ⟨rfl, rfl⟩
    · rw [if_pos e] at hb
      subst hb
      exact H0 e N oN fN
  refine b_X4_readDeed hn hP hT hr0 hr1 ⟨fun z => absurd z (by omega), fun w5 => ?_, fun w6 => ?_, fun w7 => ?_, fun w8 => ?_, fun w9 => ?_, fun w10 => ?_, fun w11 => ?_, trivial⟩
  · rw [if_pos w5] at hb
    refine k_told hn hP hT hr0 hr1 ht hJ (by decide) hm h5 (offD_refl t m M) hc (fun e1 N1 o1 c1 f1 v1 s1 => ⟨fun z => absurd z (by decide), fun _ => ?_⟩) (fun e N oN fN => ⟨fun _ => ?_, fun z => absurd rfl z⟩)
    rotate_left
    · rw [if_pos e] at hb; subst hb; exact H0 e N oN fN
    rw [if_neg (fun z => z e1)] at hb
    refine k_take hn hP hT hr0 hr1 ht hJ (by decide) c1 (fun y N2 o2 c2 => ⟨fun z => absurd z (by decide), fun _ => ?_⟩) (fun y N2 o2 f2 => ⟨fun _ => ?_, fun z => absurd rfl z⟩)
    rotate_left
    · rw [if_pos y] at hb; subst hb; exact H0 (by show (1 : Int) ≠ 0; decide) N2 (offD_X ht o1 o2) f2
    rw [if_neg (fun z => z y)] at hb
    have q4 : ∀ i, N2 (t + 4) i = N1 (t + 4) i := fun i => by rw [o2.1 (t + 4) (by omega) (by omega) (by omega)]
    refine k_told hn hP hT hr0 hr1 ht hJ (by decide) hm (by rw [o2.2 5 (by decide) (by decide)]; exact f1) (offD_X ht o1 o2) c2 (fun e3 N3 o3 c3 f3 v3 s3 => ⟨fun z => absurd z (by decide), fun _ => ?_⟩) (fun e N oN fN => ⟨fun _ => ?_, fun z => absurd rfl z⟩)
    rotate_left
    · rw [if_pos e] at hb; subst hb; exact H0 e N oN fN
    rw [if_neg (fun z => z e3)] at hb
    refine k_take hn hP hT hr0 hr1 ht hJ (by decide) c3 (fun y N4 o4 c4 => ⟨fun z => absurd z (by decide), fun _ => ?_⟩) (fun y N4 o4 f4 => ⟨fun _ => ?_, fun z => absurd rfl z⟩)
    rotate_left
    · rw [if_pos y] at hb; subst hb; exact H0 (by show (1 : Int) ≠ 0; decide) N4 (offD_X ht o3 o4) f4
    rw [if_neg (fun z => z y)] at hb
    have q5 : ∀ i, N4 (t + 4) i = N3 (t + 4) i := fun i => by rw [o4.1 (t + 4) (by omega) (by omega) (by omega)]
    refine k_told hn hP hT hr0 hr1 ht hJ (by decide) hm (by rw [o4.2 5 (by decide) (by decide)]; exact f3) (offD_X ht o3 o4) c4 (fun e5 N5 o5 c5 f5 v5 s5 => ⟨fun z => absurd z (by decide), fun _ => ?_⟩) (fun e N oN fN => ⟨fun _ => ?_, fun z => absurd rfl z⟩)
    rotate_left
    · rw [if_pos e] at hb; subst hb; exact H0 e N oN fN
    rw [if_neg (fun z => z e5)] at hb
    subst hb
    refine H1 rfl N5 o5 c5 f5 ⟨by rw [o5.2.2 _ (Int.le_refl _)]; exact h4, fun _ _ _ => ?_, fun _ => ?_, fun _ => v5⟩ ⟨rfl, rfl⟩
    · rw [s5 _ (by omega), q5, s3 _ (by omega), q4]; exact v1
    · rw [s5 _ (by omega), q5]; exact v3
  · rw [if_neg (by omega), if_pos (Or.inl w6)] at hb
    exact one 0 7 (by omega) (by omega) (by omega) hb
  · rw [if_neg (by omega), if_neg (by omega), if_pos (Or.inl w7)] at hb
    subst hb
    exact H1 rfl M (offD_refl t m M) hc h5 ⟨h4, fun z => absurd w7 z, fun z => absurd z (by show ¬ (w = 5 ∨ w = 9); omega), fun z => absurd z (by show ¬ w = 5; omega)⟩ ⟨rfl, rfl⟩
  · rw [if_neg (by omega), if_pos (Or.inr w8)] at hb
    exact one 0 7 (by omega) (by omega) (by omega) hb
  · rw [if_neg (by omega), if_neg (by omega), if_neg (by omega), if_pos w9] at hb
    refine k_told hn hP hT hr0 hr1 ht hJ (by decide) hm h5 (offD_refl t m M) hc (fun e1 N1 o1 c1 f1 v1 s1 => ⟨fun z => absurd z (by decide), fun _ => ?_⟩) (fun e N oN fN => ⟨fun _ => ?_, fun z => absurd rfl z⟩)
    rotate_left
    · rw [if_pos e] at hb; subst hb; exact H0 e N oN fN
    rw [if_neg (fun z => z e1)] at hb
    refine k_take hn hP hT hr0 hr1 ht hJ (by decide) c1 (fun y N2 o2 c2 => ⟨fun z => absurd z (by decide), fun _ => ?_⟩) (fun y N2 o2 f2 => ⟨fun _ => ?_, fun z => absurd rfl z⟩)
    rotate_left
    · rw [if_pos y] at hb; subst hb; exact H0 (by show (1 : Int) ≠ 0; decide) N2 (offD_X ht o1 o2) f2
    rw [if_neg (fun z => z y)] at hb
    have q4 : ∀ i, N2 (t + 4) i = N1 (t + 4) i := fun i => by rw [o2.1 (t + 4) (by omega) (by omega) (by omega)]
    refine k_told hn hP hT hr0 hr1 ht hJ (by decide) hm (by rw [o2.2 5 (by decide) (by decide)]; exact f1) (offD_X ht o1 o2) c2 (fun e3 N3 o3 c3 f3 v3 s3 => ⟨fun z => absurd z (by decide), fun _ => ?_⟩) (fun e N oN fN => ⟨fun _ => ?_, fun z => absurd rfl z⟩)
    rotate_left
    · rw [if_pos e] at hb; subst hb; exact H0 e N oN fN
    rw [if_neg (fun z => z e3)] at hb
    subst hb
    refine H1 rfl N3 o3 c3 f3 ⟨by rw [o3.2.2 _ (Int.le_refl _)]; exact h4, fun _ _ _ => ?_, fun _ => v3, fun z => absurd z (by show ¬ w = 5; omega)⟩ ⟨rfl, rfl⟩
    rw [s3 _ (by omega), q4]; exact v1
  · rw [if_neg (by omega), if_neg (by omega), if_pos (Or.inr w10)] at hb
    subst hb
    exact H1 rfl M (offD_refl t m M) hc h5 ⟨h4, fun _ z => absurd w10 z, fun z => absurd z (by show ¬ (w = 5 ∨ w = 9); omega), fun z => absurd z (by show ¬ w = 5; omega)⟩ ⟨rfl, rfl⟩
  · rw [if_neg (by omega), if_neg (by omega), if_neg (by omega), if_neg (by omega)] at hb
    exact one 1 60 (by omega) (by omega) (by omega) hb
end Cclause
