/-! the reference's clauses -/
theorem bX_shl {k : Int} (hk : 0 ≤ k ∧ k < 8) {i : Nat} (hi : i < 8) : bX (x_shl 1 k) i = decide (k.toNat = i) := by
  have key : ∀ (a b : Fin 8), bX (x_shl 1 ((a.val : Nat) : Int)) b.val = decide (a.val = b.val) := by decide +kernel
  have := key ⟨k.toNat, by omega⟩ ⟨i, hi⟩
  have e : ((k.toNat : Nat) : Int) = k := by omega
  rw [← e]
  exact this
def crR (τ : Int) (M : xM) (i : Nat) (c : tC) : Prop := M 67 (705 * τ + 1 + 4 * (i : Int)) = sortK c.1 ∧ (c.1 ≤ 4 → M 67 (705 * τ + 1 + 4 * (i : Int) + 1) = c.2.1 ∧ M 67 (705 * τ + 1 + 4 * (i : Int) + 2) = c.2.2.1 ∧ (c.1 = 0 → M 67 (705 * τ + 1 + 4 * (i : Int) + 3) = c.2.2.2)) ∧ (c.1 ≠ 7 → c.1 ≠ 10 → 5 ≤ c.1 → M 67 (705 * τ + 1 + 4 * (i : Int) + 1) = c.2.1) ∧ (c.1 = 5 ∨ c.1 = 9 → M 67 (705 * τ + 1 + 4 * (i : Int) + 2) = c.2.2.1) ∧ (c.1 = 5 → M 67 (705 * τ + 1 + 4 * (i : Int) + 3) = c.2.2.2)
/-- what a body leaves alone: x is its clause's place -/
def offB (τ x : Int) (M M' : xM) : Prop := (∀ c, c ≠ 64 → c ≠ 67 → c ≠ 69 → c ≠ 70 → M' c = M c) ∧ (∀ k, ¬ (7 ≤ k ∧ k ≤ 11) → k ≠ 13 → ¬ (17 ≤ k ∧ k ≤ 23) → M' 64 k = M 64 k) ∧ ∀ i, i ≤ x ∨ (x + 4 ≤ i ∧ i < 705 * τ + 97) ∨ 705 * τ + 705 ≤ i → M' 67 i = M 67 i
theorem offB_refl (τ x : Int) (M : xM) : offB τ x M M := ⟨fun _ _ _ _ _ => rfl, fun _ _ _ _ => rfl, fun _ _ => rfl⟩
theorem offB_trans {τ x : Int} {M M' M'' : xM} (h : offB τ x M M') (h' : offB τ x M' M'') : offB τ x M M'' := ⟨fun c h1 h2 h3 h4 => (h'.1 c h1 h2 h3 h4).trans (h.1 c h1 h2 h3 h4), fun k h1 h2 h3 => (h'.2.1 k h1 h2 h3).trans (h.2.1 k h1 h2 h3), fun i hi => (h'.2.2 i hi).trans (h.2.2 i hi)⟩
theorem offB_K {τ x : Int} {M M' M'' : xM} (h : offB τ x M M') (h' : offK M' M'') : offB τ x M M'' := offB_trans h ⟨fun c h1 _ _ _ => h'.1 c h1, fun k h1 _ _ => h'.2 k h1, fun i _ => by rw [h'.1 67 (by decide)]⟩
theorem offB_67 {τ x : Int} {M M' : xM} {i v : Int} (h : offB τ x M M') (hi : x < i ∧ i < x + 4) (hx : x + 4 ≤ 705 * τ + 97) : offB τ x M (x_upd M' 67 i v) := offB_trans h ⟨fun b h1 h2 h3 h4 => by funext q; exact x_upd_nb h2, fun q _ _ _ => x_upd_nb (by decide), fun q hq => x_upd_nj (by omega)⟩
theorem offB_64 {τ x : Int} {M M' : xM} {k v : Int} (h : offB τ x M M') (hk : 21 ≤ k ∧ k ≤ 23) : offB τ x M (x_upd M' 64 k v) := offB_trans h ⟨fun b h1 h2 h3 h4 => by funext q; exact x_upd_nb h1, fun q _ _ h3 => x_upd_nj (by omega), fun q hq => x_upd_nb (by decide)⟩
theorem offB_P {τ x : Int} {M M' M'' : xM} (h : offB τ x M M') (h' : offP τ M' M'') (hx : x + 4 ≤ 705 * τ + 97) : offB τ x M M'' := offB_trans h ⟨h'.1, fun k h1 h2 h3 => h'.2.1 k h1 h2 (by omega) (by omega), fun i hi => h'.2.2 i (by omega)⟩
theorem tpT_B {f : Int → Int} {L τ x : Int} {M M' : xM} (h : offB τ x M M') (ht : tpT f L M) : tpT f L M' := ⟨by rw [h.2.1 4 (by decide) (by decide) (by decide)]; exact ht.1, ht.2.1, fun i i0 i1 => by rw [h.1 68 (by decide) (by decide) (by decide) (by decide)]; exact ht.2.2 i i0 i1⟩
theorem olR_of {τ : Int} {M M' : xM} {l : List (Int × Int)} (h : ∀ i, 705 * τ + 97 ≤ i → M' 67 i = M 67 i) (ho : olR τ M l) : olR τ M' l := fun i hi => by
  rw [h _ (by omega), h _ (by omega)]
  exact ho i hi
section Rclause
variable {g : Option Nat} {d n : Nat} {P : xP} {M M0 : xM} {F : xM → Int → Prop} {f : Int → Int} {L τ x : Int} {J j fu : Nat} {R : tR} {l : List (Int × Int)} {C : List tC}
/-- a number of a clause -/
theorem h_figure (hn : 82 ≤ n) (hP : x_PP P) (ht : tpT f L M) (hk : tkR f L M (ps f L j)) {a lo hi : Int} (ha : 0 ≤ a ∧ a < 2820) (hh : hi ≤ 9999)
    (H0 : fgS (Kf f L) (Vf f L) lo hi j = 0 → ∀ M', offK (x_upd M 67 a (Vf f L j)) M' → tkR f L M' (ps f L (j + 1)) → F M' 0)
    (H1 : fgS (Kf f L) (Vf f L) lo hi j ≠ 0 → F M (fgS (Kf f L) (Vf f L) lo hi j)) : xCI Y_X10_figure g (d + 2) [vR (some 64), vI a, vI lo, vI hi] n P M F := by
  have pr := ps_r (f := f) ht.2.1.1 j
  obtain ⟨t0, t72, t4, t5, tc⟩ := tk_kind hk
  rcases fgS_r (K := Kf f L) (V := Vf f L) (lo := lo) (hi := hi) (j := j) with q | q | q
  · rw [q.1] at H0
    have nm := tk_num pr.2 hk q.2.1
    unfold numR at nm
    have q3 : lo ≤ vl f L (ps f L j) := q.2.2.1
    have q4 : vl f L (ps f L j) ≤ hi := q.2.2.2
    have ev : M 64 10 = Vf f L j := by show M 64 10 = vl f L (ps f L j); omega
    refine b_X10_figure hn hP ⟨fun _ => b_X10_isIn hn ⟨fun z => absurd z (by omega), fun _ => ⟨fun z => absurd z (by omega), fun _ => ⟨fun _ => ⟨ha, ?_⟩, fun z => absurd z (by decide)⟩⟩⟩, fun z => absurd (t72.mpr q.2.1) z⟩
    rw [ev]
    have tp : tpT f L (x_upd M 67 a (Vf f L j)) := ⟨by rw [x_upd_nb (by decide)]; exact ht.1, ht.2.1, fun i i0 i1 => by rw [x_upd_nb (by decide)]; exact ht.2.2 i i0 i1⟩
    exact h_next hn hP tp (tkR_s (fun k _ _ => x_upd_nb (by decide)) hk) (fun M' o' t' => H0 rfl M' o' t')
  · rw [q.1] at H1
    have nm := tk_num pr.2 hk q.2.1
    unfold numR at nm
    have q3 : ¬ (lo ≤ vl f L (ps f L j) ∧ vl f L (ps f L j) ≤ hi) := q.2.2
    exact b_X10_figure hn hP ⟨fun _ => b_X10_isIn hn ⟨fun _ => ⟨fun z => absurd rfl z, fun _ => H1 (by decide)⟩, fun z1 => ⟨fun _ => ⟨fun z => absurd rfl z, fun _ => H1 (by decide)⟩, fun z2 => absurd q3 (by omega)⟩⟩, fun z => absurd (t72.mpr q.2.1) z⟩
  · rw [q.1] at H1
    exact b_X10_figure hn hP ⟨fun z => absurd (t72.mp z) q.2, fun _ => H1 (by decide)⟩
/-- the state inside a body: the clause stands at x -/
def mB (f : Int → Int) (L τ x : Int) (J : Nat) (M0 M : xM) (l : List (Int × Int)) (j : Nat) : Prop := offB τ x M0 M ∧ tkR f L M (ps f L j) ∧ (M 64 13 = (l.length : Int) ∧ olR τ M l)
def eB (f : Int → Int) (L τ κ s0 : Int) (J : Nat) (M0 : xM) : Prop := tpT f L M0 ∧ M0 64 14 = s0 ∧ tkJ f L J ∧ (0 ≤ τ ∧ τ ≤ 3) ∧ M0 64 12 = 705 * τ
theorem h_law (hn : 82 ≤ n) (hP : x_PP P) {κ tr : Int} (E : eB f L τ κ (if κ < 4 then 4 else κ - 4) J M0) (S : mB f L τ x J M0 M l j) (hx : 705 * τ < x ∧ x + 4 ≤ 705 * τ + 97) (hκ : 0 ≤ κ ∧ κ < 8) (hj : j ≤ J) (hl : l.length ≤ j) (htr : tr = 0 ∨ tr = 1) (hf : 16 * J + 6 ≤ fu)
    (H0 : (lwB (Kf f L) (Vf f L) fu R l κ tr j).1 = 0 → ∀ M', mB f L τ x J M0 M' (lwB (Kf f L) (Vf f L) fu R l κ tr j).2.2.2.1 (lwB (Kf f L) (Vf f L) fu R l κ tr j).2.1 → M' 67 (x + 1) = (lwB (Kf f L) (Vf f L) fu R l κ tr j).2.2.2.2.1 → M' 67 (x + 2) = (lwB (Kf f L) (Vf f L) fu R l κ tr j).2.2.2.2.2.1 → M' 67 (x + 3) = M 67 (x + 3) → M' 64 23 = M 64 23 → F M' 0)
    (H1 : (lwB (Kf f L) (Vf f L) fu R l κ tr j).1 ≠ 0 → ∀ M', offB τ x M0 M' → tkR f L M' (ps f L (lwB (Kf f L) (Vf f L) fu R l κ tr j).2.1) → F M' (lwB (Kf f L) (Vf f L) fu R l κ tr j).1) : xCI Y_X10_lawClause g (d + 9) [vR (some 64), vI x, vI tr] n P M F := by
  obtain ⟨E1, E2, E3, E4, E5⟩ := E
  obtain ⟨S1, S2, S3, S4⟩ := S
  have ok := lw_ok (V := Vf f L) (κ := κ) (s0 := tr) (K_73 E3) hj hf
  generalize hb : lwB (Kf f L) (Vf f L) fu R l κ tr j = b at H0 H1
  unfold lwB at hb
  have o1 : offB τ x M0 (x_upd M 67 (x + 1) (M 64 13)) := offB_67 S1 (by omega) hx.2
  have e67 : ∀ i, i ≠ x + 1 → x_upd M 67 (x + 1) (M 64 13) 67 i = M 67 i := fun i hi => x_upd_nj hi
  refine b_X10_lawClause (d := d + 1) hn hP ⟨by unfold inR; omega, by omega, ?_⟩
  refine h_parsed (fu := fu) (l := l) (j := j) (τ := τ) (κ := κ) hn hP (tpT_B o1 E1) (tkR_s (fun k _ _ => x_upd_nb (by decide)) S2) ?_ hκ E3 E4 ?_ ?_ ?_ hj hl htr ok.1 (fun e M' o' t' e13 ol => ⟨by unfold inR; omega, by omega, ?_⟩) (fun e M' o' t' => ⟨by unfold inR; omega, by omega, ?_⟩)
  · rw [o1.2.1 14 (by decide) (by decide) (by decide)]; exact E2
  · rw [o1.2.1 12 (by decide) (by decide) (by decide)]; exact E5
  · rw [x_upd_nb (by decide)]; exact S3
  · exact olR_of (fun i hi => e67 i (by omega)) S4
  · rw [if_pos e] at hb
    subst hb
    have o2 : offB τ x M0 M' := offB_P (offB_64 o1 (by omega)) o' hx.2
    have q67 : ∀ i, i < 705 * τ + 97 → i ≠ x + 1 → M' 67 i = M 67 i := fun i h1 h2 => by rw [o'.2.2 i (Or.inl h1), x_upd_nb (by decide)]; exact e67 i h2
    refine H0 rfl _ ⟨offB_67 o2 (by omega) hx.2, tkR_s (fun k _ _ => x_upd_nb (by decide)) t', by rw [x_upd_nb (by decide)]; exact e13, olR_of (fun i hi => x_upd_nj (by omega)) ol⟩ ?_ ?_ ?_ ?_
    · rw [x_upd_nj (by omega), o'.2.2 _ (by omega), x_upd_nb (by decide), x_upd_at]; exact S3
    · rw [x_upd_at]; exact e13
    · rw [x_upd_nj (by omega)]; exact q67 _ (by omega) (by omega)
    · rw [x_upd_nb (by decide), o'.2.1 23 (by decide) (by decide) (by decide) (by decide), x_upd_nj (by decide), x_upd_nb (by decide)]
  · rw [if_neg e] at hb
    subst hb
    exact H1 e _ (offB_67 (offB_P (offB_64 o1 (by omega)) o' hx.2) (by omega) hx.2) (tkR_s (fun k _ _ => x_upd_nb (by decide)) t')
end Rclause
