/-! the reference's machine in its cells -/
def olR (τ : Int) (M : xM) (l : List (Int × Int)) : Prop := ∀ i : Nat, i < l.length → M 67 (705 * τ + 97 + 2 * (i : Int)) = rc (l.getD i (0, 0)).1 ∧ M 67 (705 * τ + 97 + 2 * (i : Int) + 1) = (l.getD i (0, 0)).2
def rp (τ : Int) (M : xM) (p c : List Int) (l : List (Int × Int)) (a w u : Int) : Prop := rep (M 69) (M 64 17) p ∧ M 64 18 = a ∧ rep (M 70) (M 64 19) c ∧ (M 64 20 = w ∧ M 64 22 = u) ∧ (M 64 13 = (l.length : Int) ∧ olR τ M l) ∧ M 64 12 = 705 * τ
def offP (τ : Int) (M M' : xM) : Prop := (∀ c, c ≠ 64 → c ≠ 67 → c ≠ 69 → c ≠ 70 → M' c = M c) ∧ (∀ k, ¬ (7 ≤ k ∧ k ≤ 11) → k ≠ 13 → ¬ (17 ≤ k ∧ k ≤ 20) → k ≠ 22 → M' 64 k = M 64 k) ∧ ∀ i, i < 705 * τ + 97 ∨ 705 * τ + 705 ≤ i → M' 67 i = M 67 i
abbrev sTk (M M' : xM) : Prop := ∀ k : Int, 7 ≤ k → k ≤ 11 → M' 64 k = M 64 k
theorem offP_refl (τ : Int) (M : xM) : offP τ M M := ⟨fun _ _ _ _ _ => rfl, fun _ _ _ _ _ => rfl, fun _ _ => rfl⟩
theorem offP_trans {τ : Int} {M M' M'' : xM} (h : offP τ M M') (h' : offP τ M' M'') : offP τ M M'' := ⟨fun c h1 h2 h3 h4 => (h'.1 c h1 h2 h3 h4).trans (h.1 c h1 h2 h3 h4), fun k h1 h2 h3 h4 => (h'.2.1 k h1 h2 h3 h4).trans (h.2.1 k h1 h2 h3 h4), fun i hi => (h'.2.2 i hi).trans (h.2.2 i hi)⟩
theorem offP_K {τ : Int} {M M' M'' : xM} (h : offP τ M M') (h' : offK M' M'') : offP τ M M'' := offP_trans h ⟨fun c h1 _ _ _ => h'.1 c h1, fun k h1 _ _ _ => h'.2 k h1, fun i _ => by rw [h'.1 67 (by decide)]⟩
theorem offP_c {τ : Int} {M M' : xM} {c : Nat} {i v : Int} (h : offP τ M M') (hc : c = 69 ∨ c = 70) : offP τ M (x_upd M' c i v) := offP_trans h ⟨fun b h1 h2 h3 h4 => by funext q; exact x_upd_nb (by omega), fun k _ _ _ _ => x_upd_nb (by omega), fun q _ => x_upd_nb (by omega)⟩
theorem offP_64 {τ : Int} {M M' : xM} {k v : Int} (h : offP τ M M') (hk : k = 13 ∨ (17 ≤ k ∧ k ≤ 20) ∨ k = 22) : offP τ M (x_upd M' 64 k v) := offP_trans h ⟨fun b h1 h2 h3 h4 => by funext q; exact x_upd_nb h1, fun q _ h2 h3 h4 => x_upd_nj (by omega), fun q _ => x_upd_nb (by decide)⟩
theorem offP_67 {τ : Int} {M M' : xM} {i v : Int} (h : offP τ M M') (hi : 705 * τ + 97 ≤ i ∧ i < 705 * τ + 705) : offP τ M (x_upd M' 67 i v) := offP_trans h ⟨fun b h1 h2 h3 h4 => by funext q; exact x_upd_nb h2, fun q _ h2 h3 h4 => x_upd_nb (by decide), fun q hq => x_upd_nj (by omega)⟩
theorem tpT_P {f : Int → Int} {L τ : Int} {M M' : xM} (h : offP τ M M') (ht : tpT f L M) : tpT f L M' := ⟨by rw [h.2.1 4 (by decide) (by decide) (by decide) (by decide)]; exact ht.1, ht.2.1, fun i i0 i1 => by rw [h.1 68 (by decide) (by decide) (by decide) (by decide)]; exact ht.2.2 i i0 i1⟩
theorem tkR_s {f : Int → Int} {L s : Int} {M M' : xM} (h : sTk M M') (ht : tkR f L M s) : tkR f L M' s := by
  unfold tkR at *
  rw [h 7 (by decide) (by decide), h 8 (by decide) (by decide), h 9 (by decide) (by decide), h 10 (by decide) (by decide), h 11 (by decide) (by decide)]
  exact ht
theorem rp_K {τ : Int} {M M' : xM} {p c : List Int} {l : List (Int × Int)} {a w u : Int} (h : offK M M') (hr : rp τ M p c l a w u) : rp τ M' p c l a w u := by
  unfold rp olR at *
  rw [h.1 69 (by decide), h.1 70 (by decide), h.1 67 (by decide), h.2 17 (by decide), h.2 18 (by decide), h.2 19 (by decide), h.2 20 (by decide), h.2 22 (by decide), h.2 13 (by decide), h.2 12 (by decide)]
  exact hr
section Rp
variable {τ : Int} {M : xM} {p c : List Int} {l : List (Int × Int)} {a w u : Int}
theorem rp_18 (h : rp τ M p c l a w u) (v : Int) : rp τ (x_upd M 64 18 v) p c l v w u := by
  obtain ⟨r1, r2, r3, r4, r5, r7⟩ := h
  refine ⟨?_, x_upd_at _ _ _ _, ?_, ⟨?_, ?_⟩, ⟨?_, fun i hi => ?_⟩, ?_⟩
  · rw [x_upd_nj (by decide)]; exact rep_congr r1 (fun _ _ _ => x_upd_nb (by decide))
  · rw [x_upd_nj (by decide)]; exact rep_congr r3 (fun _ _ _ => x_upd_nb (by decide))
  · rw [x_upd_nj (by decide)]; exact r4.1
  · rw [x_upd_nj (by decide)]; exact r4.2
  · rw [x_upd_nj (by decide)]; exact r5.1
  · rw [x_upd_nb (by decide), x_upd_nb (by decide)]; exact r5.2 i hi
  · rw [x_upd_nj (by decide)]; exact r7
theorem rp_20 (h : rp τ M p c l a w u) (v : Int) : rp τ (x_upd M 64 20 v) p c l a v u := by
  obtain ⟨r1, r2, r3, r4, r5, r7⟩ := h
  refine ⟨?_, ?_, ?_, ⟨x_upd_at _ _ _ _, ?_⟩, ⟨?_, fun i hi => ?_⟩, ?_⟩
  · rw [x_upd_nj (by decide)]; exact rep_congr r1 (fun _ _ _ => x_upd_nb (by decide))
  · rw [x_upd_nj (by decide)]; exact r2
  · rw [x_upd_nj (by decide)]; exact rep_congr r3 (fun _ _ _ => x_upd_nb (by decide))
  · rw [x_upd_nj (by decide)]; exact r4.2
  · rw [x_upd_nj (by decide)]; exact r5.1
  · rw [x_upd_nb (by decide), x_upd_nb (by decide)]; exact r5.2 i hi
  · rw [x_upd_nj (by decide)]; exact r7
theorem rp_22 (h : rp τ M p c l a w u) (v : Int) : rp τ (x_upd M 64 22 v) p c l a w v := by
  obtain ⟨r1, r2, r3, r4, r5, r7⟩ := h
  refine ⟨?_, ?_, ?_, ⟨?_, x_upd_at _ _ _ _⟩, ⟨?_, fun i hi => ?_⟩, ?_⟩
  · rw [x_upd_nj (by decide)]; exact rep_congr r1 (fun _ _ _ => x_upd_nb (by decide))
  · rw [x_upd_nj (by decide)]; exact r2
  · rw [x_upd_nj (by decide)]; exact rep_congr r3 (fun _ _ _ => x_upd_nb (by decide))
  · rw [x_upd_nj (by decide)]; exact r4.1
  · rw [x_upd_nj (by decide)]; exact r5.1
  · rw [x_upd_nb (by decide), x_upd_nb (by decide)]; exact r5.2 i hi
  · rw [x_upd_nj (by decide)]; exact r7
theorem rp_17 (h : rp τ M p c l a w u) {v : Int} {p' : List Int} (hp : rep (M 69) v p') : rp τ (x_upd M 64 17 v) p' c l a w u := by
  obtain ⟨r1, r2, r3, r4, r5, r7⟩ := h
  refine ⟨?_, ?_, ?_, ⟨?_, ?_⟩, ⟨?_, fun i hi => ?_⟩, ?_⟩
  · rw [x_upd_at]; exact rep_congr hp (fun _ _ _ => x_upd_nb (by decide))
  · rw [x_upd_nj (by decide)]; exact r2
  · rw [x_upd_nj (by decide)]; exact rep_congr r3 (fun _ _ _ => x_upd_nb (by decide))
  · rw [x_upd_nj (by decide)]; exact r4.1
  · rw [x_upd_nj (by decide)]; exact r4.2
  · rw [x_upd_nj (by decide)]; exact r5.1
  · rw [x_upd_nb (by decide), x_upd_nb (by decide)]; exact r5.2 i hi
  · rw [x_upd_nj (by decide)]; exact r7
theorem rp_19 (h : rp τ M p c l a w u) {v : Int} {c' : List Int} (hp : rep (M 70) v c') : rp τ (x_upd M 64 19 v) p c' l a w u := by
  obtain ⟨r1, r2, r3, r4, r5, r7⟩ := h
  refine ⟨?_, ?_, ?_, ⟨?_, ?_⟩, ⟨?_, fun i hi => ?_⟩, ?_⟩
  · rw [x_upd_nj (by decide)]; exact rep_congr r1 (fun _ _ _ => x_upd_nb (by decide))
  · rw [x_upd_nj (by decide)]; exact r2
  · rw [x_upd_at]; exact rep_congr hp (fun _ _ _ => x_upd_nb (by decide))
  · rw [x_upd_nj (by decide)]; exact r4.1
  · rw [x_upd_nj (by decide)]; exact r4.2
  · rw [x_upd_nj (by decide)]; exact r5.1
  · rw [x_upd_nb (by decide), x_upd_nb (by decide)]; exact r5.2 i hi
  · rw [x_upd_nj (by decide)]; exact r7
/-- the pile's cells set anew -/
theorem rp_69 (h : rp τ M p c l a w u) {i v : Int} {p' : List Int} (hp : rep (x_upd M 69 i v 69) (M 64 17) p') : rp τ (x_upd M 69 i v) p' c l a w u := by
  obtain ⟨r1, r2, r3, r4, r5, r7⟩ := h
  refine ⟨?_, ?_, ?_, ⟨?_, ?_⟩, ⟨?_, fun q hq => ?_⟩, ?_⟩
  · rw [x_upd_nb (b := 64) (by decide)]; exact hp
  · rw [x_upd_nb (by decide)]; exact r2
  · rw [x_upd_nb (b := 64) (by decide)]; exact rep_congr r3 (fun _ _ _ => x_upd_nb (by decide))
  · rw [x_upd_nb (by decide)]; exact r4.1
  · rw [x_upd_nb (by decide)]; exact r4.2
  · rw [x_upd_nb (by decide)]; exact r5.1
  · rw [x_upd_nb (by decide), x_upd_nb (by decide)]; exact r5.2 q hq
  · rw [x_upd_nb (by decide)]; exact r7
theorem rp_70 (h : rp τ M p c l a w u) {i v : Int} {c' : List Int} (hp : rep (x_upd M 70 i v 70) (M 64 19) c') : rp τ (x_upd M 70 i v) p c' l a w u := by
  obtain ⟨r1, r2, r3, r4, r5, r7⟩ := h
  refine ⟨?_, ?_, ?_, ⟨?_, ?_⟩, ⟨?_, fun q hq => ?_⟩, ?_⟩
  · rw [x_upd_nb (b := 64) (by decide)]; exact rep_congr r1 (fun _ _ _ => x_upd_nb (by decide))
  · rw [x_upd_nb (by decide)]; exact r2
  · rw [x_upd_nb (b := 64) (by decide)]; exact hp
  · rw [x_upd_nb (by decide)]; exact r4.1
  · rw [x_upd_nb (by decide)]; exact r4.2
  · rw [x_upd_nb (by decide)]; exact r5.1
  · rw [x_upd_nb (by decide), x_upd_nb (by decide)]; exact r5.2 q hq
  · rw [x_upd_nb (by decide)]; exact r7
theorem rep_up {i v : Int} {b : Nat} {q : List Int} {k : Int} (h : rep (M b) k q) (hi : k ≤ i) : rep (x_upd M b i v b) k q := rep_congr h (fun j _ h2 => x_upd_nj (by omega))
theorem rp_push (h : rp τ M p c l a w u) (o : Int) : rp τ (x_upd (x_upd M 69 (M 64 17) o) 64 17 (M 64 17 + 1)) (o :: p) c l a w u := by
  refine rp_17 (rp_69 h (rep_up h.1 (Int.le_refl _))) ⟨?_, ?_⟩
  · rw [show M 64 17 + 1 - 1 = M 64 17 by omega, x_upd_at]
  · rw [show M 64 17 + 1 - 1 = M 64 17 by omega]
    exact rep_up h.1 (Int.le_refl _)
theorem rp_top {o : Int} (h : rp τ M (o :: p) c l a w u) (v : Int) : rp τ (x_upd M 69 (M 64 17 - 1) v) (v :: p) c l a w u :=
  rp_69 h ⟨x_upd_at _ _ _ _, rep_up h.1.2 (Int.le_refl _)⟩
theorem rp_cpush (h : rp τ M p c l a w u) (o : Int) : rp τ (x_upd (x_upd M 70 (M 64 19) o) 64 19 (M 64 19 + 1)) p (o :: c) l a w u := by
  refine rp_19 (rp_70 h (rep_up h.2.2.1 (Int.le_refl _))) ⟨?_, ?_⟩
  · rw [show M 64 19 + 1 - 1 = M 64 19 by omega, x_upd_at]
  · rw [show M 64 19 + 1 - 1 = M 64 19 by omega]
    exact rep_up h.2.2.1 (Int.le_refl _)
theorem rp_ctop {o : Int} (h : rp τ M p (o :: c) l a w u) (v : Int) : rp τ (x_upd M 70 (M 64 19 - 1) v) p (v :: c) l a w u :=
  rp_70 h ⟨x_upd_at _ _ _ _, rep_up h.2.2.1.2 (Int.le_refl _)⟩
end Rp
section Rmach
variable {g : Option Nat} {d n : Nat} {P : xP} {M : xM} {F : xM → Int → Prop} {G : xM → Prop} {τ : Int}
theorem c_rank (hn : 82 ≤ n) {o : Int} (ho : 0 ≤ o ∧ o < 100) (H : F M (rkO o)) : xCI Y_X10_rank g d [vI o] n P M F := by
  unfold rkO at H
  refine b_X10_rank hn ⟨fun h1 => ⟨fun h2 => ⟨fun h3 => ⟨fun h4 => ⟨fun h5 => ?_, fun h5 => ?_⟩, fun h4 => ?_⟩, fun h3 => ?_⟩, fun h2 => ⟨by unfold inR; omega, by unfold inR; omega, ?_⟩⟩, fun h1 => ?_⟩
  · rwa [if_neg (by omega), if_neg (by omega), if_neg (by omega), if_neg h4, if_neg (by omega)] at H
  · rwa [if_neg (by omega), if_neg (by omega), if_neg (by omega), if_neg h4, if_pos (by omega)] at H
  · rwa [if_neg (by omega), if_neg (by omega), if_neg (by omega), if_pos h4] at H
  · rwa [if_neg (by omega), if_neg (by omega), if_pos (by omega)] at H
  · rw [if_neg (by omega), if_pos (by omega)] at H
    rw [show 4 - (o - 20) = 24 - o by omega]
    exact H
  · rwa [if_pos (by omega)] at H
theorem h_emit (hn : 82 ≤ n) (hP : x_PP P) (hτ : 0 ≤ τ ∧ τ ≤ 3) {p c : List Int} {l : List (Int × Int)} {a w u o e v : Int} (hr : rp τ M p c l a w u) (hl : l.length < 304) (he : rc e = o) (H : ∀ M', offP τ M M' → sTk M M' → rp τ M' p c (l ++ [(e, v)]) a w u → M' 69 = M 69 → M' 64 17 = M 64 17 → G M') : xCV Y_X10_emit g d [vR (some 64), vI o, vI v] n P M G := by
  obtain ⟨r1, r2, r3, r4, ⟨r5, r6⟩, r7⟩ := hr
  refine b_X10_emit hn hP ⟨by unfold inR; omega, by unfold inR; omega, by unfold inR; omega, by omega, by unfold inR; omega, by unfold inR; omega, by unfold inR; omega, by unfold inR; omega, by omega, by unfold inR; omega, ?_⟩
  rw [r5, r7]
  have len : (l ++ [(e, v)]).length = l.length + 1 := by rw [List.length_append]; rfl
  have e69 : ∀ q, (x_upd (x_upd (x_upd M 67 (705 * τ + 97 + 2 * (l.length : Int)) o) 67 (705 * τ + 97 + 2 * (l.length : Int) + 1) v) 64 13 ((l.length : Int) + 1)) 69 q = M 69 q := fun q => by rw [x_upd_nb (by decide), x_upd_nb (by decide), x_upd_nb (by decide)]
  have e64 : ∀ k, k ≠ 13 → (x_upd (x_upd (x_upd M 67 (705 * τ + 97 + 2 * (l.length : Int)) o) 67 (705 * τ + 97 + 2 * (l.length : Int) + 1) v) 64 13 ((l.length : Int) + 1)) 64 k = M 64 k := fun k hk => by rw [x_upd_nj hk, x_upd_nb (by decide), x_upd_nb (by decide)]
  refine H _ (offP_64 (offP_67 (offP_67 (offP_refl τ M) (by omega)) (by omega)) (Or.inl rfl)) (fun k k7 k11 => e64 k (by omega)) ⟨?_, ?_, ?_, ⟨?_, ?_⟩, ⟨?_, ?_⟩, ?_⟩ (funext e69) (e64 17 (by decide))
  · rw [e64 17 (by decide)]
    exact rep_congr r1 (fun q _ _ => e69 q)
  · rw [e64 18 (by decide)]; exact r2
  · rw [e64 19 (by decide)]
    exact rep_congr r3 (fun q _ _ => by rw [x_upd_nb (by decide), x_upd_nb (by decide), x_upd_nb (by decide)])
  · rw [e64 20 (by decide)]; exact r4.1
  · rw [e64 22 (by decide)]; exact r4.2
  · rw [x_upd_at, len]; omega
  · intro i hi
    rw [len] at hi
    have e67 : ∀ q, (x_upd (x_upd (x_upd M 67 (705 * τ + 97 + 2 * (l.length : Int)) o) 67 (705 * τ + 97 + 2 * (l.length : Int) + 1) v) 64 13 ((l.length : Int) + 1)) 67 q = x_upd (x_upd M 67 (705 * τ + 97 + 2 * (l.length : Int)) o) 67 (705 * τ + 97 + 2 * (l.length : Int) + 1) v 67 q := fun q => x_upd_nb (by decide)
    rw [e67, e67]
    by_cases q : i = l.length
    · subst q
      rw [x_upd_at _ 67 (705 * τ + 97 + 2 * (l.length : Int) + 1) v, x_upd_nj (by omega), x_upd_at, List.getD_eq_getElem?_getD, List.getElem?_append_right (Nat.le_refl _), Nat.sub_self]
      exact ⟨he.symm, rfl⟩
    · rw [x_upd_nj (by omega), x_upd_nj (by omega), x_upd_nj (by omega), x_upd_nj (by omega), List.getD_eq_getElem?_getD, List.getElem?_append_left (by omega), ← List.getD_eq_getElem?_getD]
      exact r6 i (by omega)
  · rw [e64 12 (by decide)]; exact r7
abbrev okO (o : Int) : Prop := (4 ≤ o ∧ o ≤ 8) ∨ (10 ≤ o ∧ o ≤ 16) ∨ (20 ≤ o ∧ o ≤ 23) ∨ o = 40 ∨ o = 41
theorem rc_en {o : Int} (h : okO o) (h16 : o ≠ 16) (h40 : o < 40) : rc (enO o) = o := by
  have : o = 4 ∨ o = 5 ∨ o = 6 ∨ o = 7 ∨ o = 8 ∨ o = 10 ∨ o = 11 ∨ o = 12 ∨ o = 13 ∨ o = 14 ∨ o = 15 ∨ o = 20 ∨ o = 21 ∨ o = 22 ∨ o = 23 := by omega
  rcases this with e | e | e | e | e | e | e | e | e | e | e | e | e | e | e <;> (subst e; decide)
/-- orders that wait, each to be written in its time -/
def pw : List Int → Nat
  | [] => 0
  | o :: r => (if o = 16 ∨ o = 40 then 0 else 1) + pw r
theorem pw_cons (o : Int) (r : List Int) : pw r ≤ pw (o :: r) ∧ pw (o :: r) ≤ pw r + 1 := by
  show pw r ≤ (if o = 16 ∨ o = 40 then 0 else 1) + pw r ∧ (if o = 16 ∨ o = 40 then 0 else 1) + pw r ≤ pw r + 1
  split <;> omega
theorem pw_1 {o : Int} {r : List Int} (h : o ≠ 16) (h2 : o ≠ 40) : pw (o :: r) = pw r + 1 := by
  show (if o = 16 ∨ o = 40 then 0 else 1) + pw r = pw r + 1
  rw [if_neg (by omega)]; omega
theorem ops_len : ∀ r : List Int, ops r ≤ r.length
  | [] => Nat.le_refl _
  | q :: t => by
    have := ops_len t
    show (if isOp q then 1 else 0) + ops t ≤ t.length + 1
    split <;> omega
theorem h_settle0 (hn : 82 ≤ n) (hP : x_PP P) (hτ : 0 ≤ τ ∧ τ ≤ 3) {c : List Int} {w u m : Int} (hm : 1 ≤ m) : ∀ (p : List Int) (l : List (Int × Int)) (N : xM), offP τ M N → sTk M N → rp τ N p c l (ops p : Int) w u → p.length ≤ 160 → (∀ o ∈ p, okO o) → l.length + pw p ≤ 303 → (∀ M', offP τ M M' → sTk M M' → rp τ M' (stl m p l).1 c (stl m p l).2 (ops (stl m p l).1 : Int) w u → G M') → xW Y_X10_settle g (d + 1) 0 0 0 [(0, vR (some 64)), (1, vI m)] [] (0, 0) (n, P, N) (kV n P G) := by
  intro p
  induction p with
  | nil =>
    intro l N oN tN hr hl ho hw H
    have e17 : N 64 17 = 0 := hr.1
    exact b_X10_settle_0 hn hP ⟨fun _ => H N oN tN hr, fun z => absurd (by omega) z⟩
  | cons o r ih =>
    intro l N oN tN hr hl ho hw H
    obtain ⟨r1, r1'⟩ := hr.1
    have len := rep_len r1'
    have lo : (o :: r).length = r.length + 1 := rfl
    have oo := ho o List.mem_cons_self
    have op8 := ops_len r
    have h1 : rp τ (x_upd N 64 17 (N 64 17 - 1)) r c l (ops (o :: r) : Int) w u := rp_17 hr r1'
    have o1 : offP τ M (x_upd N 64 17 (N 64 17 - 1)) := offP_64 oN (by omega)
    have t1 : sTk M (x_upd N 64 17 (N 64 17 - 1)) := fun k k7 k11 => by rw [x_upd_nj (by omega)]; exact tN k k7 k11
    -- behind the writing
    have rest : o < 40 → ∀ l' N', offP τ M N' → sTk M N' → rp τ N' r c l' (ops (o :: r) : Int) w u → N' 64 17 = N 64 17 - 1 → N' 69 (N 64 17 - 1) = o → l'.length + pw r ≤ 303 → (∀ M', offP τ M M' → sTk M M' → rp τ M' (stl m r l').1 c (stl m r l').2 (ops (stl m r l').1 : Int) w u → G M') → xW Y_X10_settle g (d + 1) 0 0 63 [(0, vR (some 64)), (1, vI m)] [] (0, 0) (n, P, N') (kV n P G) := by
      intro h40 l' N' o' t' h' e17 e69 hw' H'
      have dec : isOp o → xW Y_X10_settle g (d + 1) 0 0 90 [(0, vR (some 64)), (1, vI m)] [] (0, 0) (n, P, N') (kV n P G) := fun hop => by
        have e18 : N' 64 18 - 1 = (ops r : Int) := by rw [h'.2.1, ops_yes hop]; omega
        refine b_X10_settle_90 hn hP ⟨by unfold inR; omega, ?_⟩
        rw [e18]
        exact ih l' _ (offP_64 o' (by omega)) (fun k k7 k11 => by rw [x_upd_nj (by omega)]; exact t' k k7 k11) (rp_18 h' _) (by omega) (fun q hq => ho q (List.mem_cons_of_mem _ hq)) hw' H'
      refine b_X10_settle_63 hn hP ?_
      rw [e17, e69]
      refine ⟨by omega, fun z4 => dec (Or.inl z4), fun n4 => ⟨by omega, fun n20 => ?_, fun z20 => dec (Or.inr (Or.inl z20))⟩⟩
      refine ih l' N' o' t' ?_ (by omega) (fun q hq => ho q (List.mem_cons_of_mem _ hq)) hw' H'
      rw [ops_no (by omega)] at h'
      exact h'
    refine b_X10_settle_0 hn hP ⟨fun z => absurd z (by omega), fun _ => ⟨by unfold inR; omega, by omega, c_rank hn (by rw [r1]; omega) ⟨fun z => ?_, fun z => ⟨by unfold inR; omega, by omega, fun y16 => ?_, fun n16 => ⟨by omega, ?_⟩⟩⟩⟩⟩
    · rw [r1] at z
      rw [stl_no (by omega)] at H
      exact H N oN tN hr
    · rw [r1] at z y16
      subst y16
      rw [stl_go (by omega), if_pos rfl] at H
      exact rest (by decide) l _ o1 t1 h1 (x_upd_at _ _ _ _) (by rw [x_upd_nb (by decide)]; exact r1) (by have := (pw_cons 16 r).1; omega) H
    · rw [r1] at z n16
      rw [stl_go (by omega), if_neg n16] at H
      have o40 : o < 40 := by
        have e1 : rkO 40 = 0 := by decide
        have e2 : rkO 41 = 0 := by decide
        have q : o ≠ 40 := fun e => by rw [e] at z; omega
        have q' : o ≠ 41 := fun e => by rw [e] at z; omega
        omega
      have pw1 : pw (o :: r) = pw r + 1 := pw_1 n16 (by omega)
      rw [r1]
      refine h_emit hn hP hτ h1 (by omega) (rc_en oo n16 o40) (fun M' o' t' h' e69 e17 => rest o40 _ M' (offP_trans o1 o') (fun k k7 k11 => (t' k k7 k11).trans (t1 k k7 k11)) h' (by rw [e17, x_upd_at]) (by rw [e69, x_upd_nb (by decide)]; exact r1) ?_ H)
      rw [List.length_append]
      show l.length + 1 + pw r ≤ 303
      omega
theorem h_settle (hn : 82 ≤ n) (hP : x_PP P) (hτ : 0 ≤ τ ∧ τ ≤ 3) {c p : List Int} {l : List (Int × Int)} {w u m : Int} (hm : 1 ≤ m) (hr : rp τ M p c l (ops p : Int) w u) (hl : p.length ≤ 160) (ho : ∀ o ∈ p, okO o) (hw : l.length + pw p ≤ 303) (H : ∀ M', offP τ M M' → sTk M M' → rp τ M' (stl m p l).1 c (stl m p l).2 (ops (stl m p l).1 : Int) w u → G M') : xCV Y_X10_settle g (d + 1) [vR (some 64), vI m] n P M G :=
  b_X10_settle hn hP (h_settle0 hn hP hτ hm p l M (offP_refl τ M) (fun _ _ _ => rfl) hr hl ho hw H)
/-- what is open -/
theorem h_openNow (hn : 82 ≤ n) (hP : x_PP P) {p : List Int} (hp : rep (M 69) (M 64 17) p) (hl : p.length ≤ 160) (H : F M (opn p)) : xCI Y_X10_openNow g d [vR (some 64)] n P M F := by
  have loop : ∀ (p : List Int) (k : Int), rep (M 69) k p → p.length ≤ 160 → F M (opn p) → xW Y_X10_openNow g d 0 0 7 [(0, vR (some 64)), (1, vI (k - 1))] [] (0, 0) (n, P, M) (kI n P F) := by
    intro p
    induction p with
    | nil =>
      intro k hk _ H
      have k0 : k = 0 := hk
      subst k0
      exact b_X10_openNow_7 hn hP ⟨fun _ => b_X10_openNow_28 hn hP ⟨fun z => absurd z (by decide), fun _ => H⟩, fun z => absurd (by decide) z⟩
    | cons o r ih =>
      intro k hk hl H
      have len := rep_len hk.2
      have lo : (o :: r).length = r.length + 1 := rfl
      have e : opn (o :: r) = if 40 ≤ o then o else opn r := rfl
      rw [e] at H
      refine b_X10_openNow_7 hn hP ⟨fun z => absurd z (by omega), fun _ => ⟨by omega, fun z => ?_, fun z => ⟨by unfold inR; omega, ?_⟩⟩⟩
      · rw [hk.1] at z
        rw [if_pos z] at H
        refine b_X10_openNow_28 hn hP ⟨fun _ => ⟨by omega, ?_⟩, fun y => absurd (by omega) y⟩
        rw [hk.1]
        exact H
      · rw [hk.1] at z
        rw [if_neg z] at H
        exact ih (k - 1) hk.2 (by omega) H
  have len := rep_len hp
  exact b_X10_openNow hn hP ⟨by unfold inR; omega, loop p _ hp hl H⟩
theorem h_isCompared (hn : 82 ≤ n) (hP : x_PP P) {p : List Int} (hp : rep (M 69) (M 64 17) p) (hl : p.length ≤ 160) (ho : ∀ o ∈ p, okO o) (H1 : cmd p = true → F M 1) (H0 : cmd p = false → F M 0) : xCI Y_X10_isCompared g (d + 1) [vR (some 64)] n P M F := by
  have loop : ∀ (p : List Int) (k : Int), rep (M 69) k p → p.length ≤ 160 → (∀ o ∈ p, okO o) → (cmd p = true → F M 1) → (cmd p = false → F M 0) → xW Y_X10_isCompared g (d + 1) 0 0 7 [(0, vR (some 64)), (1, vI (k - 1))] [] (0, 0) (n, P, M) (kI n P F) := by
    intro p
    induction p with
    | nil =>
      intro k hk _ _ _ H0
      have k0 : k = 0 := hk
      subst k0
      exact b_X10_isCompared_7 hn hP ⟨fun _ => b_X10_isCompared_30 hn hP ⟨fun _ => H0 rfl, fun z => absurd (by decide) z⟩, fun z => absurd (by decide) z⟩
    | cons o r ih =>
      intro k hk hl ho H1 H0
      have len := rep_len hk.2
      have lo : (o :: r).length = r.length + 1 := rfl
      have oo := ho o List.mem_cons_self
      have e : cmd (o :: r) = if 5 < rkO o then cmd r else decide (rkO o = 5) := rfl
      rw [e] at H1 H0
      refine b_X10_isCompared_7 hn hP ⟨fun z => absurd z (by omega), fun _ => ⟨by omega, c_rank hn (by rw [hk.1]; omega) ⟨fun z => ?_, fun z => ⟨by unfold inR; omega, ?_⟩⟩⟩⟩
      · rw [hk.1] at z
        rw [if_neg (by omega)] at H1 H0
        refine b_X10_isCompared_30 hn hP ⟨fun y => absurd y (by omega), fun _ => ⟨by omega, c_rank hn (by rw [hk.1]; omega) ⟨fun y => H0 (decide_eq_false (by rw [hk.1] at y; exact y)), fun y => H1 (decide_eq_true (by rw [hk.1] at y; exact y))⟩⟩⟩
      · rw [hk.1] at z
        rw [if_pos (by omega)] at H1 H0
        exact ih (k - 1) hk.2 (by omega) (fun q hq => ho q (List.mem_cons_of_mem _ hq)) H1 H0
  have len := rep_len hp
  exact b_X10_isCompared hn hP ⟨by unfold inR; omega, loop p _ hp hl ho H1 H0⟩
end Rmach
