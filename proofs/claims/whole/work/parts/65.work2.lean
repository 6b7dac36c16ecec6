def S2 (M : xM) (f h : Int → Int) : xM := setA (setA M 72 f) 73 h
theorem S2_72 (M : xM) (f h : Int → Int) : S2 M f h 72 = f := by
  unfold S2
  rw [setA_ne (by decide), setA_at]
theorem S2_73 (M : xM) (f h : Int → Int) : S2 M f h 73 = h := setA_at _ _ _
theorem S2_ne {M : xM} {f h : Int → Int} {c : Nat} (h1 : c ≠ 72) (h2 : c ≠ 73) : S2 M f h c = M c := by
  unfold S2
  rw [setA_ne h2, setA_ne h1]
theorem S2_u72 (M : xM) (f h : Int → Int) (i v : Int) : x_upd (S2 M f h) 72 i v = S2 M (fun j => if j = i then v else f j) h := by
  funext c j
  unfold S2 setA x_upd
  dsimp only
  by_cases h73 : c = 73
  · rw [if_neg (by omega), if_pos h73, if_pos h73]
  · rw [if_neg h73, if_neg h73]
    by_cases h72 : c = 72
    · rw [if_pos h72, if_pos h72]
      by_cases hj : j = i
      · rw [if_pos ⟨h72, hj⟩, if_pos hj]
      · rw [if_neg (fun z => hj z.2), if_neg hj]
    · rw [if_neg (fun z => h72 z.1), if_neg h72, if_neg h72]
theorem S2_u73 (M : xM) (f h : Int → Int) (i v : Int) : x_upd (S2 M f h) 73 i v = S2 M f (fun j => if j = i then v else h j) := x_upd_setA _ _ _ _ _
section Work2
variable {g : Option Nat} {d n : Nat} {P : xP} {M : xM} {F : xM → Int → Prop} {G : xM → Prop}
set_option maxHeartbeats 4000000 in
theorem work_loop (hn : 82 ≤ n) (hP : x_PP P) {t c lo hi : Int} (ht : 0 ≤ t ∧ t < 4) (hc : 0 ≤ c ∧ c < 24) (hst : M 67 (705 * t + 1 + 4 * c + 2) = hi) {pr : Int → Int × Int} (hlo : 0 ≤ lo) (hhi : hi ≤ 300) (hpr : ∀ j, lo ≤ j → j < hi → okA (pr j).1 (pr j).2 (M 71)) (hrf : rfP M t pr lo hi) {b : Bool} :
    ∀ (k : Nat) (i : Int) (s : List Int) (τ : List Bool) (f h : Int → Int), lo ≤ i → i + k = hi → tyr pr k i τ = some [b] → okS s τ → rep f ((ints s τ).length : Int) (ints s τ) → rep h ((trs s τ).length : Int) (trs s τ) → (s.length : Int) ≤ i - lo → (∀ f' h' z, ev1 pr (M 71) (M 64 26) k i s = [z] → (b = false → f' 0 = z) → (b = true → h' 0 = z) → G (S2 M f' h')) →
      xW Y_X10_work g (d + 2) 0 0 38 [(0, vR (some 64)), (3, vI (705 * t + 1 + 4 * c)), (4, vI (705 * t + 97)), (5, vI ((ints s τ).length : Int)), (6, vI ((trs s τ).length : Int)), (7, vI i)] [] (0, 0) (n, P, S2 M f h) (kV n P G) := by
  intro k
  induction k with
  | zero =>
    intro i s τ f h h1 h2 h3 h4 h5 h5' h6 H
    have e3 : S2 M f h 67 (705 * t + 1 + 4 * c + 2) = hi := by rw [S2_ne (by decide) (by decide)]; exact hst
    refine b_X10_work_38 hn hP ⟨by omega, by omega, fun _ => ?_, fun h => absurd (by rw [e3]; omega) h⟩
    cases h3
    have hl := okS_len h4
    match s, hl with
    | [z], _ =>
      refine H f h z rfl (fun hb => ?_) (fun hb => ?_)
      · subst hb; exact h5.1
      · subst hb; exact h5'.1
  | succ k ih =>
    intro i s τ f h h1 h2 h3 h4 h5 h5' h6 H
    have hl1 := ints_len s τ
    have hl2 := trs_len s τ
    have e3 : S2 M f h 67 (705 * t + 1 + 4 * c + 2) = hi := by rw [S2_ne (by decide) (by decide)]; exact hst
    have hA := hpr i h1 (by omega)
    obtain ⟨ro, rv⟩ := hrf i h1 (by omega)
    have e1 : S2 M f h 67 (705 * t + 97 + 2 * i) = rc (pr i).1 := by rw [S2_ne (by decide) (by decide)]; exact ro
    have e2 : S2 M f h 67 (705 * t + 97 + 2 * i + 1) = (pr i).2 := by rw [S2_ne (by decide) (by decide)]; exact rv
    have e71 : S2 M f h 71 = M 71 := S2_ne (by decide) (by decide)
    have e64 : S2 M f h 64 = M 64 := S2_ne (by decide) (by decide)
    unfold tyr at h3
    cases hty : ty1 (pr i).1 (pr i).2 τ with
    | none => rw [hty] at h3; cases h3
    | some τ' =>
    rw [hty] at h3
    have h3 : tyr pr k (i + 1) τ' = some [b] := h3
    have hok := okS_step (fs := M 64 26) h4 hA hty
    have H' : ∀ f' h' z, ev1 pr (M 71) (M 64 26) k (i + 1) (st1 (pr i).1 (pr i).2 (M 71) (M 64 26) s) = [z] → (b = false → f' 0 = z) → (b = true → h' 0 = z) → G (S2 M f' h') := fun f' h' z hz => H f' h' z hz
    generalize hpo : (pr i).1 = o at *
    generalize hpv : (pr i).2 = v at *
    generalize hs1 : st1 o v (M 71) (M 64 26) s = s1 at hok H'
    have go : ∀ (f' h' : Int → Int) (p q : Int), p = ((ints s1 τ').length : Int) → q = ((trs s1 τ').length : Int) → rep f' p (ints s1 τ') → rep h' q (trs s1 τ') → (s1.length : Int) ≤ i + 1 - lo → xW Y_X10_work g (d + 2) 0 0 365 [(0, vR (some 64)), (3, vI (705 * t + 1 + 4 * c)), (4, vI (705 * t + 97)), (5, vI p), (6, vI q), (7, vI i)] [] (0, 0) (n, P, S2 M f' h') (kV n P G) := by
      intro f' h' p q hp hq r1 r2 hlen
      subst hp; subst hq
      exact b_X10_work_365 hn hP ⟨by omega, ih (i + 1) s1 τ' f' h' (by omega) (by omega) h3 hok r1 r2 hlen H'⟩
    have hrest : ∀ X, (((1 < rc o → X) ∧ True) → True) := fun _ _ => trivial
    refine b_X10_work_38 hn hP ⟨by omega, by omega, fun h => absurd h (by rw [e3]; omega), fun _ => ⟨by omega, by omega, by omega, by omega, by omega, by omega, by omega, ?_⟩⟩
    rw [e1, e2]
    rcases ty_inv hty with ⟨rfl, rfl⟩ | ⟨rfl, rfl⟩ | ⟨rfl, rfl⟩ | ⟨rfl, hcc, rfl⟩ | ⟨rfl, ρ, rfl, rfl⟩ | ⟨rfl, ρ, rfl, rfl⟩ | ⟨hq, ρ, rfl, rfl⟩ | ⟨hq, ρ, rfl, rfl⟩ | ⟨hq, ρ, rfl, rfl⟩
    · rw [show rc 72 = 0 from rfl]
      refine ⟨fun h => absurd h (by decide), fun _ => ⟨fun h => absurd rfl h, fun _ => b_X10_work_112 hn hP ⟨by omega, by omega, ?_⟩⟩⟩
      rw [S2_u72]
      subst hs1
      exact go _ _ _ _ rfl rfl (rep_push h5) h5' (by show ((v :: s).length : Int) ≤ _; rw [List.length_cons]; omega)
    · rw [show rc 75 = 1 from rfl]
      have hv8 := hA.2.1 rfl
      refine ⟨fun h => absurd h (by decide), fun _ => ⟨fun _ => ⟨hv8.1, b_X10_work_112 hn hP ⟨by omega, by omega, ?_⟩⟩, fun h => absurd h (by decide)⟩⟩
      rw [S2_u72, e71]
      subst hs1
      exact go _ _ _ _ rfl rfl (rep_push h5) h5' (by show ((M 71 v :: s).length : Int) ≤ _; rw [List.length_cons]; omega)
    · rw [show rc 24 = 2 from rfl]
      refine ⟨fun _ => ⟨fun h => absurd h (by decide), fun _ => ⟨fun _ => b_X10_work_139 hn hP ⟨by omega, fun h => absurd rfl h, fun _ => c_X10_has hn (b_X10_work_174 hn hP ⟨by omega, x_and_1 _, by omega, ?_⟩)⟩, fun h => absurd h (by decide)⟩⟩, fun h => absurd (by decide) h⟩
      rw [S2_u73, e64, Int.sub_zero]
      subst hs1
      exact go _ _ _ _ rfl rfl h5 (rep_push h5') (by show ((x_and (x_shr (M 64 26) v) 1 :: s).length : Int) ≤ _; rw [List.length_cons]; omega)
    · rw [show rc 25 = 3 from rfl]
      obtain ⟨t1, t2⟩ := okS_top v.toNat h4 hcc.2
      obtain ⟨u1, u2, u3, u4⟩ := trs_top v.toNat h4 hcc.2
      have hd2 := rep_drop v.toNat h5' u4
      have hbits := rep_bits v.toNat h5' u4 (by rw [u1]; exact t2)
      have hsum := sumR_take v.toNat h5' u4
      have ev : ((v.toNat : Nat) : Int) = v := by omega
      rw [ev] at hd2 hbits hsum
      rw [u1] at hsum
      have hlen : ((trs (s.drop v.toNat) (τ.drop v.toNat)).length : Int) = ((trs s τ).length : Int) - v := by rw [← u2, List.length_drop]; omega
      refine ⟨fun _ => ⟨fun h => absurd h (by decide), fun _ => ⟨fun h => absurd rfl h, fun _ => b_X10_work_139 hn hP ⟨by omega, fun _ => c_X10_areMost hn hP (by omega) ?_ ?_, fun h => absurd h (by decide)⟩⟩⟩, fun h => absurd (by decide) h⟩
      · intro j hj
        rw [S2_73]
        exact hbits j (by omega)
      · rw [S2_73, hsum]
        refine b_X10_work_174 hn hP ⟨by omega, bi_or _, by omega, ?_⟩
        rw [S2_u73]
        subst hs1
        rw [st1_25] at go
        refine go _ _ _ _ ?_ ?_ ?_ ?_ ?_
        · show _ = ((ints (s.drop v.toNat) (τ.drop v.toNat)).length : Int)
          rw [u3]
        · show _ = ((bi (v < 2 * (s.take v.toNat).sum) :: trs (s.drop v.toNat) (τ.drop v.toNat)).length : Int)
          rw [List.length_cons]
          omega
        · show rep _ _ (ints (s.drop v.toNat) (τ.drop v.toNat))
          rw [u3]
          exact h5
        · show rep _ _ (bi (v < 2 * (s.take v.toNat).sum) :: trs (s.drop v.toNat) (τ.drop v.toNat))
          rw [← u2]
          exact rep_push hd2
        · rw [List.length_cons, List.length_drop]
          omega
    · obtain ⟨a, r, rfl, p1, p2⟩ := okS_T h4
      rw [show rc 23 = 20 from rfl]
      have h5c : rep h ((trs r ρ).length + 1 : Nat) (a :: trs r ρ) := h5'
      have er : (((trs r ρ).length + 1 : Nat) : Int) - 1 = ((trs r ρ).length : Int) := by omega
      have ha : h ((trs r ρ).length : Int) = a := by have := h5c.1; rwa [er] at this
      have hr2 : rep h ((trs r ρ).length : Int) (trs r ρ) := by have := h5c.2; rwa [er] at this
      subst hs1
      rw [st1_u (Or.inl rfl), jn_23] at go
      have fin : ∀ s0 : Int, s0 = 1 - a → xW Y_X10_work g (d + 2) 0 0 328 [(0, vR (some 64)), (3, vI (705 * t + 1 + 4 * c)), (4, vI (705 * t + 97)), (5, vI ((ints (a :: r) (true :: ρ)).length : Int)), (6, vI ((trs (a :: r) (true :: ρ)).length : Int)), (7, vI i)] [vI s0, vI (((trs (a :: r) (true :: ρ)).length : Int) - 1), vR (some 73)] (0, 0) (n, P, S2 M f h) (kV n P G) := by
        intro s0 hs0
        have hll : ((trs (a :: r) (true :: ρ)).length : Int) = ((trs r ρ).length : Int) + 1 := by show (((trs r ρ).length + 1 : Nat) : Int) = _; omega
        rw [hll]
        refine b_X10_work_328 hn hP ⟨by omega, by omega, ?_⟩
        rw [S2_u73, show ((trs r ρ).length : Int) + 1 - 1 = ((trs r ρ).length : Int) by omega, hs0]
        exact go _ _ _ _ rfl (by show _ = (((trs r ρ).length + 1 : Nat) : Int); omega) h5 (rep_push hr2) (by rw [List.length_cons] at *; omega)
      have hll : ((trs (a :: r) (true :: ρ)).length : Int) = ((trs r ρ).length : Int) + 1 := by show (((trs r ρ).length + 1 : Nat) : Int) = _; omega
      refine ⟨fun _ => ⟨fun _ => ⟨fun _ => ⟨fun _ => ⟨fun _ => ⟨fun h => absurd rfl h, fun _ => ⟨by omega, by omega, by omega, ?_⟩⟩, fun h => absurd (by decide) h⟩, fun h => absurd (by decide) h⟩, fun h => absurd h (by decide)⟩, fun h => absurd (by decide) h⟩, fun h => absurd (by decide) h⟩
      rw [S2_73]
      have hx : h (((trs (a :: r) (true :: ρ)).length : Int) - 1) = a := by rw [hll, show ((trs r ρ).length : Int) + 1 - 1 = ((trs r ρ).length : Int) by omega]; exact ha
      rw [hx]
      exact ⟨fun hz => fin 0 (by omega), fun hz => fin 1 (by omega)⟩
    · obtain ⟨a, r, rfl, p1, p2⟩ := okS_F h4
      rw [show rc 76 = 4 from rfl]
      have h5c : rep f ((ints r ρ).length + 1 : Nat) (a :: ints r ρ) := h5
      have er : (((ints r ρ).length + 1 : Nat) : Int) - 1 = ((ints r ρ).length : Int) := by omega
      have ha : f ((ints r ρ).length : Int) = a := by have := h5c.1; rwa [er] at this
      have hr2 : rep f ((ints r ρ).length : Int) (ints r ρ) := by have := h5c.2; rwa [er] at this
      subst hs1
      rw [st1_u (Or.inr rfl), jn_76] at go
      have hll : ((ints (a :: r) (false :: ρ)).length : Int) = ((ints r ρ).length : Int) + 1 := by show (((ints r ρ).length + 1 : Nat) : Int) = _; omega
      have hx : f (((ints (a :: r) (false :: ρ)).length : Int) - 1) = a := by rw [hll, show ((ints r ρ).length : Int) + 1 - 1 = ((ints r ρ).length : Int) by omega]; exact ha
      refine ⟨fun _ => ⟨fun _ => ⟨fun h => absurd rfl h, fun _ => ⟨by omega, by omega, by omega, ?_⟩⟩, fun h => absurd (by decide) h⟩, fun h => absurd (by decide) h⟩
      rw [S2_72, hx, S2_u72, hll, show ((ints r ρ).length : Int) + 1 - 1 = ((ints r ρ).length : Int) by omega]
      refine ⟨by constructor <;> omega, by omega, go _ _ _ _ (by show _ = (((ints r ρ).length + 1 : Nat) : Int); omega) rfl (rep_push hr2) h5' (by rw [List.length_cons] at *; omega)⟩
    · obtain ⟨b', r1, rfl, p1, p2⟩ := okS_T h4
      obtain ⟨a, r, rfl, p3, p4⟩ := okS_T p2
      have hll : ((trs (b' :: a :: r) (true :: true :: ρ)).length : Int) = ((trs r ρ).length : Int) + 2 := by show (((trs r ρ).length + 1 + 1 : Nat) : Int) = _; omega
      rw [hll] at h5' ⊢
      have h5c : rep h (((trs r ρ).length : Int) + 2) (b' :: a :: trs r ρ) := h5'
      have hb' : h (((trs r ρ).length : Int) + 1) = b' := by have := h5c.1; rwa [show ((trs r ρ).length : Int) + 2 - 1 = ((trs r ρ).length : Int) + 1 by omega] at this
      have h52 : rep h (((trs r ρ).length : Int) + 1) (a :: trs r ρ) := by have := h5c.2; rwa [show ((trs r ρ).length : Int) + 2 - 1 = ((trs r ρ).length : Int) + 1 by omega] at this
      have ha : h ((trs r ρ).length : Int) = a := by have := h52.1; rwa [show ((trs r ρ).length : Int) + 1 - 1 = ((trs r ρ).length : Int) by omega] at this
      have hr2 : rep h ((trs r ρ).length : Int) (trs r ρ) := by have := h52.2; rwa [show ((trs r ρ).length : Int) + 1 - 1 = ((trs r ρ).length : Int) by omega] at this
      subst hs1
      rw [st1_b (Or.inl hq)] at go hok
      have hjr : jn o a b' = 0 ∨ jn o a b' = 1 := hok.1
      have hrc : 21 ≤ rc o := by rcases hq with rfl | rfl | rfl <;> decide
      rw [show ((trs r ρ).length : Int) + 2 + (-1) = ((trs r ρ).length : Int) + 1 by omega, show ((trs r ρ).length : Int) + 1 - 1 = ((trs r ρ).length : Int) by omega]
      refine ⟨fun _ => ⟨fun _ => ⟨fun _ => ⟨fun _ => ⟨fun _ => ⟨fun _ => ⟨by omega, by omega, by omega, by omega, by omega, ?_⟩, fun h => absurd h (by omega)⟩, fun h => absurd h (by omega)⟩, fun h => absurd h (by omega)⟩, fun h => absurd h (by omega)⟩, fun h => absurd h (by omega)⟩, fun h => absurd h (by omega)⟩
      rw [S2_73, ha, hb']
      refine c_X10_joined hn hq p3 p1 ⟨by omega, hjr, ?_⟩
      rw [S2_u73]
      exact go _ _ _ _ rfl (by show _ = (((trs r ρ).length + 1 : Nat) : Int); omega) h5 (rep_push hr2) (by rw [List.length_cons, List.length_cons] at h6; rw [List.length_cons]; omega)
    · obtain ⟨b', r1, rfl, p1, p2⟩ := okS_F h4
      obtain ⟨a, r, rfl, p3, p4⟩ := okS_F p2
      have hll : ((ints (b' :: a :: r) (false :: false :: ρ)).length : Int) = ((ints r ρ).length : Int) + 2 := by show (((ints r ρ).length + 1 + 1 : Nat) : Int) = _; omega
      rw [hll] at h5 ⊢
      have h5c : rep f (((ints r ρ).length : Int) + 2) (b' :: a :: ints r ρ) := h5
      have hb' : f (((ints r ρ).length : Int) + 1) = b' := by have := h5c.1; rwa [show ((ints r ρ).length : Int) + 2 - 1 = ((ints r ρ).length : Int) + 1 by omega] at this
      have h52 : rep f (((ints r ρ).length : Int) + 1) (a :: ints r ρ) := by have := h5c.2; rwa [show ((ints r ρ).length : Int) + 2 - 1 = ((ints r ρ).length : Int) + 1 by omega] at this
      have ha : f ((ints r ρ).length : Int) = a := by have := h52.1; rwa [show ((ints r ρ).length : Int) + 1 - 1 = ((ints r ρ).length : Int) by omega] at this
      have hr2 : rep f ((ints r ρ).length : Int) (ints r ρ) := by have := h52.2; rwa [show ((ints r ρ).length : Int) + 1 - 1 = ((ints r ρ).length : Int) by omega] at this
      subst hs1
      rw [st1_b (Or.inr (Or.inl hq))] at go hok
      have hjr : jn o a b' = 0 ∨ jn o a b' = 1 := hok.1
      have hrc : 10 ≤ rc o ∧ rc o < 20 := by rcases hq with rfl | rfl | rfl | rfl | rfl | rfl <;> decide
      rw [show ((ints r ρ).length : Int) + 2 + (-2) = ((ints r ρ).length : Int) by omega]
      refine ⟨fun _ => ⟨fun _ => ⟨fun _ => ⟨fun _ => ⟨fun h => absurd h (by omega), fun _ => ⟨by omega, by omega, by omega, by omega, ?_⟩⟩, fun h => absurd h (by omega)⟩, fun h => absurd h (by omega)⟩, fun h => absurd h (by omega)⟩, fun h => absurd h (by omega)⟩
      rw [S2_72, ha, hb']
      refine c_X10_isAsked hn hq ⟨by omega, hjr, by omega, ?_⟩
      rw [S2_u73]
      exact go _ _ _ _ rfl (by show _ = (((trs r ρ).length + 1 : Nat) : Int); show ((trs r ρ).length : Int) + 1 = _; omega) hr2 (rep_push h5') (by rw [List.length_cons, List.length_cons] at h6; rw [List.length_cons]; omega)
    · obtain ⟨b', r1, rfl, p1, p2⟩ := okS_F h4
      obtain ⟨a, r, rfl, p3, p4⟩ := okS_F p2
      have hll : ((ints (b' :: a :: r) (false :: false :: ρ)).length : Int) = ((ints r ρ).length : Int) + 2 := by show (((ints r ρ).length + 1 + 1 : Nat) : Int) = _; omega
      rw [hll] at h5 ⊢
      have h5c : rep f (((ints r ρ).length : Int) + 2) (b' :: a :: ints r ρ) := h5
      have hb' : f (((ints r ρ).length : Int) + 1) = b' := by have := h5c.1; rwa [show ((ints r ρ).length : Int) + 2 - 1 = ((ints r ρ).length : Int) + 1 by omega] at this
      have h52 : rep f (((ints r ρ).length : Int) + 1) (a :: ints r ρ) := by have := h5c.2; rwa [show ((ints r ρ).length : Int) + 2 - 1 = ((ints r ρ).length : Int) + 1 by omega] at this
      have ha : f ((ints r ρ).length : Int) = a := by have := h52.1; rwa [show ((ints r ρ).length : Int) + 1 - 1 = ((ints r ρ).length : Int) by omega] at this
      have hr2 : rep f ((ints r ρ).length : Int) (ints r ρ) := by have := h52.2; rwa [show ((ints r ρ).length : Int) + 1 - 1 = ((ints r ρ).length : Int) by omega] at this
      subst hs1
      rw [st1_b (Or.inr (Or.inr hq))] at go
      have hrc : 5 ≤ rc o ∧ rc o < 10 := by rcases hq with rfl | rfl | rfl | rfl <;> decide
      rw [show ((ints r ρ).length : Int) + 2 + (-1) = ((ints r ρ).length : Int) + 1 by omega, show ((ints r ρ).length : Int) + 1 - 1 = ((ints r ρ).length : Int) by omega]
      refine ⟨fun _ => ⟨fun _ => ⟨fun _ => ⟨fun h => absurd h (by omega), fun _ => ⟨by omega, by omega, by omega, by omega, by omega, ?_⟩⟩, fun h => absurd h (by omega)⟩, fun h => absurd h (by omega)⟩, fun h => absurd h (by omega)⟩
      rw [S2_72, ha, hb']
      refine c_X10_two hn hq p3 p1 ⟨by omega, ?_⟩
      rw [S2_u72]
      exact go _ _ _ _ (by show _ = (((ints r ρ).length + 1 : Nat) : Int); omega) rfl (rep_push hr2) h5' (by rw [List.length_cons, List.length_cons] at h6; rw [List.length_cons]; omega)
end Work2
