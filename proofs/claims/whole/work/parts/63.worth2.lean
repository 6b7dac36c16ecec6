/-- what a law's program must be: typed, its arguments in their bounds -/
def okP (pr : Int → Int × Int) (lo hi : Int) (nm : Int → Int) (b : Bool) : Prop :=
  (0 ≤ lo ∧ lo < hi ∧ hi ≤ 300) ∧ (∀ j, lo ≤ j → j < hi → (0 ≤ (pr j).1 ∧ (pr j).1 < 128) ∧ (0 ≤ (pr j).2 ∧ (pr j).2 < 16384) ∧ okA (pr j).1 (pr j).2 nm) ∧ tyr pr (hi - lo).toNat lo [] = some [b]
/-- the class's code of it -/
def clP (M : xM) (t : Nat) (pr : Int → Int × Int) (lo hi : Int) : Prop := ∀ j, lo ≤ j → j < hi → M (t + 1) j = (pr j).1 * 16384 + (pr j).2
theorem setA_self (M : xM) (b : Nat) : setA M b (M b) = M := by
  funext c j
  unfold setA
  by_cases h : c = b
  · rw [if_pos h, h]
  · rw [if_neg h]
section Worth2
variable {g : Option Nat} {d n : Nat} {P : xP} {M : xM} {F : xM → Int → Prop} {G : xM → Prop}
set_option maxHeartbeats 4000000 in
theorem worth_loop (hn : 82 ≤ n) (hP : x_PP P) {t : Nat} (hT : x_Text n P t) (h43 : 43 ≤ t) {κ lo hi : Int} (hk : 0 ≤ κ ∧ κ < 8) (hst : M (t + 3) κ = hi) {pr : Int → Int × Int} (hlo : 0 ≤ lo) (hhi : hi ≤ 300 + lo ∧ hi ≤ 300) (hpr : ∀ j, lo ≤ j → j < hi → (0 ≤ (pr j).1 ∧ (pr j).1 < 128) ∧ (0 ≤ (pr j).2 ∧ (pr j).2 < 16384) ∧ okA (pr j).1 (pr j).2 (M 13)) (hcl : clP M t pr lo hi) {b : Bool} :
    ∀ (k : Nat) (i : Int) (s : List Int) (τ : List Bool) (f : Int → Int), lo ≤ i → i + k = hi → tyr pr k i τ = some [b] → okS s τ → rep f (s.length : Int) s → (s.length : Int) ≤ i - lo → (∀ f' z, ev1 pr (M 13) (M 12 1) k i s = [z] → F (setA M 14 f') z) →
      xW Y_X2_worth g (d + 1) 0 0 20 [(0, vR (some 12)), (1, vR (some t)), (2, vI κ), (3, vI (s.length : Int)), (4, vI i)] [] (0, 0) (n, P, setA M 14 f) (kI n P F) := by
  intro k
  induction k with
  | zero =>
    intro i s τ f h1 h2 h3 h4 h5 h6 H
    have e3 : setA M 14 f (t + 3) κ = hi := by rw [setA_ne (by omega)]; exact hst
    have hs : ∃ z, s = [z] := by
      have hl := okS_len h4
      cases h3
      match s, hl with
      | [z], _ => exact ⟨z, rfl⟩
    obtain ⟨z, rfl⟩ := hs
    refine b_X2_worthT_20 hn hP hT ⟨hk, fun _ => ?_, fun h => absurd (by rw [e3]; omega) h⟩
    have e0 : setA M 14 f 14 0 = z := by
      rw [setA_at]
      exact h5.1
    rw [e0]
    exact H f z rfl
  | succ k ih =>
    intro i s τ f h1 h2 h3 h4 h5 h6 H
    have hl := okS_len h4
    have hbd := tyr_len (k + 1) i h3
    have e3 : setA M 14 f (t + 3) κ = hi := by rw [setA_ne (by omega)]; exact hst
    obtain ⟨ho, hv, hA⟩ := hpr i h1 (by omega)
    have e1 : setA M 14 f (t + 1) i = (pr i).1 * 16384 + (pr i).2 := by rw [setA_ne (by omega)]; exact hcl i h1 (by omega)
    have e12 : setA M 14 f 12 1 = M 12 1 := by rw [setA_ne (by decide)]
    have e13 : setA M 14 f 13 = M 13 := setA_ne (by decide)
    unfold tyr at h3
    cases hty : ty1 (pr i).1 (pr i).2 τ with
    | none => rw [hty] at h3; cases h3
    | some τ' =>
    rw [hty] at h3
    have h3 : tyr pr k (i + 1) τ' = some [b] := h3
    have hok := okS_step (fs := M 12 1) h4 hA hty
    have H' : ∀ f' z, ev1 pr (M 13) (M 12 1) k (i + 1) (st1 (pr i).1 (pr i).2 (M 13) (M 12 1) s) = [z] → F (setA M 14 f') z := fun f' z hz => H f' z hz
    generalize hpo : (pr i).1 = o at *
    generalize hpv : (pr i).2 = v at *
    generalize hs1 : st1 o v (M 13) (M 12 1) s = s1 at hok H'
    -- behind a step: a on top of r
    have go : ∀ (a : Int) (r : List Int), s1 = a :: r → rep f (r.length : Int) r → (r.length : Int) ≤ i - lo → xW Y_X2_worth g (d + 1) 0 0 256 [(0, vR (some 12)), (1, vR (some t)), (2, vI κ), (3, vI (r.length : Int)), (4, vI i)] [] (0, 0) (n, P, x_upd (setA M 14 f) 14 (r.length : Int) a) (kI n P F) := by
      intro a r hr hrep hlen
      refine b_X2_worthT_256 hn hP hT ⟨by omega, by omega, ?_⟩
      rw [x_upd_setA]
      rw [hr] at hok H'
      have := ih (i + 1) (a :: r) τ' (fun j => if j = (r.length : Int) then a else f j) (by omega) (by omega) h3 hok (by rw [List.length_cons]; exact rep_push hrep) (by rw [List.length_cons]; omega) H'
      rw [List.length_cons] at this
      exact this
    refine b_X2_worthT_20 hn hP hT ⟨hk, fun h => absurd h (by rw [e3]; omega), fun _ => ⟨fun h => absurd h (by omega), fun _ => ⟨by omega, by omega, ?_⟩⟩⟩
    rw [e1, x_unpack_o ho hv, x_unpack_v ho hv]
    -- what is taken
    have push : ∀ a : Int, s1 = a :: s → xW Y_X2_worth g (d + 1) 0 0 256 [(0, vR (some 12)), (1, vR (some t)), (2, vI κ), (3, vI ((s.length : Int) - 0)), (4, vI i)] [] (0, 0) (n, P, x_upd (setA M 14 f) 14 ((s.length : Int) - 0) a) (kI n P F) := by
      intro a ha
      rw [Int.sub_zero]
      exact go a s ha h5 h6
    have hsz : (s.length : Int) ≤ 298 := by omega
    rcases ty_inv hty with ⟨rfl, rfl⟩ | ⟨rfl, rfl⟩ | ⟨rfl, rfl⟩ | ⟨rfl, hc, rfl⟩ | ⟨rfl, ρ, rfl, rfl⟩ | ⟨rfl, ρ, rfl, rfl⟩ | ⟨hq, ρ, rfl, rfl⟩ | ⟨hq, ρ, rfl, rfl⟩ | ⟨hq, ρ, rfl, rfl⟩
    · refine ⟨fun _ => c_X2_wants hn ?_, fun h => absurd h (by decide)⟩
      rw [if_pos (Or.inl rfl)]
      refine b_X2_worthT_84 hn hP hT ⟨by omega, fun h => absurd h (by omega), fun _ => ⟨by omega, fun _ => ⟨fun h => absurd h (by decide), fun _ => ⟨fun h => absurd h (by decide), fun _ => ⟨fun _ => ⟨by omega, push v hs1.symm⟩, fun h => absurd rfl h⟩⟩⟩, fun h => absurd h (by omega)⟩⟩
    · refine ⟨fun _ => c_X2_wants hn ?_, fun h => absurd h (by decide)⟩
      rw [if_pos (Or.inr (Or.inl rfl))]
      have hv8 := hA.2.1 rfl
      refine b_X2_worthT_84 hn hP hT ⟨by omega, fun h => absurd h (by omega), fun _ => ⟨by omega, fun _ => ⟨fun h => absurd h (by decide), fun _ => ⟨fun h => absurd h (by decide), fun _ => ⟨fun h => absurd h (by decide), fun _ => ⟨fun _ => ⟨fun h => absurd h (by omega), fun _ => ⟨hv8.1, ?_⟩⟩, fun h => absurd rfl h⟩⟩⟩⟩, fun h => absurd h (by omega)⟩⟩
      rw [e13]
      exact b_X2_worthT_185 hn hP hT ⟨by omega, push (M 13 v) hs1.symm⟩
    · refine ⟨fun _ => c_X2_wants hn ?_, fun h => absurd h (by decide)⟩
      rw [if_pos (Or.inr (Or.inr rfl))]
      refine b_X2_worthT_84 hn hP hT ⟨by omega, fun h => absurd h (by omega), fun _ => ⟨by omega, fun _ => ⟨fun _ => ⟨by omega, ?_⟩, fun h => absurd rfl h⟩, fun h => absurd h (by omega)⟩⟩
      rw [e12]
      exact push _ hs1.symm
    · refine ⟨fun h => absurd rfl h, fun _ => ?_⟩
      obtain ⟨t1, t2⟩ := okS_top v.toNat h4 hc.2
      have hvl : v ≤ (s.length : Int) := by omega
      have hd2 := rep_drop v.toNat h5 t1
      have hbits := rep_bits v.toNat h5 t1 t2
      have hsum := sumR_take v.toNat h5 t1
      have ev : ((v.toNat : Nat) : Int) = v := by omega
      rw [ev] at hd2 hbits hsum
      have hlen : ((s.drop v.toNat).length : Int) = (s.length : Int) - v := by rw [List.length_drop]; omega
      refine b_X2_worthT_84 hn hP hT ⟨by omega, fun h => absurd h (by omega), fun _ => ⟨by omega, fun _ => ⟨fun h => absurd h (by decide), fun _ => ⟨fun _ => c_X2_mostAreSo hn hP (by omega) ?_ ?_, fun h => absurd rfl h⟩⟩, fun h => absurd h (by omega)⟩⟩
      · intro j hj
        rw [setA_at]
        exact hbits j (by omega)
      · rw [setA_at, hsum]
        have hfin : ∀ a : Int, a = bi (v < 2 * (s.take v.toNat).sum) → xW Y_X2_worth g (d + 1) 0 0 227 [(0, vR (some 12)), (1, vR (some t)), (2, vI κ), (3, vI ((s.length : Int) - v)), (4, vI i)] [vI a, vI ((s.length : Int) - v), vR (some 14)] (0, 0) (n, P, setA M 14 f) (kI n P F) := by
          intro a ha
          refine b_X2_worthT_227 hn hP hT ⟨by omega, ?_⟩
          have := go a (s.drop v.toNat) (by rw [← hs1, ha]; rfl) (by rw [hlen]; exact hd2) (by rw [hlen]; omega)
          rw [hlen] at this
          exact this
        exact ⟨fun h => hfin 0 h.symm, fun h => hfin 1 (bi_t (bi_n0.mp h)).symm⟩
    · obtain ⟨a, r, rfl, p1, p2⟩ := okS_T h4
      refine ⟨fun _ => c_X2_wants hn ?_, fun h => absurd h (by decide)⟩
      rw [if_neg (by decide), if_pos (Or.inl rfl)]
      rw [List.length_cons] at *
      have er : ((r.length + 1 : Nat) : Int) - 1 = (r.length : Int) := by omega
      have ha : f (r.length : Int) = a := by have := h5.1; rwa [er] at this
      have hr2 : rep f (r.length : Int) r := by have := h5.2; rwa [er] at this
      refine b_X2_worthT_84 hn hP hT ?_
      rw [er]
      refine ⟨by omega, fun h => absurd h (by omega), fun _ => ⟨by omega, fun _ => ⟨fun h => absurd h (by decide), fun _ => ⟨fun h => absurd h (by decide), fun _ => ⟨fun h => absurd h (by decide), fun _ => ⟨fun h => absurd h (by decide), fun _ => ⟨by omega, by omega, by omega, ?_⟩⟩⟩⟩⟩, fun h => absurd h (by omega)⟩⟩
      rw [setA_at, ha]
      exact c_X2_joined hn (Or.inl (Or.inl rfl)) (by omega) (fun h => absurd (Or.inl rfl) h) ⟨by omega, go _ r hs1.symm hr2 (by omega)⟩
    · obtain ⟨a, r, rfl, p1, p2⟩ := okS_F h4
      refine ⟨fun _ => c_X2_wants hn ?_, fun h => absurd h (by decide)⟩
      rw [if_neg (by decide), if_pos (Or.inr rfl)]
      rw [List.length_cons] at *
      have er : ((r.length + 1 : Nat) : Int) - 1 = (r.length : Int) := by omega
      have ha : f (r.length : Int) = a := by have := h5.1; rwa [er] at this
      have hr2 : rep f (r.length : Int) r := by have := h5.2; rwa [er] at this
      refine b_X2_worthT_84 hn hP hT ?_
      rw [er]
      refine ⟨by omega, fun h => absurd h (by omega), fun _ => ⟨by omega, fun _ => ⟨fun h => absurd h (by decide), fun _ => ⟨fun h => absurd h (by decide), fun _ => ⟨fun h => absurd h (by decide), fun _ => ⟨fun h => absurd h (by decide), fun _ => ⟨by omega, by omega, by omega, ?_⟩⟩⟩⟩⟩, fun h => absurd h (by omega)⟩⟩
      rw [setA_at, ha]
      exact c_X2_joined hn (Or.inl (Or.inr rfl)) p1 (fun h => absurd (Or.inr rfl) h) ⟨by omega, go _ r hs1.symm hr2 (by omega)⟩
    · obtain ⟨b', r1, rfl, p1, p2⟩ := okS_T h4
      obtain ⟨a, r, rfl, p3, p4⟩ := okS_T p2
      refine ⟨fun _ => c_X2_wants hn ?_, fun h => absurd h (by omega)⟩
      rw [if_neg (by omega), if_neg (by omega)]
      rw [List.length_cons, List.length_cons] at *
      have er : ((r.length + 1 + 1 : Nat) : Int) - 2 = (r.length : Int) := by omega
      have hb' : f ((r.length : Int) + 1) = b' := by have := h5.1; rwa [show ((r.length + 1 + 1 : Nat) : Int) - 1 = (r.length : Int) + 1 by omega] at this
      have h52 : rep f ((r.length : Int) + 1) (a :: r) := by have := h5.2; rwa [show ((r.length + 1 + 1 : Nat) : Int) - 1 = (r.length : Int) + 1 by omega] at this
      have ha : f (r.length : Int) = a := by have := h52.1; rwa [show (r.length : Int) + 1 - 1 = (r.length : Int) by omega] at this
      have hr2 : rep f (r.length : Int) r := by have := h52.2; rwa [show (r.length : Int) + 1 - 1 = (r.length : Int) by omega] at this
      refine b_X2_worthT_84 hn hP hT ?_
      rw [er]
      refine ⟨by omega, fun h => absurd h (by omega), fun _ => ⟨by omega, fun _ => ⟨fun h => absurd h (by omega), fun _ => ⟨fun h => absurd h (by omega), fun _ => ⟨fun h => absurd h (by omega), fun _ => ⟨fun h => absurd h (by omega), fun _ => ⟨by omega, by omega, by omega, ?_⟩⟩⟩⟩⟩, fun h => absurd h (by omega)⟩⟩
      rw [setA_at, ha, hb']
      exact c_X2_joined hn (Or.inr (Or.inl hq)) (by omega) (fun _ => by omega) ⟨by omega, go _ r (by rw [← hs1, st1_b (Or.inl hq)]) hr2 (by omega)⟩
    · obtain ⟨b', r1, rfl, p1, p2⟩ := okS_F h4
      obtain ⟨a, r, rfl, p3, p4⟩ := okS_F p2
      refine ⟨fun _ => c_X2_wants hn ?_, fun h => absurd h (by omega)⟩
      rw [if_neg (by omega), if_neg (by omega)]
      rw [List.length_cons, List.length_cons] at *
      have er : ((r.length + 1 + 1 : Nat) : Int) - 2 = (r.length : Int) := by omega
      have hb' : f ((r.length : Int) + 1) = b' := by have := h5.1; rwa [show ((r.length + 1 + 1 : Nat) : Int) - 1 = (r.length : Int) + 1 by omega] at this
      have h52 : rep f ((r.length : Int) + 1) (a :: r) := by have := h5.2; rwa [show ((r.length + 1 + 1 : Nat) : Int) - 1 = (r.length : Int) + 1 by omega] at this
      have ha : f (r.length : Int) = a := by have := h52.1; rwa [show (r.length : Int) + 1 - 1 = (r.length : Int) by omega] at this
      have hr2 : rep f (r.length : Int) r := by have := h52.2; rwa [show (r.length : Int) + 1 - 1 = (r.length : Int) by omega] at this
      refine b_X2_worthT_84 hn hP hT ?_
      rw [er]
      refine ⟨by omega, fun h => absurd h (by omega), fun _ => ⟨by omega, fun _ => ⟨fun h => absurd h (by omega), fun _ => ⟨fun h => absurd h (by omega), fun _ => ⟨fun h => absurd h (by omega), fun _ => ⟨fun h => absurd h (by omega), fun _ => ⟨by omega, by omega, by omega, ?_⟩⟩⟩⟩⟩, fun h => absurd h (by omega)⟩⟩
      rw [setA_at, ha, hb']
      exact c_X2_joined hn (Or.inr (Or.inr (Or.inl hq))) p3 (fun _ => p1) ⟨by omega, go _ r (by rw [← hs1, st1_b (Or.inr (Or.inl hq))]) hr2 (by omega)⟩
    · obtain ⟨b', r1, rfl, p1, p2⟩ := okS_F h4
      obtain ⟨a, r, rfl, p3, p4⟩ := okS_F p2
      refine ⟨fun _ => c_X2_wants hn ?_, fun h => absurd h (by omega)⟩
      rw [if_neg (by omega), if_neg (by omega)]
      rw [List.length_cons, List.length_cons] at *
      have er : ((r.length + 1 + 1 : Nat) : Int) - 2 = (r.length : Int) := by omega
      have hb' : f ((r.length : Int) + 1) = b' := by have := h5.1; rwa [show ((r.length + 1 + 1 : Nat) : Int) - 1 = (r.length : Int) + 1 by omega] at this
      have h52 : rep f ((r.length : Int) + 1) (a :: r) := by have := h5.2; rwa [show ((r.length + 1 + 1 : Nat) : Int) - 1 = (r.length : Int) + 1 by omega] at this
      have ha : f (r.length : Int) = a := by have := h52.1; rwa [show (r.length : Int) + 1 - 1 = (r.length : Int) by omega] at this
      have hr2 : rep f (r.length : Int) r := by have := h52.2; rwa [show (r.length : Int) + 1 - 1 = (r.length : Int) by omega] at this
      refine b_X2_worthT_84 hn hP hT ?_
      rw [er]
      refine ⟨by omega, fun h => absurd h (by omega), fun _ => ⟨by omega, fun _ => ⟨fun h => absurd h (by omega), fun _ => ⟨fun h => absurd h (by omega), fun _ => ⟨fun h => absurd h (by omega), fun _ => ⟨fun h => absurd h (by omega), fun _ => ⟨by omega, by omega, by omega, ?_⟩⟩⟩⟩⟩, fun h => absurd h (by omega)⟩⟩
      rw [setA_at, ha, hb']
      exact c_X2_joined hn (Or.inr (Or.inr (Or.inr hq))) p3 (fun _ => p1) ⟨by omega, go _ r (by rw [← hs1, st1_b (Or.inr (Or.inr hq))]) hr2 (by omega)⟩
end Worth2
