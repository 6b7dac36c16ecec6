/-! a text that was read stands on both sides -/
theorem fcs_mono : ∀ (l : List (Int × Int)) (a : Int) (i : Nat), bX a i = true → bX (fcs l a) i = true
  | [], _, _, h => h
  | c :: r, a, i, h => by
    show bX (fcs r (if c.1 = 24 then x_or a (x_shl 1 c.2) else a)) i = true
    refine fcs_mono r _ i ?_
    by_cases h24 : c.1 = 24
    · rw [if_pos h24, bX_or, h]; rfl
    · rw [if_neg h24]; exact h
theorem fcs_has : ∀ (l : List (Int × Int)) (a : Int) (c : Int × Int), c ∈ l → c.1 = 24 → (0 ≤ c.2 ∧ c.2 < 8) → bX (fcs l a) c.2.toNat = true
  | c0 :: r, a, c, hm, h24, hr => by
    show bX (fcs r (if c0.1 = 24 then x_or a (x_shl 1 c0.2) else a)) c.2.toNat = true
    rcases List.mem_cons.mp hm with rfl | hm
    · refine fcs_mono r _ _ ?_
      rw [if_pos h24, bX_or, bX_shl hr (by omega)]
      simp
    · exact fcs_has r _ c hm h24 hr
theorem or_r {a b : Int} (ha : 0 ≤ a ∧ a < 256) (hb : 0 ≤ b ∧ b < 256) : 0 ≤ x_or a b ∧ x_or a b < 256 := by
  have e : x_or a b = ((a.toNat ||| b.toNat : Nat) : Int) := x_or_nat (by omega) (by omega)
  rw [e]
  have h : (a.toNat ||| b.toNat) < 2 ^ 8 := Nat.or_lt_two_pow (by omega) (by omega)
  omega
theorem shl_r {k : Int} (hk : 0 ≤ k ∧ k < 8) : 0 ≤ x_shl 1 k ∧ x_shl 1 k < 256 := by
  have key : ∀ b : Fin 8, 0 ≤ x_shl 1 ((b.val : Nat) : Int) ∧ x_shl 1 ((b.val : Nat) : Int) < 256 := by decide +kernel
  have := key ⟨k.toNat, by omega⟩
  rw [show ((k.toNat : Nat) : Int) = k by omega] at this
  exact this
theorem fcs_r : ∀ (l : List (Int × Int)) (a : Int), (0 ≤ a ∧ a < 256) → (∀ c ∈ l, c.1 = 24 → 0 ≤ c.2 ∧ c.2 < 8) → 0 ≤ fcs l a ∧ fcs l a < 256
  | [], _, h, _ => h
  | c :: r, a, h, hl => by
    show 0 ≤ fcs r (if c.1 = 24 then x_or a (x_shl 1 c.2) else a) ∧ _
    refine fcs_r r _ ?_ (fun c' h' => hl c' (List.mem_cons_of_mem _ h'))
    by_cases h24 : c.1 = 24
    · rw [if_pos h24]; exact or_r h (shl_r (hl c List.mem_cons_self h24))
    · rw [if_neg h24]; exact h
theorem hit_iff {M : xM} {τ κ : Int} {i : Nat} {c : tC} (hc : crR τ M i c) (hr : 0 ≤ c.1 ∧ c.1 ≤ 11) (hκ : 0 ≤ κ ∧ κ < 8) : hit M τ κ (i : Int) ↔ htC κ c := by
  obtain ⟨h1, h2, -⟩ := hc
  unfold hit htC
  rw [h1]
  refine ⟨fun w => ⟨w.1, fun k4 => ?_⟩, fun w => ⟨w.1, fun k4 => ?_⟩⟩
  · have e := w.1
    rw [if_pos k4] at e
    have c0 : c.1 = 0 := by rcases sortK_r c.1 with q | q | q | q <;> omega
    rw [← (h2 (by omega)).2.2 c0]
    exact w.2 k4
  · have e := w.1
    rw [if_pos k4] at e
    have c0 : c.1 = 0 := by rcases sortK_r c.1 with q | q | q | q <;> omega
    rw [(h2 (by omega)).2.2 c0]
    exact w.2 k4
theorem getD_memC {α : Type} {l : List α} {d : α} {i : Nat} (h : i < l.length) : l.getD i d ∈ l := by
  rw [List.getD_eq_getElem?_getD, List.getElem?_eq_getElem h]
  exact List.getElem_mem h
theorem txt_new {M : xM} {τ : Int} {t : Nat} {R : tR} {l : List (Int × Int)} {C : List tC} {j : Nat} (ht : t = 43 + 5 * τ.toNat) (hj : j ≤ 300) (hC : inC R l C j) (p1 : ∀ i : Nat, i < l.length → M (t + 1) (i : Int) = (l.getD i (0, 0)).1 * 16384 + (l.getD i (0, 0)).2) (p6 : M t 6 = fcs l 0) (hR : lwC t M R) (p5 : M t 5 = (C.length : Int)) (hc : ∀ i : Nat, i < C.length → crC t M i (C.getD i (0, 0, 0, 0)))
    (ol : olR τ M l) (r0 : M 67 (705 * τ) = (C.length : Int)) (hr : ∀ i : Nat, i < C.length → crR τ M i (C.getD i (0, 0, 0, 0))) : txt M τ (fun j => l.getD j.toNat (0, 0), R) := by
  subst ht
  obtain ⟨i1, i2, i3, i4, i5, i6⟩ := hC
  have rg : ∀ i : Nat, i < C.length → 0 ≤ (C.getD i (0, 0, 0, 0)).1 ∧ (C.getD i (0, 0, 0, 0)).1 ≤ 11 := fun i hi => (i5 _ (getD_memC hi)).1
  refine ⟨fun κ q k0 k8 e => ?_, fun κ k0 k8 => ⟨(hR κ k0 k8).1, fun q e => ?_⟩, ⟨by omega, fun κ k0 k8 => ⟨fun e c c0 c1 w => ?_, fun q e => ?_⟩⟩, ⟨by omega, by omega, fun i i0 i1' => ?_⟩, ⟨?_, fun κ q k0 k4 e x x0 x1 x24 => ?_⟩⟩
  · obtain ⟨⟨a1, a2, a3⟩, a4, a5⟩ := ((i6 κ k0 k8).2 q e).1
    exact ⟨⟨a1, a2, by omega⟩, a4, a5⟩
  · obtain ⟨⟨a1, a2, a3⟩, a4, a5⟩ := ((i6 κ k0 k8).2 q e).1
    obtain ⟨b1, b2⟩ := (hR κ k0 k8).2 q e
    refine ⟨b1, b2, fun x x0 x1 => ?_⟩
    have := p1 x.toNat (by omega)
    rw [show ((x.toNat : Nat) : Int) = x by omega] at this
    exact this
  · have hlt : c.toNat < C.length := by omega
    rw [← show ((c.toNat : Nat) : Int) = c by omega] at w
    exact (i6 κ k0 k8).1 e _ (getD_memC hlt) ((hit_iff (hr _ hlt) (rg _ hlt) ⟨k0, k8⟩).mp w)
  · obtain ⟨⟨⟨a1, a2, a3⟩, a4, a5⟩, i, b1, b2, b3, b4, b5⟩ := (i6 κ k0 k8).2 q e
    refine ⟨fun x x0 x1 => ?_, (i : Int), by omega, by omega, (hit_iff (hr _ b1) (rg _ b1) ⟨k0, k8⟩).mpr b2, fun c' c0 c1 w => ?_, ?_, ?_⟩
    · have := ol x.toNat (by omega)
      rw [show ((x.toNat : Nat) : Int) = x by omega] at this
      exact this
    · have hlt : c'.toNat < C.length := by omega
      rw [← show ((c'.toNat : Nat) : Int) = c' by omega] at w
      exact b3 c'.toNat (by omega) ((hit_iff (hr _ hlt) (rg _ hlt) ⟨k0, k8⟩).mp w)
    all_goals
      have le4 : (C.getD i (0, 0, 0, 0)).1 ≤ 4 := by
        have e1 := b2.1
        have e2 := rg i b1
        by_cases k4 : κ < 4
        · rw [if_pos k4] at e1
          rcases sortK_r (C.getD i (0, 0, 0, 0)).1 with z | z | z | z <;> omega
        · rw [if_neg k4] at e1
          rcases sortK_r (C.getD i (0, 0, 0, 0)).1 with z | z | z | z <;> omega
    · rw [((hr i b1).2.1 le4).1]; exact b4
    · rw [((hr i b1).2.1 le4).2.1]; exact b5
  · have hlt : i.toNat < C.length := by omega
    have eI : ((i.toNat : Nat) : Int) = i := by omega
    obtain ⟨g1, g2, g3, g4⟩ := hc _ hlt
    obtain ⟨f1, f2, f3, f4, f5⟩ := hr _ hlt
    have r := rg _ hlt
    have r11 := (i5 _ (getD_memC (d := (0, 0, 0, 0)) hlt)).2
    rw [eI] at g1 g2 g3 g4 f1 f2 f3 f4 f5
    generalize C.getD i.toNat (0, 0, 0, 0) = c at g1 g2 g3 g4 f1 f2 f3 f4 f5 r r11
    rcases sortK_r c.1 with z | z | z | z
    · omega
    · left; rw [g1, f1]; omega
    · left; rw [g1, f1]; omega
    · right
      rw [g1, f1]
      refine ⟨by omega, fun w1 w2 => ?_, fun w => ?_, fun w => ?_, fun w => ?_⟩
      · rw [f3 w1 w2 (by omega), g2 w1 w2 (by omega)]
      · rw [f4 w, g3 w]
      · rw [f5 w, g4 w]
      · rw [g2 (by omega) (by omega) (by omega)]; exact r11 w
  · rw [p6]; exact fcs_r l 0 (by decide) i4
  · obtain ⟨⟨a1, a2, a3⟩, a4, a5⟩ := ((i6 κ k0 (by omega)).2 q e).1
    have hlt : x.toNat < l.length := by omega
    have hm : l.getD x.toNat (0, 0) ∈ l := getD_memC hlt
    have x24' : (l.getD x.toNat (0, 0)).1 = 24 := x24
    have r8 := i4 _ hm x24'
    show x_and (x_shr (M (43 + 5 * τ.toNat) 6) (l.getD x.toNat (0, 0)).2) 1 = 1
    rw [p6, bX_bit (by omega), fcs_has l 0 _ hm x24' r8, if_pos rfl]
/-- a text that lies elsewhere stays as it was -/
theorem txt_far {M M' : xM} {τ : Int} {T : xTx} (h0 : 0 ≤ τ ∧ τ < 4) (h : ∀ c, 43 + 5 * τ.toNat ≤ c → c < 48 + 5 * τ.toNat → M' c = M c) (h67 : ∀ i, 705 * τ ≤ i → i < 705 * τ + 705 → M' 67 i = M 67 i) (H : txt M τ T) : txt M' τ T := by
  generalize hN : (fun c j => if c = 67 then (if 705 * τ ≤ j ∧ j < 705 * τ + 705 then M' 67 j else M 67 j) else M' c j : xM) = N
  have e67 : N 67 = M 67 := by
    funext j
    rw [← hN]
    show (if (67 : Nat) = 67 then (if 705 * τ ≤ j ∧ j < 705 * τ + 705 then M' 67 j else M 67 j) else M' 67 j) = M 67 j
    rw [if_pos rfl]
    by_cases w : 705 * τ ≤ j ∧ j < 705 * τ + 705
    · rw [if_pos w]; exact h67 j w.1 w.2
    · rw [if_neg w]
  obtain ⟨t1, t2, t3, t4, t5⟩ := H
  have s := t4.2.1
  have r24 := t3.1
  refine ⟨t1, clT_of (fun c h1 h2 => h c (by omega) (by omega)) t2, ⟨?_, fun κ k0 k8 => ⟨fun e c c0 c1 w => ?_, fun q e => ?_⟩⟩, ?_, ?_⟩
  · rw [h67 _ (by omega) (by omega)]; exact t3.1
  · rw [h67 _ (by omega) (by omega)] at c1
    refine (t3.2 κ k0 k8).1 e c c0 c1 ⟨?_, fun k4 => ?_⟩
    · rw [← h67 _ (by omega) (by omega)]; exact w.1
    · rw [← h67 _ (by omega) (by omega)]; exact w.2 k4
  · obtain ⟨u1, c, c0, c1, u2, u3, u4, u5⟩ := (t3.2 κ k0 k8).2 q e
    obtain ⟨⟨a1, a2, a3⟩, -, -⟩ := t1 κ q k0 k8 e
    refine ⟨fun x x0 x1 => ?_, c, c0, ?_, ⟨?_, fun k4 => ?_⟩, fun c' c0' c1' w => ?_, ?_, ?_⟩
    · rw [h67 _ (by omega) (by omega), h67 _ (by omega) (by omega)]; exact u1 x x0 x1
    · rw [h67 _ (by omega) (by omega)]; exact c1
    · rw [h67 _ (by omega) (by omega)]; exact u2.1
    · rw [h67 _ (by omega) (by omega)]; exact u2.2 k4
    · refine u3 c' c0' c1' ⟨?_, fun k4 => ?_⟩
      · rw [← h67 _ (by omega) (by omega)]; exact w.1
      · rw [← h67 _ (by omega) (by omega)]; exact w.2 k4
    · rw [h67 _ (by omega) (by omega)]; exact u4
    · rw [h67 _ (by omega) (by omega)]; exact u5
  · obtain ⟨s1, s2, s3⟩ := t4
    unfold scr
    rw [h (43 + 5 * τ.toNat) (by omega) (by omega), h (43 + 5 * τ.toNat + 4) (by omega) (by omega), h67 _ (by omega) (by omega)]
    refine ⟨s1, s2, fun i i0 i1 => ?_⟩
    have := s3 i i0 i1
    rw [h67 _ (by omega) (by omega), h67 _ (by omega) (by omega), h67 _ (by omega) (by omega), h67 _ (by omega) (by omega)]
    exact this
  · unfold fct at *
    rw [h (43 + 5 * τ.toNat) (by omega) (by omega)]
    exact t5
/-- one text more is told -/
theorem relC_txt {A A' : Int → Int} {C C' : xCt} (h : relC A C) (h4 : A 1 < 4) (e1 : A' 1 = A 1 + 1) (e : ∀ j, j ≠ 1 → A' j = A j) (c8 : C' 0 8 = C 0 8 + 1) (c0 : ∀ j, j ≠ 8 → C' 0 j = C 0 j) (c : ∀ i, 1 ≤ i → i < 11 → C' i = C i) : relC A' C' := by
  obtain ⟨⟨a0, a1, a2, a3, a4, a5, a6⟩, ⟨r1, r2, r3, r3', r4, r5, r6⟩, n, v, ⟨d1, d2, d3⟩, s⟩ := h
  have q3 := c 3 (by omega) (by omega)
  have q5 := c 5 (by omega) (by omega)
  have q7 := c 7 (by omega) (by omega)
  have q9 := c 9 (by omega) (by omega)
  have E : ∀ j, j ≠ 1 → A' j = A j := e
  refine ⟨⟨?_, ?_, ?_, ?_, ?_, ?_, ?_⟩, ⟨?_, ?_, ?_, ?_, ?_, ?_, ?_⟩, ?_, ?_, ⟨fun i i0 i1 => ?_, fun i i0 i1 => ?_, fun i i0 i1 => ?_⟩, fun k k0 k1 => ?_⟩
  · rw [E 0 (by omega), q3]; exact a0
  · rw [e1, c8, a1]
  · rw [E 2 (by omega), c0 9 (by omega)]; exact a2
  · rw [E 3 (by omega), c0 2 (by omega)]; exact a3
  · rw [E 4 (by omega), q5]; exact a4
  · rw [E 5 (by omega), q7]; exact a5
  · rw [E 6 (by omega), q9]; exact a6
  · rw [e1]; omega
  · rw [E 2 (by omega), e1]; omega
  · rw [E 3 (by omega)]; exact r3
  · rw [c0 3 (by omega)]; exact r3'
  · rw [E 4 (by omega)]; exact r4
  · rw [E 5 (by omega)]; exact r5
  · rw [E 6 (by omega)]; exact r6
  · rw [c 1 (by omega) (by omega)]
    exact relN_of n (fun j _ _ => E j (by omega)) (fun j _ _ _ => E j (by omega)) (fun j _ _ _ => E j (by omega)) (fun j _ _ => rfl)
  · rw [c 4 (by omega) (by omega), E 0 (by omega)]
    exact inv_of v (fun j _ _ => E j (by omega)) (fun j _ _ => E j (by omega)) (fun j _ _ => rfl)
  · rw [E 4 (by omega)] at i1
    unfold rcd
    rw [E _ (by omega), E _ (by omega), E _ (by omega), E 0 (by omega), c 6 (by omega) (by omega)]
    exact d1 i i0 i1
  · rw [E 5 (by omega)] at i1
    unfold lrn
    rw [E _ (by omega), E _ (by omega), E 0 (by omega), c 8 (by omega) (by omega)]
    exact d2 i i0 i1
  · rw [E 6 (by omega)] at i1
    unfold cns
    rw [E _ (by omega), E _ (by omega), c 10 (by omega) (by omega)]
    exact d3 i i0 i1
  · rw [E 3 (by omega)] at k1
    have eS : ∀ k', 0 ≤ k' → ∀ j, j ≠ 1 → stA A' k' j = stA A k' j := fun k' k0' j hj => by
      unfold stA
      by_cases w1 : 8 ≤ j ∧ j < 18
      · rw [if_pos w1, if_pos w1, E _ (by omega)]
      · rw [if_neg w1, if_neg w1]
        by_cases w2 : (24 ≤ j ∧ j < 76) ∧ 4 ≤ (j - 20) % 7
        · rw [if_pos w2, if_pos w2, E _ (by omega), E _ (by omega)]
        · rw [if_neg w2, if_neg w2, E j hj]
    have eN : stN C' k = stN C k := by
      funext j
      unfold stN
      rw [c0 3 (by omega), c0 2 (by omega), c 2 (by omega) (by omega)]
    obtain ⟨s1, s2, s3, s4, s5⟩ := s k k0 k1
    refine ⟨?_, ?_, ?_, ?_, fun k' k0' k1' => ?_⟩
    · rw [E _ (by omega), E 0 (by omega)]; exact s1
    · rw [eN]
      exact relN_of s2 (fun j _ _ => eS k k0 j (by omega)) (fun j _ _ _ => eS k k0 j (by omega)) (fun j _ _ _ => eS k k0 j (by omega)) (fun j _ _ => rfl)
    · rw [c 4 (by omega) (by omega), E 0 (by omega)]
      exact inv_of s3 (fun j _ _ => eS k k0 j (by omega)) (fun j _ _ => eS k k0 j (by omega)) (fun j _ _ => rfl)
    · rw [eS k k0 17 (by omega), E 17 (by omega)]; exact s4
    · rw [eS k' k0' 17 (by omega), eS k k0 17 (by omega)]; exact s5 k' k0' k1'
