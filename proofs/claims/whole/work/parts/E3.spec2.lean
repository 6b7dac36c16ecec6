/-! the reading comes to an end, goes ahead, and brings at most one order a token -/
def okSp (J j c : Nat) (r : sR) : Prop := r.1 ≠ -1 ∧ r.2.1 ≤ J ∧ (r.1 = 0 → j + c ≤ r.2.1 ∧ r.2.2.length + j ≤ r.2.1)
theorem okSp_sq {J j c c2 : Nat} {r : sR} {k : Nat → sR} (h : okSp J j c r) (hk : ∀ j', j + c ≤ j' → j' ≤ J → okSp J j' c2 (k j')) : okSp J j (c + c2) (sq r k) := by
  obtain ⟨h1, h2, h3⟩ := h
  unfold sq
  by_cases q : r.1 = 0
  · rw [if_pos q]
    obtain ⟨h4, h5⟩ := h3 q
    obtain ⟨k1, k2, k3⟩ := hk r.2.1 h4 h2
    refine ⟨k1, k2, fun z => ?_⟩
    obtain ⟨k4, k5⟩ := k3 z
    refine ⟨by show j + (c + c2) ≤ (k r.2.1).2.1; omega, ?_⟩
    show (r.2.2 ++ (k r.2.1).2.2).length + j ≤ (k r.2.1).2.1
    rw [List.length_append]
    omega
  · rw [if_neg q]
    exact ⟨h1, h2, fun z => absurd z q⟩
theorem okSp_em {J j c : Nat} {r : sR} {e : Int × Int} (h : okSp J (j + 1) c r) : okSp J j (c + 1) (em r e) := by
  obtain ⟨h1, h2, h3⟩ := h
  unfold em
  by_cases q : r.1 = 0
  · rw [if_pos q]
    obtain ⟨h4, h5⟩ := h3 q
    refine ⟨by show (0 : Int) ≠ -1; decide, h2, fun _ => ⟨by show j + (c + 1) ≤ r.2.1; omega, ?_⟩⟩
    show (r.2.2 ++ [e]).length + j ≤ r.2.1
    rw [List.length_append]
    have : [e].length = 1 := rfl
    omega
  · rw [if_neg q]
    exact ⟨h1, h2, fun z => absurd z q⟩
theorem okSp_w {J j c c' : Nat} {r : sR} (h : okSp J j c r) (hc : c' ≤ c) : okSp J j c' r := ⟨h.1, h.2.1, fun z => by have := h.2.2 z; omega⟩
theorem okSp_j {J j i c c' : Nat} {r : sR} (h : okSp J i c r) (hi : j + c' ≤ i + c) (hj : j ≤ i) : okSp J j c' r := ⟨h.1, h.2.1, fun z => by have := h.2.2 z; omega⟩
theorem okSp_bad {J j c i : Nat} {e : Int} {l : List (Int × Int)} (he : e ≠ -1 ∧ e ≠ 0) (hi : i ≤ J) : okSp J j c (e, i, l) := ⟨he.1, hi, fun z => absurd z he.2⟩
def cM (mo : Nat) : Nat := if mo = 1 ∨ mo = 3 ∨ mo = 6 ∨ mo = 8 then 0 else 1
theorem sp_ok {K V : Nat → Int} {κ : Int} {J : Nat} (hJ : ∀ j, j ≤ J → (K j = 73 ↔ j = J)) : ∀ (f mo dp j : Nat), j ≤ J → mo ≤ 16 → 16 * (J - j) + rkM mo ≤ f → okSp J j (cM mo) (sp K V κ f mo dp j) := by
  intro f
  induction f with
  | zero =>
    intro mo dp j hj hm hf
    exfalso
    have : 1 ≤ rkM mo := by unfold rkM; split; omega; split; omega; split; omega; split; omega; split <;> omega
    omega
  | succ f ih =>
    intro mo dp j hj hm hf
    have lt : ∀ k : Int, K j = k → k ≠ 73 → j + 1 ≤ J := fun k e hk => by
      have : j ≠ J := fun q => hk (by rw [← e]; exact (hJ j hj).mpr q)
      omega
    have lt2 : ∀ k : Int, j + 1 ≤ J → K (j + 1) = k → k ≠ 73 → j + 2 ≤ J := fun k h1 e hk => by
      have : j + 1 ≠ J := fun q => hk (by rw [← e]; exact (hJ (j + 1) h1).mpr q)
      omega
    have r0 : rkM 0 = 6 := rfl
    have r1 : rkM 1 = 1 := rfl
    have r2 : rkM 2 = 5 := rfl
    have r3 : rkM 3 = 1 := rfl
    have r4 : rkM 4 = 4 := rfl
    have r5 : rkM 5 = 3 := rfl
    have r6 : rkM 6 = 1 := rfl
    have r7 : rkM 7 = 2 := rfl
    have r8 : rkM 8 = 1 := rfl
    have r9 : rkM 9 = 1 := rfl
    have go := fun mo' dp' j' h1 h2 h3 => ih mo' dp' j' h1 h2 h3
    unfold sp
    by_cases m0 : mo = 0
    · subst m0
      rw [if_pos rfl]
      exact okSp_sq (c := 1) (c2 := 0) (go 2 dp j hj (by omega) (by omega)) (fun j' h1 h2 => go 1 dp j' h2 (by omega) (by omega))
    rw [if_neg m0]
    by_cases m1 : mo = 1
    · subst m1
      rw [if_pos rfl]
      by_cases q : K j = 21
      · rw [if_pos q]
        have l1 := lt 21 q (by decide)
        exact okSp_w (c := 2) (okSp_sq (c := 2) (c2 := 0) (okSp_em (c := 1) (go 2 dp (j + 1) l1 (by omega) (by omega))) (fun j' h1 h2 => go 1 dp j' h2 (by omega) (by omega))) (by decide)
      · rw [if_neg q]; exact ⟨by show (0 : Int) ≠ -1; decide, hj, fun _ => ⟨Nat.le_refl _, by show 0 + j ≤ j; omega⟩⟩
    rw [if_neg m1]
    by_cases m2 : mo = 2
    · subst m2
      rw [if_pos rfl]
      exact okSp_sq (c := 1) (c2 := 0) (go 4 dp j hj (by omega) (by omega)) (fun j' h1 h2 => go 3 dp j' h2 (by omega) (by omega))
    rw [if_neg m2]
    by_cases m3 : mo = 3
    · subst m3
      rw [if_pos rfl]
      by_cases q : K j = 22
      · rw [if_pos q]
        have l1 := lt 22 q (by decide)
        exact okSp_w (c := 2) (okSp_sq (c := 2) (c2 := 0) (okSp_em (c := 1) (go 4 dp (j + 1) l1 (by omega) (by omega))) (fun j' h1 h2 => go 3 dp j' h2 (by omega) (by omega))) (by decide)
      · rw [if_neg q]; exact ⟨by show (0 : Int) ≠ -1; decide, hj, fun _ => ⟨Nat.le_refl _, by show 0 + j ≤ j; omega⟩⟩
    rw [if_neg m3]
    by_cases m4 : mo = 4
    · subst m4
      rw [if_pos rfl]
      show okSp J j 1 _
      by_cases q : K j = 23
      · rw [if_pos q]
        have l1 := lt 23 q (by decide)
        by_cases p8 : 8 ≤ dp
        · rw [if_pos p8]; exact okSp_bad (by decide) hj
        · rw [if_neg p8]
          exact okSp_w (c := 2) (okSp_em (c := 1) (go 4 (dp + 1) (j + 1) l1 (by omega) (by omega))) (by decide)
      rw [if_neg q]
      by_cases q2 : K j = 25
      · rw [if_pos q2]
        have l1 := lt 25 q2 (by decide)
        by_cases p8 : 8 ≤ dp
        · rw [if_pos p8]; exact okSp_bad (by decide) hj
        · rw [if_neg p8]
          by_cases q3 : K (j + 1) = 40
          · rw [if_pos q3]
            have l2 := lt2 40 l1 q3 (by decide)
            exact okSp_j (i := j + 2) (c := 2) (okSp_sq (c := 1) (c2 := 1) (go 0 (dp + 1) (j + 2) l2 (by omega) (by omega)) (fun j' h1 h2 => go 11 (dp + 1) j' h2 (by omega) (by show 16 * (J - j') + 1 ≤ f; omega))) (by omega) (by omega)
          · rw [if_neg q3]; exact okSp_bad (by decide) l1
      rw [if_neg q2]
      by_cases q4 : K j = 24
      · rw [if_pos q4]
        have l1 := lt 24 q4 (by decide)
        by_cases k4 : 4 ≤ κ
        · rw [if_pos k4]; exact okSp_bad (by decide) hj
        · rw [if_neg k4]
          by_cases q5 : K (j + 1) = 72
          · rw [if_pos q5]
            have l2 := lt2 72 l1 q5 (by decide)
            by_cases v7 : 7 < V (j + 1)
            · rw [if_pos v7]; exact okSp_bad (by decide) l1
            · rw [if_neg v7]
              exact ⟨by show (0 : Int) ≠ -1; decide, l2, fun _ => ⟨by show j + 1 ≤ j + 2; omega, by show 1 + j ≤ j + 2; omega⟩⟩
          · rw [if_neg q5]; exact okSp_bad (by decide) l1
      rw [if_neg q4]
      refine okSp_w (c := 1 + 0) (okSp_sq (c := 1) (c2 := 0) (go 5 dp j hj (by omega) (by omega)) (fun j' h1 h2 => ?_)) (by decide)
      by_cases q5 : cmpK (K j')
      · rw [if_pos q5]
        have l1 : j' + 1 ≤ J := by
          have : j' ≠ J := fun e => by have := (hJ j' h2).mpr e; omega
          omega
        exact okSp_w (c := 2) (okSp_em (c := 1) (go 5 dp (j' + 1) l1 (by omega) (by omega))) (by decide)
      · rw [if_neg q5]; exact okSp_bad (by decide) h2
    rw [if_neg m4]
    by_cases m5 : mo = 5
    · subst m5
      rw [if_pos rfl]
      exact okSp_sq (c := 1) (c2 := 0) (go 7 dp j hj (by omega) (by omega)) (fun j' h1 h2 => go 6 dp j' h2 (by omega) (by omega))
    rw [if_neg m5]
    by_cases m6 : mo = 6
    · subst m6
      rw [if_pos rfl]
      by_cases q : K j = 43 ∨ K j = 45
      · rw [if_pos q]
        have l1 := lt (K j) rfl (by omega)
        exact okSp_w (c := 2) (okSp_sq (c := 2) (c2 := 0) (okSp_em (c := 1) (go 7 dp (j + 1) l1 (by omega) (by omega))) (fun j' h1 h2 => go 6 dp j' h2 (by omega) (by omega))) (by decide)
      · rw [if_neg q]; exact ⟨by show (0 : Int) ≠ -1; decide, hj, fun _ => ⟨Nat.le_refl _, by show 0 + j ≤ j; omega⟩⟩
    rw [if_neg m6]
    by_cases m7 : mo = 7
    · subst m7
      rw [if_pos rfl]
      exact okSp_sq (c := 1) (c2 := 0) (go 9 dp j hj (by omega) (by omega)) (fun j' h1 h2 => go 8 dp j' h2 (by omega) (by omega))
    rw [if_neg m7]
    by_cases m8 : mo = 8
    · subst m8
      rw [if_pos rfl]
      by_cases q : K j = 42 ∨ K j = 47
      · rw [if_pos q]
        have l1 := lt (K j) rfl (by omega)
        exact okSp_w (c := 2) (okSp_sq (c := 2) (c2 := 0) (okSp_em (c := 1) (go 9 dp (j + 1) l1 (by omega) (by omega))) (fun j' h1 h2 => go 8 dp j' h2 (by omega) (by omega))) (by decide)
      · rw [if_neg q]; exact ⟨by show (0 : Int) ≠ -1; decide, hj, fun _ => ⟨Nat.le_refl _, by show 0 + j ≤ j; omega⟩⟩
    rw [if_neg m8]
    by_cases m9 : mo = 9
    · subst m9
      rw [if_pos rfl]
      show okSp J j 1 _
      by_cases q : K j = 40
      · rw [if_pos q]
        have l1 := lt 40 q (by decide)
        by_cases p8 : 8 ≤ dp
        · rw [if_pos p8]; exact okSp_bad (by decide) hj
        · rw [if_neg p8]
          refine okSp_j (i := j + 1) (c := 1 + 0) (okSp_sq (c := 1) (c2 := 0) (go 5 (dp + 1) (j + 1) l1 (by omega) (by omega)) (fun j' h1 h2 => ?_)) (by omega) (by omega)
          by_cases q2 : K j' = 41
          · rw [if_pos q2]
            have l2 : j' + 1 ≤ J := by
              have : j' ≠ J := fun e => by have := (hJ j' h2).mpr e; omega
              omega
            exact ⟨by show (0 : Int) ≠ -1; decide, l2, fun _ => ⟨by show j' + 0 ≤ j' + 1; omega, by show 0 + j' ≤ j' + 1; omega⟩⟩
          · rw [if_neg q2]; exact okSp_bad (by decide) h2
      rw [if_neg q]
      by_cases q2 : K j = 45
      · rw [if_pos q2]
        have l1 := lt 45 q2 (by decide)
        by_cases p8 : 8 ≤ dp
        · rw [if_pos p8]; exact okSp_bad (by decide) hj
        · rw [if_neg p8]
          exact okSp_w (c := 2) (okSp_em (c := 1) (go 9 (dp + 1) (j + 1) l1 (by omega) (by omega))) (by decide)
      rw [if_neg q2]
      by_cases q3 : 11 ≤ K j ∧ K j ≤ 18
      · rw [if_pos q3]
        have l1 := lt (K j) rfl (by omega)
        by_cases q4 : ofL κ (K j - 11)
        · rw [if_pos q4]; exact ⟨by show (0 : Int) ≠ -1; decide, l1, fun _ => ⟨Nat.le_refl _, by show 1 + j ≤ j + 1; omega⟩⟩
        · rw [if_neg q4]; exact okSp_bad (by decide) hj
      rw [if_neg q3]
      by_cases q4 : K j = 72
      · rw [if_pos q4]
        have l1 := lt 72 q4 (by decide)
        by_cases q5 : 9999 < V j
        · rw [if_pos q5]; exact okSp_bad (by decide) hj
        · rw [if_neg q5]; exact ⟨by show (0 : Int) ≠ -1; decide, l1, fun _ => ⟨Nat.le_refl _, by show 1 + j ≤ j + 1; omega⟩⟩
      · rw [if_neg q4]; exact okSp_bad (by decide) hj
    rw [if_neg m9]
    have c1 : cM mo = 1 := by unfold cM; exact if_neg (by omega)
    rw [c1]
    have rm : rkM mo = 1 := by
      unfold rkM
      rw [if_neg m0, if_neg m2, if_neg m4, if_neg m5, if_neg m7]
    by_cases q : K j = 44
    · rw [if_pos q]
      have l1 := lt 44 q (by decide)
      by_cases p6 : 16 ≤ mo
      · rw [if_pos p6]; exact okSp_bad (by decide) hj
      · rw [if_neg p6]
        have rm' : rkM (mo + 1) = 1 := by
          unfold rkM
          rw [if_neg (by omega), if_neg (by omega), if_neg (by omega), if_neg (by omega), if_neg (by omega)]
        have c1' : cM (mo + 1) = 1 := by unfold cM; exact if_neg (by omega)
        exact okSp_j (i := j + 1) (c := 2) (okSp_sq (c := 1) (c2 := 1) (go 0 dp (j + 1) l1 (by omega) (by omega)) (fun j' h1 h2 => by
          have := go (mo + 1) dp j' h2 (by omega) (by omega)
          rw [c1'] at this
          exact this)) (by omega) (by omega)
    · rw [if_neg q]
      by_cases q2 : K j = 41
      · rw [if_pos q2]
        have l1 := lt 41 q2 (by decide)
        exact ⟨by show (0 : Int) ≠ -1; decide, l1, fun _ => ⟨Nat.le_refl _, by show 1 + j ≤ j + 1; omega⟩⟩
      · rw [if_neg q2]; exact okSp_bad (by decide) hj
