/-! one hour as a function, on both sides; the relation and the invariant are kept -/
abbrev rEnd (A : Int → Int) : Prop := A 13 ≠ -1 ∧ A 14 + 1 = A (20 + 7 * A 13 + 2) + A 16
abbrev cEnd (K N : Int → Int) : Prop := N 5 ≠ -1 ∧ N 6 + 1 = K (4 * N 5 + 2) + N 8
def rMid (ρ : Option xTx) (A : Int → Int) : Int → Int :=
  if rEnd A then (if rFd ρ (rHeard A) (A 13) then rLeave (rBook (rHeard A) (A 13) 1000 (rSe ρ (rHeard A) (A 13))) 3 (rSe ρ (rHeard A) (A 13)) else rLeave (rBook (rHeard A) (A 13) 0 0) 2 0)
  else if A 13 = -1 then A else rHeard A
def cMid (ρ : Option xTx) (K N : Int → Int) : Int → Int :=
  if cEnd K N then (if cFd ρ (cHeard N) K (N 5) then cClose (cHeard N) (N 5) 3 1 (cSe ρ (cHeard N) K (N 5)) else cClose (cHeard N) (N 5) 2 0 0)
  else if N 5 = -1 then N else cHeard N
def rHour (ρ : Option xTx) (A : Int → Int) : Int → Int := rTurn ρ (rDraw (rMid ρ A)) ((A 12).tmod 10)
def cHour (ρ : Option xTx) (K N : Int → Int) : Int → Int := cTurn ρ (cDraw (cMid ρ K N)) ((N 4).tmod 10)
theorem end_iff {A N K : Int → Int} {m : Int} (h : inv A K m) (hr : relN A N) : rEnd A ↔ cEnd K N := by
  have e5 : A 13 = N 5 := rel_at hr (by omega) rfl
  have e6 : A 14 = N 6 := rel_at hr (by omega) rfl
  have e8 : A 16 = N 8 := rel_at hr (by omega) rfl
  unfold rEnd cEnd
  rw [e5, e6, e8]
  by_cases hc : N 5 = -1
  · exact ⟨fun z => absurd hc z.1, fun z => absurd hc z.1⟩
  · have hco := h.2.2.2.2.1
    rcases hco with ⟨hc1, _⟩ | ⟨c1, _, _⟩
    · exact absurd (e5.symm.trans hc1) hc
    · rw [e5] at c1
      have := (h.2.2.2.1 (N 5) c1.1 c1.2).2 2 (by omega) (by omega)
      rw [this]
theorem mid_rel {A N K : Int → Int} {m : Int} (h : inv A K m) (hr : relN A N) (ρ : Option xTx) : relN (rMid ρ A) (cMid ρ K N) ∧ inv (rMid ρ A) K m ∧ rMid ρ A 11 = A 11 ∧ rMid ρ A 12 = A 12 ∧ cMid ρ K N 4 = N 4 := by
  have e5 : A 13 = N 5 := rel_at hr (by omega) rfl
  have e4 : A 12 = N 4 := rel_at hr (by omega) rfl
  have h17 := inv_17 h
  have e9 : A 17 = N 9 := rel_at hr (by omega) rfl
  have e3 : A 11 = N 3 := rel_at hr (by omega) rfl
  have h11 := h.2.1.2.2.2.1
  have hm := h.1
  suffices H : relN (rMid ρ A) (cMid ρ K N) ∧ inv (rMid ρ A) K m ∧ rMid ρ A 11 = A 11 ∧ rMid ρ A 12 = A 12 by
    refine ⟨H.1, H.2.1, H.2.2.1, H.2.2.2, ?_⟩
    rw [← e4, ← H.2.2.2]
    exact (rel_at H.1 (i := 4) (j := 12) (by omega) rfl).symm
  unfold rMid cMid
  by_cases he : rEnd A
  · rw [if_pos he, if_pos ((end_iff h hr).mp he)]
    have hne : A 13 ≠ -1 := he.1
    have hco := h.2.2.2.2.1
    rcases hco with ⟨hc1, _⟩ | ⟨c1, c2, c3⟩
    · exact absurd hc1 hne
    have ht := h.2.2.2.1 (A 13) c1.1 c1.2
    have hrh := rel_heard hr
    have hkh := relK_heard c1.1 ht.2
    have r13 : rHeard A 13 = A 13 := rHeard_ne (by decide) (by decide)
    have n9 : cHeard N 9 = N 9 := rfl
    have n3 : cHeard N 3 = N 3 := rfl
    have lo : ∀ w s w2 j, j < 13 → rLeave (rBook (rHeard A) (A 13) w s) w2 s j = A j := fun w s w2 j hj => by
      have r17 : rHeard A 17 = A 17 := rHeard_ne (by decide) (by decide)
      rw [rLeave_lo (by rw [rBook_lo (by omega) (by decide) (by decide)]; omega) (Or.inl hj), rBook_lo (by omega) (by omega) (by omega), rHeard_ne (by omega) (by omega)]
    have hiff := rFd_iff hrh hkh ρ
    have hse := rSe_eq hrh hkh ρ
    rw [← e5]
    by_cases hf : rFd ρ (rHeard A) (A 13)
    · rw [if_pos hf, if_pos (hiff.mp hf), ← hse]
      have hs : 0 ≤ rSe ρ (rHeard A) (A 13) ∧ rSe ρ (rHeard A) (A 13) ≤ 999 := by
        have k1 := ht.1.2.1
        have q1 := hkh 1 (by omega) (by omega)
        have h14 := h.2.1.2.2.2.2.2.1
        have r14 : rHeard A 14 = A 14 + 1 := rfl
        exact sent_r ρ (by show 0 ≤ rHeard A (20 + 7 * A 13 + 1) ∧ rHeard A (20 + 7 * A 13 + 1) ≤ 9; omega) (by show 0 ≤ rHeard A 14 ∧ rHeard A 14 ≤ 100; omega)
      exact ⟨rel_close (gb := 1) hrh (by omega) r13 (by omega) (by omega) (Or.inr rfl) hs, inv_close h hne (Or.inr rfl) hs (fun z => absurd z (by decide)), lo _ _ _ _ (by decide), lo _ _ _ _ (by decide)⟩
    · rw [if_neg hf, if_neg (fun z => hf (hiff.mpr z))]
      exact ⟨rel_close (gb := 0) hrh (by omega) r13 (by omega) (by omega) (Or.inl rfl) (by omega), inv_close h hne (Or.inl rfl) (by omega) (fun _ => rfl), lo _ _ _ _ (by decide), lo _ _ _ _ (by decide)⟩
  · rw [if_neg he, if_neg (fun z => he ((end_iff h hr).mpr z))]
    by_cases hc : A 13 = -1
    · rw [if_pos hc, if_pos (e5.symm.trans hc)]
      exact ⟨hr, h, rfl, rfl⟩
    · rw [if_neg hc, if_neg (fun z => hc (e5.trans z))]
      have hco := h.2.2.2.2.1
      rcases hco with ⟨hc1, _⟩ | ⟨c1, c2, c3⟩
      · exact absurd hc1 hc
      have ht := (h.2.2.2.1 (A 13) c1.1 c1.2).2 2 (by omega) (by omega)
      have hl : A 14 + 1 < K (4 * A 13 + 2) + A 16 := by
        by_cases hl : A 14 + 1 = K (4 * A 13 + 2) + A 16
        · exact absurd ⟨hc, by rw [ht]; exact hl⟩ he
        · omega
      exact ⟨rel_heard hr, inv_heard h hc hl, rHeard_ne (by decide) (by decide), rHeard_ne (by decide) (by decide)⟩
theorem hour_rel {A N K : Int → Int} {m : Int} (h : inv A K m) (hr : relN A N) {ρ : Option xTx} (hR : okR ρ) (h11 : A 11 < 9999) : relN (rHour ρ A) (cHour ρ K N) ∧ inv (rHour ρ A) K m := by
  obtain ⟨m1, m2, m3, m4, m5⟩ := mid_rel h hr ρ
  have e4 : A 12 = N 4 := rel_at hr (by omega) rfl
  have h12 := h.2.1.2.2.2.2.1
  unfold rHour cHour
  rw [← e4]
  have hx : 0 ≤ (A 12).tmod 10 ∧ (A 12).tmod 10 ≤ 9 := by rw [Int.tmod_eq_emod_of_nonneg h12.1]; omega
  exact ⟨rel_turn (rel_draw m1) ρ _, inv_turn m2 (by omega) hR hx⟩
