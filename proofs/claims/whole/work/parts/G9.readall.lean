/-! a text: what is read stays in order; the class's readAll -/
section ReadA
variable {K V : Nat → Int} {R : tR} {l : List (Int × Int)} {C : List tC} {j J fu : Nat} {κ : Int}
theorem okSp_sq0 {J j : Nat} {r : sR} {k : Nat → sR} (h : okSp J j 1 r) (hk : ∀ j', j + 1 ≤ j' → j' ≤ J → okSp J j' 0 (k j')) : okSp J j 1 (sq r k) := okSp_sq (c := 1) (c2 := 0) h hk
theorem lw_ok (hJ : ∀ j, j ≤ J → (K j = 73 ↔ j = J)) (hj : j ≤ J) (hf : 16 * J + 6 ≤ fu) {s0 : Int} : okSp J j 1 (lwS K V κ fu s0 j) := by
  have r0 : rkM 0 = 6 := rfl
  have r5 : rkM 5 = 3 := rfl
  unfold lwS
  by_cases h : s0 = 0
  · rw [if_pos h]
    exact sp_ok hJ fu 5 0 j hj (by omega) (by omega)
  · rw [if_neg h]
    refine okSp_sq0 (sp_ok hJ fu 0 0 j hj (by omega) (by omega)) (fun j' h1 h2 => ?_)
    show okSp J j' 0 (if K j' = 20 then em (sp K V κ fu 0 0 (j' + 1)) (20, 0) else (0, j', []))
    by_cases q : K j' = 20
    · rw [if_pos q]
      have l1 : j' + 1 ≤ J := by
        have : j' ≠ J := fun e => by have := (hJ j' h2).mpr e; omega
        omega
      exact okSp_w (c := 2) (okSp_em (c := 1) (sp_ok hJ fu 0 0 (j' + 1) l1 (by omega) (by omega))) (by decide)
    · rw [if_neg q]
      exact ⟨by show (0 : Int) ≠ -1; decide, h2, fun _ => ⟨Nat.le_refl _, by show 0 + j' ≤ j'; omega⟩⟩
/-- what a body brings -/
def bdO (J : Nat) (R : tR) (l : List (Int × Int)) (w : Int) (j : Nat) (b : bR) : Prop := b.1 ≠ -1 ∧ b.2.1 ≤ J ∧ (b.1 = 0 → j ≤ b.2.1 ∧ ((5 ≤ w ∧ b.2.2.1 = R ∧ b.2.2.2.1 = l ∧ (w = 11 → 1 ≤ b.2.2.2.2.1 ∧ b.2.2.2.2.1 ≤ 60)) ∨ (w ≤ 4 ∧ ∃ κ cs, (0 ≤ κ ∧ κ < 8) ∧ R κ = none ∧ (w = 0 → κ < 4) ∧ (w ≠ 0 → κ = w + 3) ∧ b.2.2.1 = updR R κ ((l.length : Int), ((l ++ cs).length : Int)) ∧ b.2.2.2.1 = l ++ cs ∧ b.2.2.2.2 = ((l.length : Int), ((l ++ cs).length : Int), κ) ∧ (∀ c ∈ cs, okJ κ c) ∧ tyl cs [] = some [tyB κ] ∧ cs.length + j ≤ b.2.1)))
theorem bdO_no {w e : Int} {i : Nat} (he : e ≠ -1 ∧ e ≠ 0) (hi : i ≤ J) : bdO J R l w j (no e i R l) := ⟨he.1, hi, fun z => absurd z he.2⟩
theorem bdO_lw (hJ : ∀ j, j ≤ J → (K j = 73 ↔ j = J)) (hV : ∀ j, 0 ≤ V j ∧ V j ≤ 10000) (hf : 16 * J + 6 ≤ fu) {w s0 : Int} {i : Nat} (hκ : 0 ≤ κ ∧ κ < 8) (hR : R κ = none) (hw : w ≤ 4) (h0 : w = 0 → κ < 4) (h1 : w ≠ 0 → κ = w + 3) (hs : s0 ≠ 0 ↔ (κ < 4 ∨ κ = 6)) (hi : i ≤ J) (hj : j ≤ i) : bdO J R l w j (lwB K V fu R l κ s0 i) := by
  have ok := lw_ok (V := V) (κ := κ) (s0 := s0) hJ hi hf
  have ty := lw_ty (K := K) (f := fu) (j := i) hκ hV hs
  unfold lwB
  by_cases h : (lwS K V κ fu s0 i).1 = 0
  · rw [if_pos h]
    obtain ⟨t1, t2⟩ := ty h
    have o3 := ok.2.2 h
    exact ⟨by show (0 : Int) ≠ -1; decide, ok.2.1, fun _ => ⟨by show j ≤ (lwS K V κ fu s0 i).2.1; omega, Or.inr ⟨hw, κ, _, hκ, hR, h0, h1, rfl, rfl, rfl, t1, t2, by show (lwS K V κ fu s0 i).2.2.length + j ≤ (lwS K V κ fu s0 i).2.1; omega⟩⟩⟩
  · rw [if_neg h]
    exact ⟨ok.1, ok.2.1, fun z => absurd z h⟩
theorem bd_ok (hJ : ∀ j, j ≤ J → (K j = 73 ↔ j = J)) (hV : ∀ j, 0 ≤ V j ∧ V j ≤ 10000) (hf : 16 * J + 6 ≤ fu) {w : Int} (hw : 0 ≤ w ∧ w ≤ 11) (hR : 1 ≤ w ∧ w ≤ 4 → R (w + 3) = none) (hj : j ≤ J) : bdO J R l w j (bdS K V fu R l w j) := by
  have nx : ∀ i, i ≤ J → K i ≠ 73 → i + 1 ≤ J := fun i h1 h2 => by
    have : i ≠ J := fun e => h2 ((hJ i h1).mpr e)
    omega
  have fg : ∀ (lo hi : Int) (i : Nat), i ≤ J → (fgS K V lo hi i ≠ 0 → bdO J R l w j (no (fgS K V lo hi i) i R l)) ∧ (¬ fgS K V lo hi i ≠ 0 → i + 1 ≤ J ∧ (lo ≤ V i ∧ V i ≤ hi)) := fun lo hi i h => by
    rcases fgS_r (K := K) (V := V) (lo := lo) (hi := hi) (j := i) with q | q | q
    · rw [q.1]; exact ⟨fun z => absurd rfl z, fun _ => ⟨nx i h (by omega), q.2.2⟩⟩
    · rw [q.1]; exact ⟨fun _ => bdO_no (by decide) h, fun z => absurd (by decide) z⟩
    · rw [q.1]; exact ⟨fun _ => bdO_no (by decide) h, fun z => absurd (by decide) z⟩
  have fin : ∀ (i : Nat) (a : Int × Int × Int), 5 ≤ w → j ≤ i → i ≤ J → (w = 11 → 1 ≤ a.1 ∧ a.1 ≤ 60) → bdO J R l w j (0, i, R, l, a) := fun i a h5 h1 h2 h3 => ⟨by show (0 : Int) ≠ -1; decide, h2, fun _ => ⟨h1, Or.inl ⟨h5, rfl, rfl, h3⟩⟩⟩
  unfold bdS
  by_cases w0 : w = 0
  · rw [if_pos w0]
    by_cases q : K j = 72 ∧ V j < 4 ∧ R (V j) ≠ none
    · rw [if_pos q]; exact bdO_no (by decide) hj
    rw [if_neg q]
    by_cases q1 : fgS K V 0 3 j ≠ 0
    · rw [if_pos q1]; exact (fg 0 3 j hj).1 q1
    rw [if_neg q1]
    obtain ⟨l1, v1⟩ := (fg 0 3 j hj).2 q1
    have k72 : K j = 72 := by rcases fgS_r (K := K) (V := V) (lo := 0) (hi := 3) (j := j) with z | z | z <;> first | exact z.2.1 | (exfalso; omega)
    by_cases q2 : K (j + 1) ≠ 58
    · rw [if_pos q2]; exact bdO_no (by decide) l1
    rw [if_neg q2]
    have rn : R (V j) = none := by
      cases e : R (V j) with
      | none => rfl
      | some z => exact absurd ⟨k72, by omega, by rw [e]; exact fun y => by cases y⟩ q
    exact bdO_lw hJ hV hf (by omega) rn (by omega) (fun _ => by omega) (fun z => absurd w0 z) ⟨fun _ => Or.inl (by omega), fun _ => by decide⟩ (nx (j + 1) l1 (by omega)) (by omega)
  rw [if_neg w0]
  by_cases w4 : w ≤ 4
  · rw [if_pos w4]
    refine bdO_lw hJ hV hf (by omega) (hR (by omega)) w4 (fun z => absurd z w0) (fun _ => rfl) ?_ hj (Nat.le_refl _)
    by_cases w3 : w = 3
    · rw [if_pos w3]; exact ⟨fun _ => Or.inr (by omega), fun _ => by decide⟩
    · rw [if_neg w3]; exact ⟨fun z => absurd rfl z, fun z => by omega⟩
  rw [if_neg w4]
  by_cases w5 : w = 5
  · rw [if_pos w5]
    by_cases q1 : fgS K V 0 5 j ≠ 0
    · rw [if_pos q1]; exact (fg 0 5 j hj).1 q1
    rw [if_neg q1]
    have l1 := ((fg 0 5 j hj).2 q1).1
    by_cases q2 : K (j + 1) ≠ 16
    · rw [if_pos q2]; exact bdO_no (by decide) l1
    rw [if_neg q2]
    have l2 := nx (j + 1) l1 (by omega)
    by_cases q3 : fgS K V 1 9 (j + 2) ≠ 0
    · rw [if_pos q3]; exact (fg 1 9 (j + 2) l2).1 q3
    rw [if_neg q3]
    have l3 := ((fg 1 9 (j + 2) l2).2 q3).1
    by_cases q4 : K (j + 3) ≠ 19
    · rw [if_pos q4]; exact bdO_no (by decide) l3
    rw [if_neg q4]
    have l4 := nx (j + 3) l3 (by omega)
    by_cases q5 : fgS K V 1 9 (j + 4) ≠ 0
    · rw [if_pos q5]; exact (fg 1 9 (j + 4) l4).1 q5
    rw [if_neg q5]
    exact fin _ _ (by omega) (by omega) ((fg 1 9 (j + 4) l4).2 q5).1 (fun z => absurd z (by omega))
  rw [if_neg w5]
  by_cases w6 : w = 6 ∨ w = 8
  · rw [if_pos w6]
    by_cases q1 : fgS K V 0 7 j ≠ 0
    · rw [if_pos q1]; exact (fg 0 7 j hj).1 q1
    rw [if_neg q1]
    exact fin _ _ (by omega) (by omega) ((fg 0 7 j hj).2 q1).1 (fun z => absurd z (by omega))
  rw [if_neg w6]
  by_cases w7 : w = 7 ∨ w = 10
  · rw [if_pos w7]
    exact fin _ _ (by omega) (Nat.le_refl _) hj (fun z => absurd z (by omega))
  rw [if_neg w7]
  by_cases w9 : w = 9
  · rw [if_pos w9]
    by_cases q1 : fgS K V 0 3 j ≠ 0
    · rw [if_pos q1]; exact (fg 0 3 j hj).1 q1
    rw [if_neg q1]
    have l1 := ((fg 0 3 j hj).2 q1).1
    by_cases q2 : K (j + 1) ≠ 13
    · rw [if_pos q2]; exact bdO_no (by decide) l1
    rw [if_neg q2]
    have l2 := nx (j + 1) l1 (by omega)
    by_cases q3 : fgS K V 0 9 (j + 2) ≠ 0
    · rw [if_pos q3]; exact (fg 0 9 (j + 2) l2).1 q3
    rw [if_neg q3]
    exact fin _ _ (by omega) (by omega) ((fg 0 9 (j + 2) l2).2 q3).1 (fun z => absurd z (by omega))
  rw [if_neg w9]
  by_cases q1 : fgS K V 1 60 j ≠ 0
  · rw [if_pos q1]; exact (fg 1 60 j hj).1 q1
  rw [if_neg q1]
  exact fin _ _ (by omega) (by omega) ((fg 1 60 j hj).2 q1).1 (fun _ => ((fg 1 60 j hj).2 q1).2)
end ReadA
