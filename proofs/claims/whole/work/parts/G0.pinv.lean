/-! the machine's pile is never long -/
def rkT : List Int → Int
  | [] => 0
  | o :: _ => if isOp o then 0 else rkO o
def lbO (o : Int) : Int := if o = 41 then 5 else if isOp o then 9 else rkO o
def pok : List Int → Prop
  | [] => True
  | o :: p => pok p ∧ okO o ∧ rkT p < lbO o
def n41 : List Int → Nat
  | [] => 0
  | o :: p => (if o = 41 then 1 else 0) + n41 p
theorem rkO_r {o : Int} (h : okO o) : 0 ≤ rkO o ∧ rkO o ≤ 8 ∧ (o < 40 → 1 ≤ rkO o) := by
  unfold rkO
  split
  · omega
  split
  · omega
  split
  · omega
  split
  · omega
  split <;> omega
theorem rkT_r {p : List Int} (h : pok p) : 0 ≤ rkT p ∧ rkT p ≤ 8 := by
  cases p with
  | nil => exact ⟨Int.le_refl _, by decide⟩
  | cons o r =>
    have := rkO_r h.2.1
    show 0 ≤ (if isOp o then 0 else rkO o) ∧ (if isOp o then 0 else rkO o) ≤ 8
    split <;> omega
theorem pok_len : ∀ {p : List Int}, pok p → (p.length : Int) ≤ 9 * (ops p : Int) + rkT p
  | [], _ => by decide
  | o :: p, h => by
    have ih := pok_len h.1
    have h2 := h.2.2
    have e : (o :: p).length = p.length + 1 := rfl
    have er : rkT (o :: p) = if isOp o then 0 else rkO o := rfl
    unfold lbO at h2
    by_cases q : isOp o
    · rw [ops_yes q, er, if_pos q, e]
      split at h2 <;> omega
    · rw [ops_no q, er, if_neg q, e]
      rw [if_neg (by omega), if_neg q] at h2
      omega
theorem pok_160 {p : List Int} (h : pok p) (h8 : ops p ≤ 8) : p.length ≤ 80 := by
  have := pok_len h
  have := rkT_r h
  omega
theorem pok_mem : ∀ {p : List Int}, pok p → ∀ o ∈ p, okO o
  | [], _, o, h => by cases h
  | q :: p, hp, o, h => by
    rcases List.mem_cons.mp h with e | e
    · subst e; exact hp.2.1
    · exact pok_mem hp.1 o e
theorem stl_in {m : Int} (hm : 1 ≤ m) : ∀ {p : List Int} {l : List (Int × Int)}, pok p → pok (stl m p l).1 ∧ ltT m (stl m p l).1 ∧ ops (stl m p l).1 ≤ ops p ∧ n41 (stl m p l).1 = n41 p ∧ (stl m p l).2.length + pw (stl m p l).1 ≤ l.length + pw p
  | [], l, _ => ⟨trivial, trivial, Nat.le_refl _, rfl, Nat.le_refl _⟩
  | o :: p, l, h => by
    by_cases q : m ≤ rkO o
    · rw [stl_go q]
      obtain ⟨i1, i2, i3, i4, i5⟩ := stl_in hm (p := p) (l := if o = 16 then l else l ++ [(enO o, 0)]) h.1
      have n40 : o ≠ 40 := fun e => by subst e; exact absurd q (by have : rkO 40 = 0 := by decide
                                                                   omega)
      have n41' : o ≠ 41 := fun e => by subst e; exact absurd q (by have : rkO 41 = 0 := by decide
                                                                    omega)
      refine ⟨i1, i2, ?_, ?_, ?_⟩
      · have : ops p ≤ ops (o :: p) := by
          show ops p ≤ (if isOp o then 1 else 0) + ops p
          omega
        omega
      · rw [i4]
        show n41 p = (if o = 41 then 1 else 0) + n41 p
        rw [if_neg n41', Nat.zero_add]
      · refine Nat.le_trans i5 ?_
        by_cases e : o = 16
        · rw [if_pos e]
          have := (pw_cons o p).1
          omega
        · rw [if_neg e, pw_1 e n40, List.length_append]
          show l.length + 1 + pw p ≤ _
          omega
    · rw [stl_no q]
      exact ⟨h, by show rkO o < m; omega, Nat.le_refl _, rfl, Nat.le_refl _⟩
/-- what holds of the machine's state wherever it stands -/
def inM (J j : Nat) (p c : List Int) (l : List (Int × Int)) : Prop := j ≤ J ∧ pok p ∧ ops p ≤ 8 ∧ c.length = n41 p ∧ l.length + pw p ≤ j ∧ ∀ x ∈ c, 1 ≤ x ∧ x ≤ 6
theorem n41_ops : ∀ (p : List Int), n41 p ≤ ops p
  | [] => Nat.le_refl _
  | o :: p => by
    have := n41_ops p
    show (if o = 41 then 1 else 0) + n41 p ≤ (if isOp o then 1 else 0) + ops p
    by_cases e : o = 41
    · rw [if_pos e, if_pos (by omega)]; omega
    · rw [if_neg e]; omega
theorem pok_lt {o : Int} {p : List Int} (h : pok p) (ho : okO o) (hl : ltT (rkO o) p) (h1 : 1 ≤ rkO o) (hop : ¬ isOp o) : pok (o :: p) := by
  refine ⟨h, ho, ?_⟩
  unfold lbO
  rw [if_neg (by omega), if_neg hop]
  cases p with
  | nil => show (0 : Int) < rkO o; omega
  | cons q r =>
    have : rkO q < rkO o := hl
    show (if isOp q then 0 else rkO q) < rkO o
    split <;> omega
theorem pok_op {o : Int} {p : List Int} (h : pok p) (ho : o = 4 ∨ o = 20 ∨ o = 40) : pok (o :: p) := by
  refine ⟨h, by omega, ?_⟩
  have := rkT_r h
  unfold lbO
  rw [if_neg (by omega), if_pos (by omega)]
  omega
theorem rkT_5 {p : List Int} (hl : ltT 5 p) : rkT p < 5 := by
  cases p with
  | nil => show (0 : Int) < 5; decide
  | cons q r =>
    have : rkO q < 5 := hl
    show (if isOp q then 0 else rkO q) < 5
    split <;> omega
theorem pok_41 {p : List Int} (h : pok p) (hl : ltT 5 p) : pok (41 :: p) := ⟨h, by decide, rkT_5 hl⟩
theorem pok_16 {p : List Int} (h : pok (41 :: p)) : pok (16 :: p) := ⟨h.1, by decide, h.2.2⟩
theorem pok_16' {p : List Int} (h : pok p) (hl : ltT 5 p) : pok (16 :: p) := ⟨h, by decide, rkT_5 hl⟩
