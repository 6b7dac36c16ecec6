/-! a clause of a text: what its words come to -/
abbrev tR : Type := Int → Option (Int × Int)
abbrev tC : Type := Int × Int × Int × Int
abbrev bR : Type := Int × Nat × tR × List (Int × Int) × (Int × Int × Int)
def fgS (K V : Nat → Int) (lo hi : Int) (j : Nat) : Int := if K j = 72 then (if lo ≤ V j ∧ V j ≤ hi then 0 else 2) else 1
def updR (R : tR) (κ : Int) (q : Int × Int) : tR := fun k => if k = κ then some q else R k
def lwB (K V : Nat → Int) (fu : Nat) (R : tR) (l : List (Int × Int)) (κ s0 : Int) (j : Nat) : bR :=
  if (lwS K V κ fu s0 j).1 = 0 then (0, (lwS K V κ fu s0 j).2.1, updR R κ ((l.length : Int), ((l ++ (lwS K V κ fu s0 j).2.2).length : Int)), l ++ (lwS K V κ fu s0 j).2.2, ((l.length : Int), ((l ++ (lwS K V κ fu s0 j).2.2).length : Int), κ))
  else ((lwS K V κ fu s0 j).1, (lwS K V κ fu s0 j).2.1, R, l, (0, 0, 0))
def no (e : Int) (j : Nat) (R : tR) (l : List (Int × Int)) : bR := (e, j, R, l, (0, 0, 0))
def bdS (K V : Nat → Int) (fu : Nat) (R : tR) (l : List (Int × Int)) (w : Int) (j : Nat) : bR :=
  if w = 0 then
    (if K j = 72 ∧ V j < 4 ∧ R (V j) ≠ none then no 4 j R l else if fgS K V 0 3 j ≠ 0 then no (fgS K V 0 3 j) j R l else if K (j + 1) ≠ 58 then no 1 (j + 1) R l else lwB K V fu R l (V j) 1 (j + 2))
  else if w ≤ 4 then lwB K V fu R l (w + 3) (if w = 3 then 1 else 0) j
  else if w = 5 then
    (if fgS K V 0 5 j ≠ 0 then no (fgS K V 0 5 j) j R l else if K (j + 1) ≠ 16 then no 1 (j + 1) R l else if fgS K V 1 9 (j + 2) ≠ 0 then no (fgS K V 1 9 (j + 2)) (j + 2) R l else if K (j + 3) ≠ 19 then no 1 (j + 3) R l else if fgS K V 1 9 (j + 4) ≠ 0 then no (fgS K V 1 9 (j + 4)) (j + 4) R l else (0, j + 5, R, l, (V j, V (j + 2), V (j + 4))))
  else if w = 6 ∨ w = 8 then (if fgS K V 0 7 j ≠ 0 then no (fgS K V 0 7 j) j R l else (0, j + 1, R, l, (V j, 0, 0)))
  else if w = 7 ∨ w = 10 then (0, j, R, l, (0, 0, 0))
  else if w = 9 then
    (if fgS K V 0 3 j ≠ 0 then no (fgS K V 0 3 j) j R l else if K (j + 1) ≠ 13 then no 1 (j + 1) R l else if fgS K V 0 9 (j + 2) ≠ 0 then no (fgS K V 0 9 (j + 2)) (j + 2) R l else (0, j + 3, R, l, (V j, V (j + 2), 0)))
  else (if fgS K V 1 60 j ≠ 0 then no (fgS K V 1 60 j) j R l else (0, j + 1, R, l, (V j, 0, 0)))
abbrev cR : Type := Int × Nat × tR × List (Int × Int) × List tC
def czS (K V : Nat → Int) (fu : Nat) (R : tR) (l : List (Int × Int)) (C : List tC) (j : Nat) : cR :=
  if ¬ (0 ≤ K j ∧ K j ≤ 11) then (1, j, R, l, C)
  else if (1 ≤ K j ∧ K j ≤ 4) ∧ R (K j + 3) ≠ none then (4, j, R, l, C)
  else if 24 ≤ C.length then (6, j, R, l, C)
  else if (bdS K V fu R l (K j) (j + 1)).1 ≠ 0 then ((bdS K V fu R l (K j) (j + 1)).1, (bdS K V fu R l (K j) (j + 1)).2.1, R, l, C)
  else if K (bdS K V fu R l (K j) (j + 1)).2.1 ≠ 59 then (1, (bdS K V fu R l (K j) (j + 1)).2.1, R, l, C)
  else (0, (bdS K V fu R l (K j) (j + 1)).2.1 + 1, (bdS K V fu R l (K j) (j + 1)).2.2.1, (bdS K V fu R l (K j) (j + 1)).2.2.2.1, C ++ [(K j, (bdS K V fu R l (K j) (j + 1)).2.2.2.2)])
def rdA (K V : Nat → Int) (fu : Nat) : Nat → tR → List (Int × Int) → List tC → Nat → cR
  | 0, R, l, C, j => (-1, j, R, l, C)
  | f + 1, R, l, C, j => if K j = 73 then (0, j, R, l, C) else if (czS K V fu R l C j).1 ≠ 0 then czS K V fu R l C j else rdA K V fu f (czS K V fu R l C j).2.2.1 (czS K V fu R l C j).2.2.2.1 (czS K V fu R l C j).2.2.2.2 (czS K V fu R l C j).2.1
theorem fgS_r {K V : Nat → Int} {lo hi : Int} {j : Nat} : (fgS K V lo hi j = 0 ∧ K j = 72 ∧ lo ≤ V j ∧ V j ≤ hi) ∨ (fgS K V lo hi j = 2 ∧ K j = 72 ∧ ¬ (lo ≤ V j ∧ V j ≤ hi)) ∨ (fgS K V lo hi j = 1 ∧ K j ≠ 72) := by
  unfold fgS
  by_cases h : K j = 72
  · rw [if_pos h]
    by_cases h2 : lo ≤ V j ∧ V j ≤ hi
    · rw [if_pos h2]; exact Or.inl ⟨rfl, h, h2⟩
    · rw [if_neg h2]; exact Or.inr (Or.inl ⟨rfl, h, h2⟩)
  · rw [if_neg h]; exact Or.inr (Or.inr ⟨rfl, h⟩)
/-- what holds of what was read so far -/
def okC (κ : Int) (l : List (Int × Int)) (q : Int × Int) : Prop := (0 ≤ q.1 ∧ q.1 < q.2 ∧ q.2 ≤ (l.length : Int)) ∧ (∀ j, q.1 ≤ j → j < q.2 → okJ κ (l.getD j.toNat (0, 0))) ∧ tyr (fun j => l.getD j.toNat (0, 0)) (q.2 - q.1).toNat q.1 [] = some [tyB κ]
abbrev htC (κ : Int) (c : tC) : Prop := sortK c.1 = (if κ < 4 then 4 else κ - 4) ∧ (κ < 4 → c.2.2.2 = κ)
def inC (R : tR) (l : List (Int × Int)) (C : List tC) (j : Nat) : Prop := l.length ≤ j ∧ C.length ≤ 24 ∧ C.length ≤ j ∧ (∀ c ∈ l, c.1 = 24 → 0 ≤ c.2 ∧ c.2 < 8) ∧ (∀ c ∈ C, (0 ≤ c.1 ∧ c.1 ≤ 11) ∧ (c.1 = 11 → 1 ≤ c.2.1 ∧ c.2.1 ≤ 60)) ∧ ∀ κ, 0 ≤ κ → κ < 8 → (R κ = none → ∀ c ∈ C, ¬ htC κ c) ∧ ∀ q, R κ = some q → okC κ l q ∧ ∃ i : Nat, i < C.length ∧ htC κ (C.getD i (0, 0, 0, 0)) ∧ (∀ i' : Nat, i' < i → ¬ htC κ (C.getD i' (0, 0, 0, 0))) ∧ (C.getD i (0, 0, 0, 0)).2.1 = q.1 ∧ (C.getD i (0, 0, 0, 0)).2.2.1 = q.2
theorem getD_app1 {α : Type} {l r : List α} {d : α} {i : Nat} (h : i < l.length) : (l ++ r).getD i d = l.getD i d := by
  rw [List.getD_eq_getElem?_getD, List.getElem?_append_left h, ← List.getD_eq_getElem?_getD]
theorem getD_app2 {α : Type} {l r : List α} {d : α} {i : Nat} (h : l.length ≤ i) : (l ++ r).getD i d = r.getD (i - l.length) d := by
  rw [List.getD_eq_getElem?_getD, List.getElem?_append_right h, ← List.getD_eq_getElem?_getD]
theorem tyr_congr {pr pr' : Int → Int × Int} : ∀ (k : Nat) (i : Int) (τ : List Bool), (∀ j, i ≤ j → j < i + k → pr j = pr' j) → tyr pr k i τ = tyr pr' k i τ
  | 0, _, _, _ => rfl
  | k + 1, i, τ, h => by
    show (ty1 (pr i).1 (pr i).2 τ).bind (tyr pr k (i + 1)) = (ty1 (pr' i).1 (pr' i).2 τ).bind (tyr pr' k (i + 1))
    have e : tyr pr k (i + 1) = tyr pr' k (i + 1) := funext fun t => tyr_congr k (i + 1) t (fun j h1 h2 => h j (by omega) (by omega))
    rw [h i (by omega) (by omega), e]
theorem okC_app {κ : Int} {l cs : List (Int × Int)} {q : Int × Int} (h : okC κ l q) : okC κ (l ++ cs) q := by
  obtain ⟨⟨h1, h2, h3⟩, h4, h5⟩ := h
  refine ⟨⟨h1, h2, by rw [List.length_append]; omega⟩, fun j j0 j1 => ?_, ?_⟩
  · rw [getD_app1 (by omega)]; exact h4 j j0 j1
  · rw [← h5]
    refine tyr_congr _ _ _ (fun j j0 j1 => ?_)
    show (l ++ cs).getD j.toNat (0, 0) = l.getD j.toNat (0, 0)
    exact getD_app1 (by omega)
theorem okC_new {κ : Int} {l cs : List (Int × Int)} (h1 : ∀ c ∈ cs, okJ κ c) (h2 : tyl cs [] = some [tyB κ]) : okC κ (l ++ cs) ((l.length : Int), ((l ++ cs).length : Int)) := by
  have len : (l ++ cs).length = l.length + cs.length := List.length_append
  have ne : 0 < cs.length := by
    cases cs with
    | nil => cases h2
    | cons c r => show 0 < r.length + 1; omega
  refine ⟨⟨by show (0 : Int) ≤ (l.length : Int); omega, by show (l.length : Int) < ((l ++ cs).length : Int); omega, Int.le_refl _⟩, fun j j0 j1 => ?_, ?_⟩
  · have j0' : (l.length : Int) ≤ j := j0
    have j1' : j < ((l ++ cs).length : Int) := j1
    rw [getD_app2 (by omega)]
    refine h1 _ ?_
    have lt : j.toNat - l.length < cs.length := by omega
    rw [List.getD_eq_getElem?_getD, List.getElem?_eq_getElem lt]
    exact List.getElem_mem lt
  · show tyr _ (((l ++ cs).length : Int) - (l.length : Int)).toNat (l.length : Int) [] = some [tyB κ]
    rw [show (((l ++ cs).length : Int) - (l.length : Int)).toNat = cs.length by omega, ← h2]
    refine tyl_tyr cs _ [] (fun k hk => ?_)
    show (l ++ cs).getD ((l.length : Int) + (k : Int)).toNat (0, 0) = cs.getD k (0, 0)
    rw [show ((l.length : Int) + (k : Int)).toNat = l.length + k by omega, getD_app2 (by omega), Nat.add_sub_cancel_left]
