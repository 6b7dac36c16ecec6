/-! the laws' programs: one stack (class), along types; true: a truth -/
def clipI (z : Int) : Int := if 1000000 < z then 1000000 else if z < -1000000 then -1000000 else z
def jn (o a b : Int) : Int :=
  if o = 23 then 1 - a else if o = 76 then -a
  else if o = 22 then x_and a b else if o = 21 then x_or a b else if o = 20 then x_and a (1 - b)
  else if o = 60 then bi (a < b) else if o = 62 then bi (b < a) else if o = 61 then bi (a = b) else if o = 35 then bi (a ≠ b) else if o = 70 then bi (a ≤ b) else if o = 71 then bi (b ≤ a)
  else if o = 43 then clipI (a + b) else if o = 45 then clipI (a - b) else if o = 42 then clipI (a * b) else clipI (if b = 0 then 0 else a.tdiv b)
def st1 (o v : Int) (nm : Int → Int) (fs : Int) (s : List Int) : List Int :=
  if o = 72 then v :: s else if o = 75 then nm v :: s else if o = 24 then x_and (x_shr fs v) 1 :: s
  else if o = 25 then bi (v < 2 * (s.take v.toNat).sum) :: s.drop v.toNat
  else if o = 23 ∨ o = 76 then (match s with
    | a :: r => jn o a 0 :: r
    | [] => [])
  else (match s with
    | b :: a :: r => jn o a b :: r
    | _ => [])
def ev1 (pr : Int → Int × Int) (nm : Int → Int) (fs : Int) : Nat → Int → List Int → List Int
  | 0, _, s => s
  | k + 1, i, s => ev1 pr nm fs k (i + 1) (st1 (pr i).1 (pr i).2 nm fs s)
def ty1 (o v : Int) (τ : List Bool) : Option (List Bool) :=
  if o = 72 ∨ o = 75 then some (false :: τ)
  else if o = 24 then some (true :: τ)
  else if o = 25 then (if (1 ≤ v ∧ v ≤ 6) ∧ τ.take v.toNat = List.replicate v.toNat true then some (true :: τ.drop v.toNat) else none)
  else if o = 23 then (match τ with
    | true :: r => some (true :: r)
    | _ => none)
  else if o = 76 then (match τ with
    | false :: r => some (false :: r)
    | _ => none)
  else if o = 20 ∨ o = 21 ∨ o = 22 then (match τ with
    | true :: true :: r => some (true :: r)
    | _ => none)
  else if o = 60 ∨ o = 61 ∨ o = 62 ∨ o = 35 ∨ o = 70 ∨ o = 71 then (match τ with
    | false :: false :: r => some (true :: r)
    | _ => none)
  else if o = 42 ∨ o = 43 ∨ o = 45 ∨ o = 47 then (match τ with
    | false :: false :: r => some (false :: r)
    | _ => none)
  else none
def tyr (pr : Int → Int × Int) : Nat → Int → List Bool → Option (List Bool)
  | 0, _, τ => some τ
  | k + 1, i, τ => (ty1 (pr i).1 (pr i).2 τ).bind (tyr pr k (i + 1))
def okS : List Int → List Bool → Prop
  | [], [] => True
  | a :: s, true :: τ => (a = 0 ∨ a = 1) ∧ okS s τ
  | a :: s, false :: τ => (-1000000 ≤ a ∧ a ≤ 1000000) ∧ okS s τ
  | _, _ => False
def okA (o v : Int) (nm : Int → Int) : Prop := (o = 72 → 0 ≤ v ∧ v ≤ 9999) ∧ (o = 75 → (0 ≤ v ∧ v < 8) ∧ -1000000 ≤ nm v ∧ nm v ≤ 1000000) ∧ (o = 24 → 0 ≤ v ∧ v < 8)
def rep (f : Int → Int) : Int → List Int → Prop
  | n, [] => n = 0
  | n, a :: l => f (n - 1) = a ∧ rep f (n - 1) l
theorem rep_len {f : Int → Int} : ∀ {l : List Int} {n : Int}, rep f n l → n = (l.length : Int)
  | [], n, h => h
  | a :: l, n, h => by
    have := rep_len h.2
    rw [List.length_cons]
    omega
theorem rep_congr {f f' : Int → Int} : ∀ {l : List Int} {n : Int}, rep f n l → (∀ j, 0 ≤ j → j < n → f' j = f j) → rep f' n l
  | [], n, h, _ => h
  | a :: l, n, h, e => by
    have h1 := rep_len h.2
    exact ⟨(e (n - 1) (by omega) (by omega)).trans h.1, rep_congr h.2 (fun j h2 h3 => e j h2 (by omega))⟩
theorem rep_push {f : Int → Int} {l : List Int} {n a : Int} (h : rep f n l) : rep (fun j => if j = n then a else f j) (n + 1) (a :: l) := by
  refine ⟨if_pos (by omega), ?_⟩
  rw [show n + 1 - 1 = n by omega]
  exact rep_congr h (fun j _ h2 => if_neg (by omega))
theorem rep_drop {f : Int → Int} : ∀ {l : List Int} {n : Int} (k : Nat), rep f n l → k ≤ l.length → rep f (n - k) (l.drop k)
  | l, n, 0, h, _ => by
    rw [List.drop_zero, show n - ((0 : Nat) : Int) = n by omega]
    exact h
  | [], n, k + 1, h, hk => by cases hk
  | a :: l, n, k + 1, h, hk => by
    have h1 := rep_drop k h.2 (by rw [List.length_cons] at hk; omega)
    rw [show n - ((k + 1 : Nat) : Int) = n - 1 - (k : Int) by omega]
    exact h1
theorem okS_len : ∀ {s : List Int} {τ : List Bool}, okS s τ → s.length = τ.length
  | [], [], _ => rfl
  | [], x :: τ, h => by cases h
  | a :: s, [], h => by cases h
  | a :: s, true :: τ, h => by rw [List.length_cons, List.length_cons, okS_len h.2]
  | a :: s, false :: τ, h => by rw [List.length_cons, List.length_cons, okS_len h.2]
theorem okS_drop : ∀ (k : Nat) {s : List Int} {τ : List Bool}, okS s τ → okS (s.drop k) (τ.drop k)
  | 0, s, τ, h => h
  | k + 1, [], [], _ => trivial
  | k + 1, [], x :: τ, h => by cases h
  | k + 1, a :: s, [], h => by cases h
  | k + 1, a :: s, true :: τ, h => okS_drop k h.2
  | k + 1, a :: s, false :: τ, h => okS_drop k h.2
theorem okS_top : ∀ (k : Nat) {s : List Int} {τ : List Bool}, okS s τ → τ.take k = List.replicate k true → k ≤ s.length ∧ ∀ a ∈ s.take k, a = 0 ∨ a = 1
  | 0, s, τ, h, _ => ⟨Nat.zero_le _, fun a ha => by rw [List.take_zero] at ha; cases ha⟩
  | k + 1, [], [], _, e => by cases e
  | k + 1, [], x :: τ, h, _ => by cases h
  | k + 1, a :: s, [], h, _ => by cases h
  | k + 1, a :: s, true :: τ, h, e => by
    rw [List.take_succ_cons, List.replicate_succ] at e
    obtain ⟨h1, h2⟩ := okS_top k h.2 (List.cons.inj e).2
    refine ⟨by rw [List.length_cons]; omega, fun b hb => ?_⟩
    rw [List.take_succ_cons] at hb
    rcases List.mem_cons.mp hb with rfl | hb
    · exact h.1
    · exact h2 b hb
  | k + 1, a :: s, false :: τ, h, e => by
    rw [List.take_succ_cons, List.replicate_succ] at e
    cases (List.cons.inj e).1
theorem clipI_r (z : Int) : -1000000 ≤ clipI z ∧ clipI z ≤ 1000000 := by
  unfold clipI
  split
  · omega
  · split <;> omega
theorem x_and_bb : ∀ {a b : Int}, (a = 0 ∨ a = 1) → (b = 0 ∨ b = 1) → x_and a b = 0 ∨ x_and a b = 1 := by
  intro a b ha hb
  rcases ha with rfl | rfl <;> rcases hb with rfl | rfl <;> decide
theorem x_or_bb : ∀ {a b : Int}, (a = 0 ∨ a = 1) → (b = 0 ∨ b = 1) → x_or a b = 0 ∨ x_or a b = 1 := by
  intro a b ha hb
  rcases ha with rfl | rfl <;> rcases hb with rfl | rfl <;> decide
theorem okS_T {s : List Int} {ρ : List Bool} (h : okS s (true :: ρ)) : ∃ a r, s = a :: r ∧ (a = 0 ∨ a = 1) ∧ okS r ρ := by
  cases s with
  | nil => cases h
  | cons a r => exact ⟨a, r, rfl, h.1, h.2⟩
theorem okS_F {s : List Int} {ρ : List Bool} (h : okS s (false :: ρ)) : ∃ a r, s = a :: r ∧ (-1000000 ≤ a ∧ a ≤ 1000000) ∧ okS r ρ := by
  cases s with
  | nil => cases h
  | cons a r => exact ⟨a, r, rfl, h.1, h.2⟩
/-- the forms of a typed step -/
theorem ty_inv {o v : Int} {τ τ' : List Bool} (ht : ty1 o v τ = some τ') :
    (o = 72 ∧ τ' = false :: τ) ∨ (o = 75 ∧ τ' = false :: τ) ∨ (o = 24 ∧ τ' = true :: τ) ∨ (o = 25 ∧ ((1 ≤ v ∧ v ≤ 6) ∧ τ.take v.toNat = List.replicate v.toNat true) ∧ τ' = true :: τ.drop v.toNat) ∨ (o = 23 ∧ ∃ ρ, τ = true :: ρ ∧ τ' = true :: ρ) ∨ (o = 76 ∧ ∃ ρ, τ = false :: ρ ∧ τ' = false :: ρ) ∨
    ((o = 20 ∨ o = 21 ∨ o = 22) ∧ ∃ ρ, τ = true :: true :: ρ ∧ τ' = true :: ρ) ∨ ((o = 60 ∨ o = 61 ∨ o = 62 ∨ o = 35 ∨ o = 70 ∨ o = 71) ∧ ∃ ρ, τ = false :: false :: ρ ∧ τ' = true :: ρ) ∨ ((o = 42 ∨ o = 43 ∨ o = 45 ∨ o = 47) ∧ ∃ ρ, τ = false :: false :: ρ ∧ τ' = false :: ρ) := by
  unfold ty1 at ht
  split at ht
  · next h => cases ht; rcases h with h | h
              · exact Or.inl ⟨h, rfl⟩
              · exact Or.inr (Or.inl ⟨h, rfl⟩)
  split at ht
  · next h => cases ht; exact Or.inr (Or.inr (Or.inl ⟨h, rfl⟩))
  split at ht
  · next h =>
      split at ht
      · next h2 => cases ht; exact Or.inr (Or.inr (Or.inr (Or.inl ⟨h, h2, rfl⟩)))
      · cases ht
  split at ht
  · next h =>
      split at ht
      · next ρ => cases ht; exact Or.inr (Or.inr (Or.inr (Or.inr (Or.inl ⟨h, ρ, rfl, rfl⟩))))
      · cases ht
  split at ht
  · next h =>
      split at ht
      · next ρ => cases ht; exact Or.inr (Or.inr (Or.inr (Or.inr (Or.inr (Or.inl ⟨h, ρ, rfl, rfl⟩)))))
      · cases ht
  split at ht
  · next h =>
      split at ht
      · next ρ => cases ht; exact Or.inr (Or.inr (Or.inr (Or.inr (Or.inr (Or.inr (Or.inl ⟨h, ρ, rfl, rfl⟩))))))
      · cases ht
  split at ht
  · next h =>
      split at ht
      · next ρ => cases ht; exact Or.inr (Or.inr (Or.inr (Or.inr (Or.inr (Or.inr (Or.inr (Or.inl ⟨h, ρ, rfl, rfl⟩)))))))
      · cases ht
  split at ht
  · next h =>
      split at ht
      · next ρ => cases ht; exact Or.inr (Or.inr (Or.inr (Or.inr (Or.inr (Or.inr (Or.inr (Or.inr ⟨h, ρ, rfl, rfl⟩)))))))
      · cases ht
  · cases ht
theorem st1_72 {v : Int} {nm : Int → Int} {fs : Int} {s : List Int} : st1 72 v nm fs s = v :: s := rfl
theorem st1_75 {v : Int} {nm : Int → Int} {fs : Int} {s : List Int} : st1 75 v nm fs s = nm v :: s := rfl
theorem st1_24 {v : Int} {nm : Int → Int} {fs : Int} {s : List Int} : st1 24 v nm fs s = x_and (x_shr fs v) 1 :: s := rfl
theorem st1_25 {v : Int} {nm : Int → Int} {fs : Int} {s : List Int} : st1 25 v nm fs s = bi (v < 2 * (s.take v.toNat).sum) :: s.drop v.toNat := rfl
theorem st1_u {o v : Int} {nm : Int → Int} {fs a : Int} {r : List Int} (h : o = 23 ∨ o = 76) : st1 o v nm fs (a :: r) = jn o a 0 :: r := by
  rcases h with rfl | rfl <;> rfl
theorem st1_b {o v : Int} {nm : Int → Int} {fs a b : Int} {r : List Int} (h : (o = 20 ∨ o = 21 ∨ o = 22) ∨ (o = 60 ∨ o = 61 ∨ o = 62 ∨ o = 35 ∨ o = 70 ∨ o = 71) ∨ (o = 42 ∨ o = 43 ∨ o = 45 ∨ o = 47)) : st1 o v nm fs (b :: a :: r) = jn o a b :: r := by
  rcases h with (rfl | rfl | rfl) | (rfl | rfl | rfl | rfl | rfl | rfl) | (rfl | rfl | rfl | rfl) <;> rfl
theorem jn_23 (a b : Int) : jn 23 a b = 1 - a := rfl
theorem jn_76 (a b : Int) : jn 76 a b = -a := rfl
theorem jn_22 (a b : Int) : jn 22 a b = x_and a b := rfl
theorem jn_21 (a b : Int) : jn 21 a b = x_or a b := rfl
theorem jn_20 (a b : Int) : jn 20 a b = x_and a (1 - b) := rfl
theorem jn_60 (a b : Int) : jn 60 a b = bi (a < b) := rfl
theorem jn_62 (a b : Int) : jn 62 a b = bi (b < a) := rfl
theorem jn_61 (a b : Int) : jn 61 a b = bi (a = b) := rfl
theorem jn_35 (a b : Int) : jn 35 a b = bi (a ≠ b) := rfl
theorem jn_70 (a b : Int) : jn 70 a b = bi (a ≤ b) := rfl
theorem jn_71 (a b : Int) : jn 71 a b = bi (b ≤ a) := rfl
theorem jn_43 (a b : Int) : jn 43 a b = clipI (a + b) := by unfold jn; rw [if_neg (by decide), if_neg (by decide), if_neg (by decide), if_neg (by decide), if_neg (by decide), if_neg (by decide), if_neg (by decide), if_neg (by decide), if_neg (by decide), if_neg (by decide), if_neg (by decide), if_pos rfl]
theorem jn_45 (a b : Int) : jn 45 a b = clipI (a - b) := by unfold jn; rw [if_neg (by decide), if_neg (by decide), if_neg (by decide), if_neg (by decide), if_neg (by decide), if_neg (by decide), if_neg (by decide), if_neg (by decide), if_neg (by decide), if_neg (by decide), if_neg (by decide), if_neg (by decide), if_pos rfl]
theorem jn_42 (a b : Int) : jn 42 a b = clipI (a * b) := by unfold jn; rw [if_neg (by decide), if_neg (by decide), if_neg (by decide), if_neg (by decide), if_neg (by decide), if_neg (by decide), if_neg (by decide), if_neg (by decide), if_neg (by decide), if_neg (by decide), if_neg (by decide), if_neg (by decide), if_neg (by decide), if_pos rfl]
theorem jn_47 (a b : Int) : jn 47 a b = clipI (if b = 0 then 0 else a.tdiv b) := by unfold jn; rw [if_neg (by decide), if_neg (by decide), if_neg (by decide), if_neg (by decide), if_neg (by decide), if_neg (by decide), if_neg (by decide), if_neg (by decide), if_neg (by decide), if_neg (by decide), if_neg (by decide), if_neg (by decide), if_neg (by decide), if_neg (by decide)]
theorem okS_step {o v : Int} {nm : Int → Int} {fs : Int} {s : List Int} {τ τ' : List Bool} (h : okS s τ) (ha : okA o v nm) (ht : ty1 o v τ = some τ') : okS (st1 o v nm fs s) τ' := by
  rcases ty_inv ht with ⟨rfl, rfl⟩ | ⟨rfl, rfl⟩ | ⟨rfl, rfl⟩ | ⟨rfl, hc, rfl⟩ | ⟨rfl, ρ, rfl, rfl⟩ | ⟨rfl, ρ, rfl, rfl⟩ | ⟨ho, ρ, rfl, rfl⟩ | ⟨ho, ρ, rfl, rfl⟩ | ⟨ho, ρ, rfl, rfl⟩
  · have := ha.1 rfl
    rw [st1_72]
    exact ⟨by omega, h⟩
  · rw [st1_75]
    exact ⟨(ha.2.1 rfl).2, h⟩
  · rw [st1_24]
    exact ⟨x_and_1 _, h⟩
  · rw [st1_25]
    exact ⟨bi_or _, okS_drop _ h⟩
  · obtain ⟨a, r, rfl, h1, h2⟩ := okS_T h
    rw [st1_u (Or.inl rfl), jn_23]
    exact ⟨by omega, h2⟩
  · obtain ⟨a, r, rfl, h1, h2⟩ := okS_F h
    rw [st1_u (Or.inr rfl), jn_76]
    exact ⟨by omega, h2⟩
  · obtain ⟨b, r1, rfl, h1, h2⟩ := okS_T h
    obtain ⟨a, r, rfl, h3, h4⟩ := okS_T h2
    rw [st1_b (Or.inl ho)]
    refine ⟨?_, h4⟩
    rcases ho with rfl | rfl | rfl
    · rw [jn_20]; exact x_and_bb h3 (show (1 - b = 0 ∨ 1 - b = 1) by omega)
    · rw [jn_21]; exact x_or_bb h3 h1
    · rw [jn_22]; exact x_and_bb h3 h1
  · obtain ⟨b, r1, rfl, h1, h2⟩ := okS_F h
    obtain ⟨a, r, rfl, h3, h4⟩ := okS_F h2
    rw [st1_b (Or.inr (Or.inl ho))]
    refine ⟨?_, h4⟩
    rcases ho with rfl | rfl | rfl | rfl | rfl | rfl
    · rw [jn_60]; exact bi_or _
    · rw [jn_61]; exact bi_or _
    · rw [jn_62]; exact bi_or _
    · rw [jn_35]; exact bi_or _
    · rw [jn_70]; exact bi_or _
    · rw [jn_71]; exact bi_or _
  · obtain ⟨b, r1, rfl, h1, h2⟩ := okS_F h
    obtain ⟨a, r, rfl, h3, h4⟩ := okS_F h2
    rw [st1_b (Or.inr (Or.inr ho))]
    refine ⟨?_, h4⟩
    rcases ho with rfl | rfl | rfl | rfl
    · rw [jn_42]; exact clipI_r _
    · rw [jn_43]; exact clipI_r _
    · rw [jn_45]; exact clipI_r _
    · rw [jn_47]; exact clipI_r _
theorem ty_len {o v : Int} {τ τ' : List Bool} (ht : ty1 o v τ = some τ') : τ.length ≤ τ'.length + 5 := by
  rcases ty_inv ht with ⟨rfl, rfl⟩ | ⟨rfl, rfl⟩ | ⟨rfl, rfl⟩ | ⟨rfl, hc, rfl⟩ | ⟨rfl, ρ, rfl, rfl⟩ | ⟨rfl, ρ, rfl, rfl⟩ | ⟨ho, ρ, rfl, rfl⟩ | ⟨ho, ρ, rfl, rfl⟩ | ⟨ho, ρ, rfl, rfl⟩ <;> simp only [List.length_cons, List.length_drop] <;> omega
theorem tyr_len {pr : Int → Int × Int} : ∀ (k : Nat) (i : Int) {τ : List Bool} {b : Bool}, tyr pr k i τ = some [b] → τ.length ≤ 5 * k + 1
  | 0, i, τ, b, h => by
    cases h
    show 1 ≤ 5 * 0 + 1
    omega
  | k + 1, i, τ, b, h => by
    unfold tyr at h
    cases h1 : ty1 (pr i).1 (pr i).2 τ with
    | none => rw [h1] at h; cases h
    | some τ' =>
      rw [h1] at h
      have h2 := tyr_len k (i + 1) h
      have h3 := ty_len h1
      omega
