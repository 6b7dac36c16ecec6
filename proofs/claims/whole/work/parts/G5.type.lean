/-! what was read has types -/
def tyl : List (Int × Int) → List Bool → Option (List Bool)
  | [], τ => some τ
  | c :: r, τ => (ty1 c.1 c.2 τ).bind (tyl r)
theorem tyl_app : ∀ (a b : List (Int × Int)) (τ : List Bool), tyl (a ++ b) τ = (tyl a τ).bind (tyl b)
  | [], b, τ => rfl
  | c :: a, b, τ => by
    show (ty1 c.1 c.2 τ).bind (tyl (a ++ b)) = ((ty1 c.1 c.2 τ).bind (tyl a)).bind (tyl b)
    cases ty1 c.1 c.2 τ with
    | none => rfl
    | some t => exact tyl_app a b t
def tyP (κ : Int) (i o : List Bool) (r : sR) : Prop := r.1 = 0 → (∀ c ∈ r.2.2, okJ κ c) ∧ tyl r.2.2 i = some o
section TyP
variable {κ : Int} {i m o : List Bool} {r : sR} {k : Nat → sR}
theorem tyP_sq (h : tyP κ i m r) (hk : ∀ j, tyP κ m o (k j)) : tyP κ i o (sq r k) := by
  intro h0
  obtain ⟨q1, q2, q3, q4⟩ := sq_0 h0
  obtain ⟨a1, a2⟩ := h q1
  obtain ⟨b1, b2⟩ := hk _ q2
  rw [q4]
  refine ⟨fun c hc => ?_, by rw [tyl_app, a2]; exact b2⟩
  rcases List.mem_append.mp hc with z | z
  · exact a1 c z
  · exact b1 c z
theorem tyP_em {e : Int × Int} (h : tyP κ i m r) (he : okJ κ e) (ht : ty1 e.1 e.2 m = some o) : tyP κ i o (em r e) := by
  intro h0
  obtain ⟨q1, q2, q3⟩ := em_0 h0
  obtain ⟨a1, a2⟩ := h q1
  rw [q3]
  refine ⟨fun c hc => ?_, ?_⟩
  · rcases List.mem_append.mp hc with z | z
    · exact a1 c z
    · rw [List.mem_singleton.mp z]; exact he
  · rw [tyl_app, a2]
    show (ty1 e.1 e.2 m).bind (tyl []) = some o
    rw [ht]
    rfl
theorem tyP_bad {e : Int} {j : Nat} {l : List (Int × Int)} (he : e ≠ 0) : tyP κ i o (e, j, l) := fun z => absurd z he
theorem tyP_nil {j : Nat} : tyP κ i i (0, j, []) := fun _ => ⟨fun c hc => (by cases hc), rfl⟩
theorem tyP_1 {j : Nat} {c : Int × Int} (hc : okJ κ c) (ht : ty1 c.1 c.2 i = some o) : tyP κ i o (0, j, [c]) := fun _ => by
  refine ⟨fun q hq => by rw [List.mem_singleton.mp hq]; exact hc, ?_⟩
  show (ty1 c.1 c.2 i).bind (tyl []) = some o
  rw [ht]
  rfl
end TyP
def inTy (mo : Nat) (τ : List Bool) : List Bool := if mo = 1 ∨ mo = 3 then true :: τ else if mo = 6 ∨ mo = 8 then false :: τ else if 10 ≤ mo then List.replicate (mo - 10) true ++ τ else τ
def ouT (mo : Nat) (τ : List Bool) : List Bool := if mo ≤ 4 ∨ 10 ≤ mo then true :: τ else false :: τ
theorem okJ_o {κ o : Int} (h : 0 ≤ o ∧ o < 128) (h1 : o ≠ 72) (h2 : o ≠ 75) (h3 : o ≠ 24) : okJ κ (o, 0) := ⟨h, ⟨Int.le_refl _, by show (0 : Int) < 16384; decide⟩, fun z => absurd z h1, fun z => absurd z h2, fun z => absurd z h3⟩
theorem ty_cmp {o : Int} {τ : List Bool} (h : cmpK o) : ty1 o 0 (false :: false :: τ) = some (true :: τ) := by
  rcases h with h | h | h | h | h | h <;> (subst h; rfl)
theorem ty_ar {o : Int} {τ : List Bool} (h : o = 42 ∨ o = 43 ∨ o = 45 ∨ o = 47) : ty1 o 0 (false :: false :: τ) = some (false :: τ) := by
  rcases h with h | h | h | h <;> (subst h; rfl)
theorem sp_ty {K V : Nat → Int} {κ : Int} (hκ : 0 ≤ κ ∧ κ < 8) (hV : ∀ j, 0 ≤ V j ∧ V j ≤ 10000) : ∀ (f mo dp j : Nat) (τ : List Bool), mo ≤ 16 → mo ≠ 10 → tyP κ (inTy mo τ) (ouT mo τ) (sp K V κ f mo dp j) := by
  intro f
  induction f with
  | zero => intro mo dp j τ _ _; exact tyP_bad (by decide)
  | succ f ih =>
    intro mo dp j τ hm h10
    unfold sp
    by_cases m0 : mo = 0
    · subst m0
      rw [if_pos rfl]
      exact tyP_sq (ih 2 dp j τ (by omega) (by omega)) (fun j => ih 1 dp j τ (by omega) (by omega))
    rw [if_neg m0]
    by_cases m1 : mo = 1
    · subst m1
      rw [if_pos rfl]
      by_cases q : K j = 21
      · rw [if_pos q]
        exact tyP_sq (tyP_em (ih 2 dp (j + 1) (true :: τ) (by omega) (by omega)) (okJ_o (by decide) (by decide) (by decide) (by decide)) rfl) (fun j => ih 1 dp j τ (by omega) (by omega))
      · rw [if_neg q]; exact tyP_nil
    rw [if_neg m1]
    by_cases m2 : mo = 2
    · subst m2
      rw [if_pos rfl]
      exact tyP_sq (ih 4 dp j τ (by omega) (by omega)) (fun j => ih 3 dp j τ (by omega) (by omega))
    rw [if_neg m2]
    by_cases m3 : mo = 3
    · subst m3
      rw [if_pos rfl]
      by_cases q : K j = 22
      · rw [if_pos q]
        exact tyP_sq (tyP_em (ih 4 dp (j + 1) (true :: τ) (by omega) (by omega)) (okJ_o (by decide) (by decide) (by decide) (by decide)) rfl) (fun j => ih 3 dp j τ (by omega) (by omega))
      · rw [if_neg q]; exact tyP_nil
    rw [if_neg m3]
    by_cases m4 : mo = 4
    · subst m4
      rw [if_pos rfl]
      by_cases q : K j = 23
      · rw [if_pos q]
        by_cases p8 : 8 ≤ dp
        · rw [if_pos p8]; exact tyP_bad (by decide)
        · rw [if_neg p8]
          exact tyP_em (ih 4 (dp + 1) (j + 1) τ (by omega) (by omega)) (okJ_o (by decide) (by decide) (by decide) (by decide)) rfl
      rw [if_neg q]
      by_cases q2 : K j = 25
      · rw [if_pos q2]
        by_cases p8 : 8 ≤ dp
        · rw [if_pos p8]; exact tyP_bad (by decide)
        · rw [if_neg p8]
          by_cases q3 : K (j + 1) = 40
          · rw [if_pos q3]
            exact tyP_sq (ih 0 (dp + 1) (j + 2) τ (by omega) (by omega)) (fun j => ih 11 (dp + 1) j τ (by omega) (by omega))
          · rw [if_neg q3]; exact tyP_bad (by decide)
      rw [if_neg q2]
      by_cases q4 : K j = 24
      · rw [if_pos q4]
        by_cases k4 : 4 ≤ κ
        · rw [if_pos k4]; exact tyP_bad (by decide)
        · rw [if_neg k4]
          by_cases q5 : K (j + 1) = 72
          · rw [if_pos q5]
            by_cases v7 : 7 < V (j + 1)
            · rw [if_pos v7]; exact tyP_bad (by decide)
            · rw [if_neg v7]
              have := hV (j + 1)
              exact tyP_1 ⟨by show (0 : Int) ≤ 24 ∧ (24 : Int) < 128; decide, ⟨this.1, by show V (j + 1) < 16384; omega⟩, fun z => absurd z (by show ¬ (24 : Int) = 72; decide), fun z => absurd z (by show ¬ (24 : Int) = 75; decide), fun _ => ⟨by omega, by show V (j + 1) < 8; omega⟩⟩ rfl
          · rw [if_neg q5]; exact tyP_bad (by decide)
      rw [if_neg q4]
      refine tyP_sq (ih 5 dp j τ (by omega) (by omega)) (fun j' => ?_)
      show tyP κ (false :: τ) (true :: τ) (if cmpK (K j') then em (sp K V κ f 5 dp (j' + 1)) (K j', 0) else (1, j', []))
      by_cases q5 : cmpK (K j')
      · rw [if_pos q5]
        exact tyP_em (ih 5 dp (j' + 1) (false :: τ) (by omega) (by omega)) (okJ_o (by omega) (by omega) (by omega) (by omega)) (ty_cmp q5)
      · rw [if_neg q5]; exact tyP_bad (by decide)
    rw [if_neg m4]
    by_cases m5 : mo = 5
    · subst m5
      rw [if_pos rfl]
      exact tyP_sq (ih 7 dp j τ (by omega) (by omega)) (fun j => ih 6 dp j τ (by omega) (by omega))
    rw [if_neg m5]
    by_cases m6 : mo = 6
    · subst m6
      rw [if_pos rfl]
      by_cases q : K j = 43 ∨ K j = 45
      · rw [if_pos q]
        exact tyP_sq (tyP_em (ih 7 dp (j + 1) (false :: τ) (by omega) (by omega)) (okJ_o (by omega) (by omega) (by omega) (by omega)) (ty_ar (by omega))) (fun j => ih 6 dp j τ (by omega) (by omega))
      · rw [if_neg q]; exact tyP_nil
    rw [if_neg m6]
    by_cases m7 : mo = 7
    · subst m7
      rw [if_pos rfl]
      exact tyP_sq (ih 9 dp j τ (by omega) (by omega)) (fun j => ih 8 dp j τ (by omega) (by omega))
    rw [if_neg m7]
    by_cases m8 : mo = 8
    · subst m8
      rw [if_pos rfl]
      by_cases q : K j = 42 ∨ K j = 47
      · rw [if_pos q]
        exact tyP_sq (tyP_em (ih 9 dp (j + 1) (false :: τ) (by omega) (by omega)) (okJ_o (by omega) (by omega) (by omega) (by omega)) (ty_ar (by omega))) (fun j => ih 8 dp j τ (by omega) (by omega))
      · rw [if_neg q]; exact tyP_nil
    rw [if_neg m8]
    by_cases m9 : mo = 9
    · subst m9
      rw [if_pos rfl]
      by_cases q : K j = 40
      · rw [if_pos q]
        by_cases p8 : 8 ≤ dp
        · rw [if_pos p8]; exact tyP_bad (by decide)
        · rw [if_neg p8]
          refine tyP_sq (ih 5 (dp + 1) (j + 1) τ (by omega) (by omega)) (fun j' => ?_)
          show tyP κ (false :: τ) (false :: τ) (if K j' = 41 then (0, j' + 1, []) else (1, j', []))
          by_cases q2 : K j' = 41
          · rw [if_pos q2]; exact tyP_nil
          · rw [if_neg q2]; exact tyP_bad (by decide)
      rw [if_neg q]
      by_cases q2 : K j = 45
      · rw [if_pos q2]
        by_cases p8 : 8 ≤ dp
        · rw [if_pos p8]; exact tyP_bad (by decide)
        · rw [if_neg p8]
          exact tyP_em (ih 9 (dp + 1) (j + 1) τ (by omega) (by omega)) (okJ_o (by decide) (by decide) (by decide) (by decide)) rfl
      rw [if_neg q2]
      by_cases q3 : 11 ≤ K j ∧ K j ≤ 18
      · rw [if_pos q3]
        by_cases q4 : ofL κ (K j - 11)
        · rw [if_pos q4]
          refine tyP_1 ⟨by show (0 : Int) ≤ 75 ∧ (75 : Int) < 128; decide, ⟨by show 0 ≤ K j - 11; omega, by show K j - 11 < 16384; omega⟩, fun z => absurd z (by show ¬ (75 : Int) = 72; decide), fun _ => ?_, fun z => absurd z (by show ¬ (75 : Int) = 24; decide)⟩ rfl
          show al κ (K j - 11)
          unfold al
          omega
        · rw [if_neg q4]; exact tyP_bad (by decide)
      rw [if_neg q3]
      by_cases q4 : K j = 72
      · rw [if_pos q4]
        by_cases q5 : 9999 < V j
        · rw [if_pos q5]; exact tyP_bad (by decide)
        · rw [if_neg q5]
          have := hV j
          exact tyP_1 ⟨by show (0 : Int) ≤ 72 ∧ (72 : Int) < 128; decide, ⟨this.1, by show V j < 16384; omega⟩, fun _ => by show V j ≤ 9999; omega, fun z => absurd z (by show ¬ (72 : Int) = 75; decide), fun z => absurd z (by show ¬ (72 : Int) = 24; decide)⟩ rfl
      · rw [if_neg q4]; exact tyP_bad (by decide)
    rw [if_neg m9]
    have io : ∀ m : Nat, 11 ≤ m → inTy m τ = List.replicate (m - 10) true ++ τ := fun m h => by
      unfold inTy
      rw [if_neg (by omega), if_neg (by omega), if_pos (by omega)]
    have oo : ∀ m : Nat, 11 ≤ m → ouT m τ = true :: τ := fun m h => if_pos (by omega)
    rw [io mo (by omega), oo mo (by omega)]
    by_cases q : K j = 44
    · rw [if_pos q]
      by_cases p6 : 16 ≤ mo
      · rw [if_pos p6]; exact tyP_bad (by decide)
      · rw [if_neg p6]
        refine tyP_sq (ih 0 dp (j + 1) (List.replicate (mo - 10) true ++ τ) (by omega) (by omega)) (fun j' => ?_)
        have := ih (mo + 1) dp j' τ (by omega) (by omega)
        rw [io (mo + 1) (by omega), oo (mo + 1) (by omega), show mo + 1 - 10 = (mo - 10) + 1 by omega] at this
        exact this
    · rw [if_neg q]
      by_cases q2 : K j = 41
      · rw [if_pos q2]
        have e : (mo : Int) - 10 = ((mo - 10 : Nat) : Int) := by omega
        rw [e]
        refine tyP_1 ⟨by show (0 : Int) ≤ 25 ∧ (25 : Int) < 128; decide, ⟨by show (0 : Int) ≤ ((mo - 10 : Nat) : Int); omega, by show ((mo - 10 : Nat) : Int) < 16384; omega⟩, fun z => absurd z (by show ¬ (25 : Int) = 72; decide), fun z => absurd z (by show ¬ (25 : Int) = 75; decide), fun z => absurd z (by show ¬ (25 : Int) = 24; decide)⟩ ?_
        show ty1 25 ((mo - 10 : Nat) : Int) (List.replicate (mo - 10) true ++ τ) = some (true :: τ)
        unfold ty1
        rw [if_neg (by decide), if_neg (by decide), if_pos rfl, Int.toNat_natCast, List.take_left' List.length_replicate, List.drop_left' List.length_replicate, if_pos ⟨by omega, rfl⟩]
      · rw [if_neg q2]; exact tyP_bad (by decide)
/-- a law's words -/
theorem lw_ty {K V : Nat → Int} {κ : Int} (hκ : 0 ≤ κ ∧ κ < 8) (hV : ∀ j, 0 ≤ V j ∧ V j ≤ 10000) {f j : Nat} {s0 : Int} (hs : s0 ≠ 0 ↔ (κ < 4 ∨ κ = 6)) : tyP κ [] [tyB κ] (lwS K V κ f s0 j) := by
  unfold lwS tyB
  by_cases h : s0 = 0
  · rw [if_pos h, decide_eq_false (fun z => hs.mpr z h)]
    exact sp_ty hκ hV f 5 0 j [] (by omega) (by omega)
  · rw [if_neg h, decide_eq_true (hs.mp h)]
    refine tyP_sq (sp_ty hκ hV f 0 0 j [] (by omega) (by omega)) (fun j' => ?_)
    show tyP κ [true] [true] (if K j' = 20 then em (sp K V κ f 0 0 (j' + 1)) (20, 0) else (0, j', []))
    by_cases q : K j' = 20
    · rw [if_pos q]
      exact tyP_em (sp_ty hκ hV f 0 0 (j' + 1) [true] (by omega) (by omega)) (okJ_o (by decide) (by decide) (by decide) (by decide)) rfl
    · rw [if_neg q]; exact tyP_nil
/-- from a list to places -/
theorem tyl_tyr {pr : Int → Int × Int} : ∀ (cs : List (Int × Int)) (i : Int) (τ : List Bool), (∀ k : Nat, k < cs.length → pr (i + k) = cs.getD k (0, 0)) → tyr pr cs.length i τ = tyl cs τ
  | [], _, _, _ => rfl
  | c :: r, i, τ, h => by
    show (ty1 (pr i).1 (pr i).2 τ).bind (tyr pr r.length (i + 1)) = (ty1 c.1 c.2 τ).bind (tyl r)
    have e : pr i = c := by
      have := h 0 (by show 0 < r.length + 1; omega)
      rw [show i + ((0 : Nat) : Int) = i by omega] at this
      exact this
    have e2 : tyr pr r.length (i + 1) = tyl r := by
      funext t
      refine tyl_tyr r (i + 1) t (fun k hk => ?_)
      have := h (k + 1) (by show k + 1 < r.length + 1; omega)
      rw [show i + ((k + 1 : Nat) : Int) = i + 1 + (k : Int) by omega] at this
      exact this
    rw [e, e2]
