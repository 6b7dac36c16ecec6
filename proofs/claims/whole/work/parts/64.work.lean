/-- the reference's code of an order -/
def rc (o : Int) : Int := if o = 72 then 0 else if o = 75 then 1 else if o = 24 then 2 else if o = 25 then 3 else if o = 76 then 4 else if o = 43 then 5 else if o = 45 then 6 else if o = 42 then 7 else if o = 47 then 8 else if o = 60 then 10 else if o = 70 then 11 else if o = 62 then 12 else if o = 71 then 13 else if o = 61 then 14 else if o = 35 then 15 else if o = 23 then 20 else if o = 22 then 21 else if o = 21 then 22 else 23
def ints : List Int → List Bool → List Int
  | a :: s, false :: τ => a :: ints s τ
  | _ :: s, true :: τ => ints s τ
  | _, _ => []
def trs : List Int → List Bool → List Int
  | a :: s, true :: τ => a :: trs s τ
  | _ :: s, false :: τ => trs s τ
  | _, _ => []
theorem ints_len : ∀ (s : List Int) (τ : List Bool), (ints s τ).length ≤ s.length
  | [], [] => Nat.le_refl _
  | [], _ :: _ => Nat.le_refl _
  | _ :: _, [] => Nat.zero_le _
  | a :: s, false :: τ => Nat.succ_le_succ (ints_len s τ)
  | a :: s, true :: τ => Nat.le_succ_of_le (ints_len s τ)
theorem trs_len : ∀ (s : List Int) (τ : List Bool), (trs s τ).length ≤ s.length
  | [], [] => Nat.le_refl _
  | [], _ :: _ => Nat.le_refl _
  | _ :: _, [] => Nat.zero_le _
  | a :: s, true :: τ => Nat.succ_le_succ (trs_len s τ)
  | a :: s, false :: τ => Nat.le_succ_of_le (trs_len s τ)
/-- the top of truths taken off -/
theorem trs_top : ∀ (k : Nat) {s : List Int} {τ : List Bool}, okS s τ → τ.take k = List.replicate k true → (trs s τ).take k = s.take k ∧ (trs s τ).drop k = trs (s.drop k) (τ.drop k) ∧ ints (s.drop k) (τ.drop k) = ints s τ ∧ k ≤ (trs s τ).length
  | 0, s, τ, h, _ => ⟨rfl, rfl, rfl, Nat.zero_le _⟩
  | k + 1, [], [], _, e => by cases e
  | k + 1, [], x :: τ, h, _ => by cases h
  | k + 1, a :: s, [], h, _ => by cases h
  | k + 1, a :: s, true :: τ, h, e => by
    rw [List.take_succ_cons, List.replicate_succ] at e
    obtain ⟨h1, h2, h3, h4⟩ := trs_top k h.2 (List.cons.inj e).2
    refine ⟨?_, h2, h3, Nat.succ_le_succ h4⟩
    show (a :: trs s τ).take (k + 1) = (a :: s).take (k + 1)
    rw [List.take_succ_cons, List.take_succ_cons, h1]
  | k + 1, a :: s, false :: τ, h, e => by
    rw [List.take_succ_cons, List.replicate_succ] at e
    cases (List.cons.inj e).1
/-- the reference's code of a program -/
def rfP (M : xM) (τ : Int) (pr : Int → Int × Int) (lo hi : Int) : Prop := ∀ j, lo ≤ j → j < hi → M 67 (705 * τ + 97 + 2 * j) = rc (pr j).1 ∧ M 67 (705 * τ + 97 + 2 * j + 1) = (pr j).2
section Work
variable {g : Option Nat} {d n : Nat} {P : xP} {M : xM} {F : xM → Int → Prop} {G : xM → Prop}
theorem c_X10_clip (hn : 82 ≤ n) {z : Int} (H : F M (clipI z)) : xCJ Y_X10_clip g d [vJ z] n P M F := by
  unfold clipI at H
  refine b_X10_clip hn ⟨fun h => ⟨fun h2 => ?_, fun h2 => ?_⟩, fun h => ?_⟩
  · rw [x_cmp_le] at h
    rw [x_cmp_ge] at h2
    rwa [if_neg (by omega), if_neg (by omega)] at H
  · rw [x_cmp_le] at h
    rw [x_cmp_ge] at h2
    rwa [if_neg (by omega), if_pos (by omega)] at H
  · rw [x_cmp_le] at h
    rwa [if_pos (by omega)] at H
theorem x_tdivL {a b : Int} (ha : -1000000 ≤ a ∧ a ≤ 1000000) : inL (a.tdiv b) := by
  have := x_tdiv_abs a b
  constructor <;> omega
theorem c_X10_two (hn : 82 ≤ n) {o a b : Int} (ho : o = 42 ∨ o = 43 ∨ o = 45 ∨ o = 47) (ha : -1000000 ≤ a ∧ a ≤ 1000000) (hb : -1000000 ≤ b ∧ b ≤ 1000000) (H : F M (jn o a b)) : xCJ Y_X10_two g (d + 1) [vI (rc o), vJ a, vJ b] n P M F := by
  rcases ho with rfl | rfl | rfl | rfl
  · rw [show rc 42 = 7 from rfl]
    rw [jn_42] at H
    exact b_X10_two hn ⟨fun h => absurd h (by decide), fun h => absurd h (by decide), fun h => absurd h (by decide), fun _ => ⟨x_mulL ha hb, c_X10_clip hn H⟩, trivial⟩
  · rw [show rc 43 = 5 from rfl]
    rw [jn_43] at H
    exact b_X10_two hn ⟨fun h => absurd h (by decide), fun _ => ⟨by constructor <;> omega, c_X10_clip hn H⟩, fun h => absurd h (by decide), fun h => absurd h (by decide), trivial⟩
  · rw [show rc 45 = 6 from rfl]
    rw [jn_45] at H
    exact b_X10_two hn ⟨fun h => absurd h (by decide), fun h => absurd h (by decide), fun _ => ⟨by constructor <;> omega, c_X10_clip hn H⟩, fun h => absurd h (by decide), trivial⟩
  · rw [show rc 47 = 8 from rfl]
    rw [jn_47] at H
    refine b_X10_two hn ⟨fun _ => ⟨fun h => ?_, fun h => ?_⟩, fun h => absurd h (by decide), fun h => absurd h (by decide), fun h => absurd h (by decide), trivial⟩
    · rw [x_cmp_eq] at h
      rw [if_neg h] at H
      exact ⟨h, x_tdivL ha, c_X10_clip hn H⟩
    · rw [x_cmp_eq] at h
      rw [if_pos h, show clipI 0 = 0 from by decide] at H
      exact H
theorem c_X10_isAsked (hn : 82 ≤ n) {o a b : Int} (ho : o = 60 ∨ o = 61 ∨ o = 62 ∨ o = 35 ∨ o = 70 ∨ o = 71) (H : F M (jn o a b)) : xCI Y_X10_isAsked g d [vI (rc o), vJ a, vJ b] n P M F := by
  refine b_X10_isAsked hn ?_
  rw [x_cmp_eq, x_cmp_lt, x_cmp_le, x_cmp_ge, x_cmp_gt]
  rcases ho with rfl | rfl | rfl | rfl | rfl | rfl
  · rw [show rc 60 = 10 from rfl]
    rw [jn_60] at H
    exact ⟨fun h => absurd rfl h, fun _ => ⟨fun h => by rwa [bi_f (by omega)] at H, fun h => by rwa [bi_t (by omega)] at H⟩⟩
  · rw [show rc 61 = 14 from rfl]
    rw [jn_61] at H
    exact ⟨fun _ => ⟨fun _ => ⟨fun _ => ⟨fun _ => ⟨fun h => absurd rfl h, fun _ => ⟨fun h => by rwa [bi_f h] at H, fun h => by rwa [bi_t h] at H⟩⟩, fun h => absurd h (by decide)⟩, fun h => absurd h (by decide)⟩, fun h => absurd h (by decide)⟩, fun h => absurd h (by decide)⟩
  · rw [show rc 62 = 12 from rfl]
    rw [jn_62] at H
    exact ⟨fun _ => ⟨fun _ => ⟨fun h => absurd rfl h, fun _ => ⟨fun h => by rwa [bi_f (by omega)] at H, fun h => by rwa [bi_t (by omega)] at H⟩⟩, fun h => absurd h (by decide)⟩, fun h => absurd h (by decide)⟩
  · rw [show rc 35 = 15 from rfl]
    rw [jn_35] at H
    exact ⟨fun _ => ⟨fun _ => ⟨fun _ => ⟨fun _ => ⟨fun _ => ⟨fun h => by rwa [bi_f (fun z => z h)] at H, fun h => by rwa [bi_t h] at H⟩, fun h => absurd h (by decide)⟩, fun h => absurd h (by decide)⟩, fun h => absurd h (by decide)⟩, fun h => absurd h (by decide)⟩, fun h => absurd h (by decide)⟩
  · rw [show rc 70 = 11 from rfl]
    rw [jn_70] at H
    exact ⟨fun _ => ⟨fun h => absurd rfl h, fun _ => ⟨fun h => by rwa [bi_f (by omega)] at H, fun h => by rwa [bi_t (by omega)] at H⟩⟩, fun h => absurd h (by decide)⟩
  · rw [show rc 71 = 13 from rfl]
    rw [jn_71] at H
    exact ⟨fun _ => ⟨fun _ => ⟨fun _ => ⟨fun h => absurd rfl h, fun _ => ⟨fun h => by rwa [bi_f (by omega)] at H, fun h => by rwa [bi_t (by omega)] at H⟩⟩, fun h => absurd h (by decide)⟩, fun h => absurd h (by decide)⟩, fun h => absurd h (by decide)⟩
theorem c_X10_joined (hn : 82 ≤ n) {o a b : Int} (ho : o = 20 ∨ o = 21 ∨ o = 22) (ha : a = 0 ∨ a = 1) (hb : b = 0 ∨ b = 1) (H : F M (jn o a b)) : xCI Y_X10_joined g d [vI (rc o), vI a, vI b] n P M F := by
  have e : ∀ a b : Int, (a = 0 ∨ a = 1) → (b = 0 ∨ b = 1) → jn 20 a b = bi (a ≠ 0 ∧ b = 0) ∧ jn 21 a b = bi (a ≠ 0 ∨ b ≠ 0) ∧ jn 22 a b = bi (a ≠ 0 ∧ b ≠ 0) := by
    intro a b ha hb
    rw [jn_20, jn_21, jn_22]
    rcases ha with rfl | rfl <;> rcases hb with rfl | rfl <;> decide
  obtain ⟨e1, e2, e3⟩ := e a b ha hb
  rcases ho with rfl | rfl | rfl
  · rw [show rc 20 = 23 from rfl]
    rw [e1] at H
    exact b_X10_joined hn ⟨fun _ => ⟨fun _ => ⟨fun h => by rwa [bi_f (fun z => z.1 h)] at H, fun h => ⟨fun h2 => by rwa [bi_f (fun z => h2 z.2)] at H, fun h2 => by rwa [bi_t ⟨h, h2⟩] at H⟩⟩, fun h => absurd h (by decide)⟩, fun h => absurd h (by decide)⟩
  · rw [show rc 21 = 22 from rfl]
    rw [e2] at H
    exact b_X10_joined hn ⟨fun _ => ⟨fun h => absurd rfl h, fun _ => ⟨fun h => by rwa [bi_t (Or.inl h)] at H, fun h => ⟨fun h2 => by rwa [bi_f (fun z => z.elim (fun q => q h) (fun q => q h2))] at H, fun h2 => by rwa [bi_t (Or.inr h2)] at H⟩⟩⟩, fun h => absurd h (by decide)⟩
  · rw [show rc 22 = 21 from rfl]
    rw [e3] at H
    exact b_X10_joined hn ⟨fun h => absurd rfl h, fun _ => ⟨fun h => by rwa [bi_f (fun z => z.1 h)] at H, fun h => ⟨fun h2 => by rwa [bi_f (fun z => z.2 h2)] at H, fun h2 => by rwa [bi_t ⟨h, h2⟩] at H⟩⟩⟩
theorem c_X10_has (hn : 82 ≤ n) {a k : Int} (H : F M (x_and (x_shr a k) 1)) : xCI Y_X10_has g d [vI a, vI k] n P M F := by
  refine b_X10_has hn ⟨fun h => ?_, fun h => ?_⟩
  · rcases x_and_1 (x_shr a k) with e | e
    · rwa [e] at H
    · exact absurd e h
  · rwa [h] at H
theorem c_X10_areMost (hn : 82 ≤ n) (hP : x_PP P) {p v : Int} (hp : 0 ≤ p ∧ 0 ≤ v ∧ p + v ≤ 330) (hb : ∀ j : Nat, (j : Int) < v → M 73 (p + j) = 0 ∨ M 73 (p + j) = 1) (H : F M (bi (v < 2 * sumR (M 73) p v.toNat))) : xCI Y_X10_areMost g d [vR (some 64), vI p, vI v] n P M F := by
  have bd : ∀ k : Nat, (k : Int) ≤ v → 0 ≤ sumR (M 73) p k ∧ sumR (M 73) p k ≤ (k : Int) := fun k hk => sumR_bd k (fun j hj => hb j (by omega))
  have key := up_ind (p := fun j => xW Y_X10_areMost g d 0 0 5 [(0, vR (some 64)), (1, vI p), (2, vI v), (3, vI (sumR (M 73) p j.toNat)), (4, vI j)] [] (0, 0) (n, P, M) (kI n P F)) (lo := 0) (N := v) ?_ ?_ 0 (by omega) (by omega)
  · exact b_X10_areMost hn hP key
  · have := bd v.toNat (by omega)
    refine b_X10_areMost_5 hn hP ⟨fun _ => ⟨by omega, fun h => ?_, fun h => ?_⟩, fun h => absurd (Int.le_refl _) h⟩
    · rwa [bi_f (by omega)] at H
    · rwa [bi_t (by omega)] at H
  · intro j h1 h2 h3
    have b1 := bd j.toNat (by omega)
    have b2 := hb j.toNat (by omega)
    rw [show (j.toNat : Int) = j by omega] at b2
    have e : (j + 1).toNat = j.toNat + 1 := by omega
    rw [e] at h3
    have e2 : sumR (M 73) p (j.toNat + 1) = sumR (M 73) p j.toNat + M 73 (p + j) := by
      show sumR (M 73) p j.toNat + M 73 (p + (j.toNat : Int)) = _
      rw [show (j.toNat : Int) = j by omega]
    rw [e2] at h3
    refine b_X10_areMost_5 hn hP ⟨fun h => absurd h (by omega), fun _ => ⟨by omega, by omega, fun h => ?_, fun h => ?_⟩⟩
    · rw [h] at h3
      exact b_X10_areMost_29 hn hP ⟨by omega, by omega, h3⟩
    · have h1' : M 73 (p + j) = 1 := by omega
      rw [h1'] at h3
      exact b_X10_areMost_29 hn hP ⟨by omega, by omega, h3⟩
end Work
