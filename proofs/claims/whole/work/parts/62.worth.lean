theorem x_mulL {a b : Int} (ha : -1000000 ≤ a ∧ a ≤ 1000000) (hb : -1000000 ≤ b ∧ b ≤ 1000000) : inL (a * b) := by
  have h1 : (a * b).natAbs ≤ 1000000 * 1000000 := by
    rw [Int.natAbs_mul]
    exact Nat.mul_le_mul (by omega) (by omega)
  constructor <;> omega
theorem x_tdiv_abs (a b : Int) : (a.tdiv b).natAbs ≤ a.natAbs := by
  rw [Int.natAbs_tdiv]
  exact Nat.div_le_self _ _
theorem x_tdivR {a b : Int} (ha : -1000000 ≤ a ∧ a ≤ 1000000) : inR (a.tdiv b) := by
  have := x_tdiv_abs a b
  constructor <;> omega
def sumR (f : Int → Int) (p : Int) : Nat → Int
  | 0 => 0
  | k + 1 => sumR f p k + f (p + k)
theorem sumR_bd {f : Int → Int} {p : Int} : ∀ (k : Nat), (∀ j : Nat, j < k → f (p + j) = 0 ∨ f (p + j) = 1) → 0 ≤ sumR f p k ∧ sumR f p k ≤ (k : Int)
  | 0, _ => by constructor <;> exact Int.le_refl _
  | k + 1, h => by
    have h1 := sumR_bd k (fun j hj => h j (by omega))
    have h2 := h k (by omega)
    show 0 ≤ sumR f p k + f (p + k) ∧ sumR f p k + f (p + k) ≤ _
    omega
theorem sumR_take {f : Int → Int} : ∀ {l : List Int} {n : Int} (k : Nat), rep f n l → k ≤ l.length → sumR f (n - k) k = (l.take k).sum
  | l, n, 0, h, _ => by rw [List.take_zero]; rfl
  | [], n, k + 1, h, hk => by cases hk
  | a :: l, n, k + 1, h, hk => by
    have h1 := sumR_take k h.2 (by rw [List.length_cons] at hk; omega)
    rw [List.take_succ_cons, List.sum_cons, ← h1]
    show sumR f (n - ((k + 1 : Nat) : Int)) k + f (n - ((k + 1 : Nat) : Int) + k) = _
    rw [show n - ((k + 1 : Nat) : Int) = n - 1 - k by omega, show n - 1 - k + k = n - 1 by omega, h.1]
    omega
theorem rep_bits {f : Int → Int} : ∀ {l : List Int} {n : Int} (k : Nat), rep f n l → k ≤ l.length → (∀ a ∈ l.take k, a = 0 ∨ a = 1) → ∀ j : Nat, j < k → f (n - k + j) = 0 ∨ f (n - k + j) = 1
  | l, n, 0, h, _, _, j, hj => by cases hj
  | [], n, k + 1, h, hk, _, _, _ => by cases hk
  | a :: l, n, k + 1, h, hk, hb, j, hj => by
    rw [List.take_succ_cons] at hb
    by_cases e : j = k
    · rw [show n - ((k + 1 : Nat) : Int) + j = n - 1 by omega, h.1]
      exact hb a List.mem_cons_self
    · have h1 := rep_bits k h.2 (by rw [List.length_cons] at hk; omega) (fun b hb2 => hb b (List.mem_cons_of_mem _ hb2)) j (by omega)
      rw [show n - ((k + 1 : Nat) : Int) + j = n - 1 - k + j by omega]
      exact h1
section Worth
variable {g : Option Nat} {d n : Nat} {P : xP} {M : xM} {F : xM → Int → Prop} {G : xM → Prop}
theorem c_X2_j371 (hn : 82 ≤ n) {z : Int} (H : F M (clipI z)) : xW Y_X2_joined g d 0 0 371 [(3, vJ z)] [] (0, 0) (n, P, M) (kI n P F) := by
  unfold clipI at H
  refine b_X2_joined_371 hn ⟨fun h => ⟨fun h2 => ?_, fun h2 => ?_⟩, fun h => ?_⟩
  · rw [x_cmp_le] at h
    rw [x_cmp_ge] at h2
    rw [if_neg (by omega), if_neg (by omega)] at H
    exact ⟨by constructor <;> omega, H⟩
  · rw [x_cmp_le] at h
    rw [x_cmp_ge] at h2
    rwa [if_neg (by omega), if_pos (by omega)] at H
  · rw [x_cmp_le] at h
    rwa [if_pos (by omega)] at H
theorem c_X2_joined (hn : 82 ≤ n) {o a b : Int} (ho : (o = 23 ∨ o = 76) ∨ (o = 20 ∨ o = 21 ∨ o = 22) ∨ (o = 60 ∨ o = 61 ∨ o = 62 ∨ o = 35 ∨ o = 70 ∨ o = 71) ∨ (o = 42 ∨ o = 43 ∨ o = 45 ∨ o = 47)) (ha : -1000000 ≤ a ∧ a ≤ 1000000) (hb : ¬ (o = 23 ∨ o = 76) → -1000000 ≤ b ∧ b ≤ 1000000) (H : F M (jn o a b)) : xCI Y_X2_joined g d [vI o, vI a, vI b] n P M F :=
  b_X2_joined hn ⟨fun h => absurd ho (by omega), fun h => by subst h; exact ⟨by have := hb (by decide); omega, by rw [jn_20] at H; exact H⟩, fun h => by subst h; exact by rw [jn_21] at H; exact H, fun h => by subst h; exact by rw [jn_22] at H; exact H, fun h => by subst h; exact ⟨by omega, by rw [jn_23] at H; exact H⟩, fun h => absurd ho (by omega), fun h => absurd ho (by omega), fun h => absurd ho (by omega), fun h => absurd ho (by omega), fun h => absurd ho (by omega), fun h => absurd ho (by omega), fun h => absurd ho (by omega), fun h => absurd ho (by omega), fun h => absurd ho (by omega), fun h => absurd ho (by omega), fun h => absurd ho (by omega), fun h => by subst h; exact ⟨fun h2 => by rw [jn_35, bi_f (fun z => z h2)] at H; exact H, fun h2 => by rw [jn_35, bi_t h2] at H; exact H⟩, fun h => absurd ho (by omega), fun h => absurd ho (by omega), fun h => absurd ho (by omega), fun h => absurd ho (by omega), fun h => absurd ho (by omega), fun h => absurd ho (by omega), fun h => by subst h; exact ⟨x_mulL ha (hb (by decide)), c_X2_j371 hn (by rw [jn_42] at H; exact H)⟩, fun h => by subst h; exact ⟨by have := hb (by decide); constructor <;> omega, c_X2_j371 hn (by rw [jn_43] at H; exact H)⟩, fun h => absurd ho (by omega), fun h => by subst h; exact ⟨by have := hb (by decide); constructor <;> omega, c_X2_j371 hn (by rw [jn_45] at H; exact H)⟩, fun h => absurd ho (by omega), fun h => by subst h; exact ⟨fun h2 => ⟨h2, x_tdivR ha, b_X2_joined_370 hn (c_X2_j371 hn (by rw [jn_47, if_neg h2] at H; exact H))⟩, fun h2 => b_X2_joined_370 hn (c_X2_j371 hn (by rw [jn_47, if_pos h2] at H; exact H))⟩, fun h => absurd ho (by omega), fun h => absurd ho (by omega), fun h => absurd ho (by omega), fun h => absurd ho (by omega), fun h => absurd ho (by omega), fun h => absurd ho (by omega), fun h => absurd ho (by omega), fun h => absurd ho (by omega), fun h => absurd ho (by omega), fun h => absurd ho (by omega), fun h => absurd ho (by omega), fun h => absurd ho (by omega), fun h => by subst h; exact ⟨fun h2 => by rw [jn_60, bi_f (by omega)] at H; exact H, fun h2 => by rw [jn_60, bi_t (by omega)] at H; exact H⟩, fun h => by subst h; exact ⟨fun h2 => by rw [jn_61, bi_f h2] at H; exact H, fun h2 => by rw [jn_61, bi_t h2] at H; exact H⟩, fun h => by subst h; exact ⟨fun h2 => by rw [jn_62, bi_f (by omega)] at H; exact H, fun h2 => by rw [jn_62, bi_t (by omega)] at H; exact H⟩, fun h => absurd ho (by omega), fun h => absurd ho (by omega), fun h => absurd ho (by omega), fun h => absurd ho (by omega), fun h => absurd ho (by omega), fun h => absurd ho (by omega), fun h => absurd ho (by omega), fun h => by subst h; exact ⟨fun h2 => by rw [jn_70, bi_f (by omega)] at H; exact H, fun h2 => by rw [jn_70, bi_t (by omega)] at H; exact H⟩, fun h => by subst h; exact ⟨fun h2 => by rw [jn_71, bi_f (by omega)] at H; exact H, fun h2 => by rw [jn_71, bi_t (by omega)] at H; exact H⟩, fun h => absurd ho (by omega), fun h => absurd ho (by omega), fun h => absurd ho (by omega), fun h => absurd ho (by omega), fun h => by subst h; exact ⟨by omega, by rw [jn_76] at H; exact H⟩, trivial⟩
theorem c_X2_wants (hn : 82 ≤ n) {o : Int} (H : F M (if o = 72 ∨ o = 75 ∨ o = 24 then 0 else if o = 23 ∨ o = 76 then 1 else 2)) : xCI Y_X2_wants g d [vI o] n P M F := by
  refine b_X2_wants hn ⟨fun h => ?_, fun h => ⟨fun h2 => ?_, fun h2 => ⟨fun h3 => ⟨fun h4 => ?_, fun h4 => ⟨fun h5 => ?_, fun h5 => ?_⟩⟩, fun h3 => ?_⟩⟩⟩
  · rwa [if_pos (by omega)] at H
  · rwa [if_pos (by omega)] at H
  · rwa [if_neg (by omega), if_pos (by omega)] at H
  · rwa [if_neg (by omega), if_neg (by omega)] at H
  · rwa [if_neg (by omega), if_pos (by omega)] at H
  · rwa [if_pos (by omega)] at H
theorem c_X2_mostAreSo (hn : 82 ≤ n) (hP : x_PP P) {p v : Int} (hp : 0 ≤ p ∧ 0 ≤ v ∧ p + v ≤ 300) (hb : ∀ j : Nat, (j : Int) < v → M 14 (p + j) = 0 ∨ M 14 (p + j) = 1) (H : F M (bi (v < 2 * sumR (M 14) p v.toNat))) : xCI Y_X2_mostAreSo g d [vR (some 12), vI p, vI v] n P M F := by
  have bd : ∀ k : Nat, (k : Int) ≤ v → 0 ≤ sumR (M 14) p k ∧ sumR (M 14) p k ≤ (k : Int) := fun k hk => sumR_bd k (fun j hj => hb j (by omega))
  have fin : xW Y_X2_mostAreSo g d 0 0 39 [(2, vI v), (3, vI (sumR (M 14) p v.toNat))] [] (0, 0) (n, P, M) (kI n P F) := by
    have := bd v.toNat (by omega)
    refine b_X2_mostAreSo_39 hn hP ⟨by omega, fun h => ?_, fun h => ?_⟩
    · rwa [bi_f (by omega)] at H
    · rwa [bi_t (by omega)] at H
  have key := up_ind (p := fun j => xW Y_X2_mostAreSo g d 0 0 5 [(0, vR (some 12)), (1, vI p), (2, vI v), (3, vI (sumR (M 14) p j.toNat)), (4, vI (p + j))] [] (0, 0) (n, P, M) (kI n P F)) (lo := 0) (N := v) ?_ ?_ 0 (by omega) (by omega)
  · rw [show p + 0 = p by omega] at key
    exact b_X2_mostAreSo hn hP key
  · exact b_X2_mostAreSo_5 hn hP ⟨by omega, fun _ => fin, fun h => absurd (Int.le_refl _) h⟩
  · intro j h1 h2 h3
    have b1 := bd j.toNat (by omega)
    have b2 := hb j.toNat (by omega)
    rw [show (j.toNat : Int) = j by omega] at b2
    refine b_X2_mostAreSo_5 hn hP ⟨by omega, fun h => absurd h (by omega), fun _ => ⟨fun h => absurd h (by omega), fun _ => ⟨by omega, by omega, by omega, ?_⟩⟩⟩
    have e : (j + 1).toNat = j.toNat + 1 := by omega
    rw [e] at h3
    have e2 : sumR (M 14) p (j.toNat + 1) = sumR (M 14) p j.toNat + M 14 (p + j) := by
      show sumR (M 14) p j.toNat + M 14 (p + (j.toNat : Int)) = _
      rw [show (j.toNat : Int) = j by omega]
    rw [e2, show p + (j + 1) = p + j + 1 by omega] at h3
    exact h3
theorem c_X7_has (hn : 82 ≤ n) (hP : x_PP P) {t : Nat} (hT : x_Text n P t) {k : Int} (hk : 0 ≤ k ∧ k < 8) (H : F M (bi (M (t + 2) k < M (t + 3) k))) : xCI Y_X7_has g d [vR (some t), vI k] n P M F := by
  refine b_X7_has hn hP hT ⟨fun h => absurd h (by omega), fun _ => ⟨fun h => absurd h (by omega), fun _ => ⟨hk, hk, fun h => ?_, fun h => ?_⟩⟩⟩
  · rwa [bi_f (by omega)] at H
  · rwa [bi_t (by omega)] at H
end Worth
