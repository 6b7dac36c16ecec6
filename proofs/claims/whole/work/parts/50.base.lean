/-! contracts by hand: small words -/
def bi (p : Prop) [Decidable p] : Int := if p then 1 else 0
theorem bi_t {p : Prop} [Decidable p] (h : p) : bi p = 1 := if_pos h
theorem bi_f {p : Prop} [Decidable p] (h : ¬ p) : bi p = 0 := if_neg h
theorem bi_0 {p : Prop} [Decidable p] : bi p = 0 ↔ ¬ p := by
  unfold bi
  by_cases h : p
  · rw [if_pos h]; exact ⟨fun q => absurd q (by decide), fun q => absurd h q⟩
  · rw [if_neg h]; exact ⟨fun _ => h, fun _ => rfl⟩
theorem bi_1 {p : Prop} [Decidable p] : bi p = 1 ↔ p := by
  unfold bi
  by_cases h : p
  · rw [if_pos h]; exact ⟨fun _ => h, fun _ => rfl⟩
  · rw [if_neg h]; exact ⟨fun q => absurd q (by decide), fun q => absurd q h⟩
theorem bi_n0 {p : Prop} [Decidable p] : ¬ bi p = 0 ↔ p := by
  rw [bi_0]
  exact Decidable.not_not
theorem bi_or (p : Prop) [Decidable p] : bi p = 0 ∨ bi p = 1 := by
  unfold bi
  by_cases h : p
  · rw [if_pos h]; exact Or.inr rfl
  · rw [if_neg h]; exact Or.inl rfl
theorem bi_congr {p q : Prop} [Decidable p] [Decidable q] (h : p ↔ q) : bi p = bi q := by
  unfold bi
  by_cases hp : p
  · rw [if_pos hp, if_pos (h.mp hp)]
  · rw [if_neg hp, if_neg (fun z => hp (h.mpr z))]
theorem x_upd_at (M : xM) (a : Nat) (i v : Int) : x_upd M a i v a i = v := if_pos ⟨rfl, rfl⟩
theorem x_upd_nj {M : xM} {a b : Nat} {i j v : Int} (h : j ≠ i) : x_upd M a i v b j = M b j := if_neg (fun z => h z.2)
theorem x_upd_nb {M : xM} {a b : Nat} {i j v : Int} (h : b ≠ a) : x_upd M a i v b j = M b j := if_neg (fun z => h z.1)
theorem x_upd_eq {M : xM} {a : Nat} {i j v : Int} (h : j = i) : x_upd M a i v a j = v := if_pos ⟨rfl, h⟩
/-- a stretch of a cell set anew -/
def x_blk (M : xM) (t : Nat) (lo k : Int) (f : Int → Int) : xM := fun b j => if b = t ∧ lo ≤ j ∧ j < lo + k then f j else M b j
theorem x_blk_0 (M : xM) (t : Nat) (lo : Int) (f : Int → Int) : x_blk M t lo 0 f = M := by
  funext b j
  exact if_neg (fun z => by omega)
theorem x_blk_succ {M : xM} {t : Nat} {lo k v : Int} {f : Int → Int} {i : Int} (hk : 0 ≤ k) (hi : i = lo + k) (hv : v = f i) : x_upd (x_blk M t lo k f) t i v = x_blk M t lo (k + 1) f := by
  funext b j
  unfold x_upd x_blk
  by_cases hb : b = t
  · by_cases hj : j = i
    · rw [if_pos ⟨hb, hj⟩, if_pos ⟨hb, by omega, by omega⟩, hv, hj]
    · rw [if_neg (fun z => hj z.2)]
      by_cases h1 : lo ≤ j ∧ j < lo + k
      · rw [if_pos ⟨hb, h1⟩, if_pos ⟨hb, h1.1, by omega⟩]
      · rw [if_neg (fun z => h1 z.2), if_neg (fun z => h1 ⟨z.2.1, by omega⟩)]
  · rw [if_neg (fun z => hb z.1), if_neg (fun z => hb z.1), if_neg (fun z => hb z.1)]
theorem x_blk_out {M : xM} {t b : Nat} {lo k j : Int} {f : Int → Int} (h : ¬ (b = t ∧ lo ≤ j ∧ j < lo + k)) : x_blk M t lo k f b j = M b j := if_neg h
theorem x_blk_in {M : xM} {t : Nat} {lo k j : Int} {f : Int → Int} (h1 : lo ≤ j) (h2 : j < lo + k) : x_blk M t lo k f t j = f j := if_pos ⟨rfl, h1, h2⟩
theorem x_cpy_blk (M : xM) (s t : Nat) (sp dp k : Int) : x_cpy M s t sp dp k = x_blk M t dp k (fun j => M s (sp + (j - dp))) := rfl
theorem up_ind {p : Int → Prop} {lo N : Int} (hN : p N) (step : ∀ i, lo ≤ i → i < N → p (i + 1) → p i) : ∀ i, lo ≤ i → i ≤ N → p i := by
  have key : ∀ (k : Nat) (i : Int), lo ≤ i → i ≤ N → N - i = (k : Int) → p i := by
    intro k
    induction k with
    | zero =>
      intro i h1 h2 h3
      have : i = N := by omega
      rw [this]; exact hN
    | succ k ih =>
      intro i h1 h2 h3
      exact step i h1 (by omega) (ih (i + 1) (by omega) (by omega) (by omega))
  intro i h1 h2
  exact key (N - i).toNat i h1 h2 (by omega)
section RefBase
variable {g : Option Nat} {d n : Nat} {P : xP} {M : xM} {F : xM → Int → Prop} {G : xM → Prop}
theorem c_X10_isIn (hn : 82 ≤ n) {a0 a1 a2 : Int} (H : F M (bi (a1 ≤ a0 ∧ a0 ≤ a2))) : xCI Y_X10_isIn g d [vI a0, vI a1, vI a2] n P M F := by
  refine b_X10_isIn hn ⟨fun h => ?_, fun h => ⟨fun h2 => ?_, fun h2 => ?_⟩⟩
  · rwa [bi_f (by omega)] at H
  · rwa [bi_f (by omega)] at H
  · rwa [bi_t (by omega)] at H
theorem c_X10_isCase (hn : 82 ≤ n) (hP : x_PP P) {c : Int} (h0 : 0 ≤ M 65 0 ∧ M 65 0 ≤ 8) (H : F M (bi (0 ≤ c ∧ c < M 65 0))) : xCI Y_X10_isCase g (d + 1) [vR (some 64), vI c] n P M F := by
  refine b_X10_isCase hn hP ⟨by omega, c_X10_isIn hn ⟨bi_or _, ?_⟩⟩
  rwa [bi_congr (show (0 ≤ c ∧ c ≤ M 65 0 - 1) ↔ (0 ≤ c ∧ c < M 65 0) by omega)]
theorem c_X10_get (hn : 82 ≤ n) (hP : x_PP P) {c w : Int} (h1 : 0 ≤ c ∧ c < 8) (h2 : 0 ≤ w ∧ w < 7) (H : F M (M 65 (20 + 7 * c + w))) : xCI Y_X10_get g d [vR (some 64), vI c, vI w] n P M F :=
  b_X10_get hn hP ⟨by omega, by omega, by omega, by omega, H⟩
theorem c_X10_put (hn : 82 ≤ n) (hP : x_PP P) {c w v : Int} (h1 : 0 ≤ c ∧ c < 8) (h2 : 0 ≤ w ∧ w < 7) (H : G (x_upd M 65 (20 + 7 * c + w) v)) : xCV Y_X10_put g d [vR (some 64), vI c, vI w, vI v] n P M G :=
  b_X10_put hn hP ⟨by omega, by omega, by omega, by omega, H⟩
theorem c_X10_isWaiting (hn : 82 ≤ n) (hP : x_PP P) {c : Int} (h0 : 0 ≤ M 65 0 ∧ M 65 0 ≤ 8) (H : F M (bi ((0 ≤ c ∧ c < M 65 0) ∧ M 65 (20 + 7 * c + 4) = 0))) : xCI Y_X10_isWaiting g (d + 2) [vR (some 64), vI c] n P M F := by
  refine b_X10_isWaiting hn hP (c_X10_isCase hn hP h0 ⟨fun h => ?_, fun h => ?_⟩)
  · rwa [bi_f (fun z => bi_0.mp h z.1)] at H
  · have h1 := bi_n0.mp h
    refine c_X10_get hn hP (by omega) (by omega) ⟨fun h2 => ?_, fun h2 => ?_⟩
    · rwa [bi_f (fun z => h2 z.2)] at H
    · rwa [bi_t ⟨h1, h2⟩] at H
theorem c_X10_copy (hn : 82 ≤ n) (hP : x_PP P) {u v : Nat} (hu : x_cell n u 0 3642) (hv : x_cell n v 0 3642) (huv : u ≠ v) (H : G (x_blk M v 0 3642 (fun j => M u j))) : xCV Y_X10_copy g d [vR (some u), vR (some v)] n P M G := by
  have key := up_ind (p := fun i => xW Y_X10_copy g d 0 0 2 [(0, vR (some u)), (1, vR (some v)), (2, vI i)] [] (0, 0) (n, P, x_blk M v 0 i (fun j => M u j)) (kV n P G)) (lo := 0) (N := 3642) ?_ ?_ 0 (by omega) (by omega)
  · rw [x_blk_0] at key
    exact b_X10_copy hn hP hu hv key
  · exact b_X10_copy_2 hn hP hu hv ⟨fun _ => H, fun h => absurd (Int.le_refl _) h⟩
  · intro i h1 h2 h3
    refine b_X10_copy_2 hn hP hu hv ⟨fun h => absurd h (by omega), fun _ => ⟨by omega, by omega, by omega, ?_⟩⟩
    rw [x_blk_out (fun z => huv z.1), x_blk_succ h1 (by omega) rfl]
    exact h3
end RefBase
