theorem x_rows4 {n : Nat} {P : xP} (hn : 82 ≤ n) (hP : x_PP P) : x_Rows n P 4 := ⟨cl_4 hn, cl_5 hn, pp_4_0 hP⟩
theorem x_rows6 {n : Nat} {P : xP} (hn : 82 ≤ n) (hP : x_PP P) : x_Rows n P 6 := ⟨cl_6 hn, cl_7 hn, pp_6_0 hP⟩
theorem x_rows8 {n : Nat} {P : xP} (hn : 82 ≤ n) (hP : x_PP P) : x_Rows n P 8 := ⟨cl_8 hn, cl_9 hn, pp_8_0 hP⟩
theorem x_rows10 {n : Nat} {P : xP} (hn : 82 ≤ n) (hP : x_PP P) : x_Rows n P 10 := ⟨cl_10 hn, cl_11 hn, pp_10_0 hP⟩
theorem x_rows29 {n : Nat} {P : xP} (hn : 82 ≤ n) (hP : x_PP P) : x_Rows n P 29 := ⟨cl_29 hn, cl_30 hn, pp_29_0 hP⟩
theorem x_rows31 {n : Nat} {P : xP} (hn : 82 ≤ n) (hP : x_PP P) : x_Rows n P 31 := ⟨cl_31 hn, cl_32 hn, pp_31_0 hP⟩
theorem x_rows33 {n : Nat} {P : xP} (hn : 82 ≤ n) (hP : x_PP P) : x_Rows n P 33 := ⟨cl_33 hn, cl_34 hn, pp_33_0 hP⟩
theorem x_rows35 {n : Nat} {P : xP} (hn : 82 ≤ n) (hP : x_PP P) : x_Rows n P 35 := ⟨cl_35 hn, cl_36 hn, pp_35_0 hP⟩
theorem x_court1 {n : Nat} {P : xP} (hn : 82 ≤ n) (hP : x_PP P) : x_Court n P 1 := ⟨cl_1 hn, cl_2 hn, cl_3 hn, pp_1_0 hP, pp_1_1 hP, pp_1_4 hP, pp_1_5 hP, pp_1_6 hP, pp_1_7 hP, x_rows4 hn hP, x_rows6 hn hP, x_rows8 hn hP, x_rows10 hn hP⟩
theorem x_court26 {n : Nat} {P : xP} (hn : 82 ≤ n) (hP : x_PP P) : x_Court n P 26 := ⟨cl_26 hn, cl_27 hn, cl_28 hn, pp_26_0 hP, pp_26_1 hP, pp_26_4 hP, pp_26_5 hP, pp_26_6 hP, pp_26_7 hP, x_rows29 hn hP, x_rows31 hn hP, x_rows33 hn hP, x_rows35 hn hP⟩
def cKeep (M : xM) : xM := x_upd (x_upd (x_cpy M 2 3 0 (M 1 3 * 64) 64) 1 3 ((M 1 3 + 1) % 30)) 1 2 (if 30 ≤ M 1 2 then M 1 2 else M 1 2 + 1)
def cBack (M : xM) : xM := x_cpy (x_upd (x_upd M 1 2 (M 1 2 - 1)) 1 3 ((M 1 3 + 29) % 30)) 3 2 (((M 1 3 + 29) % 30) * 64) 0 64
/-- a row more -/
def cAdd (M : xM) (r : Nat) (a b c e : Int) : xM := x_upd (x_blk M (r + 1) (4 * M r 1) 4 (fun j => if j = 4 * M r 1 then a else if j = 4 * M r 1 + 1 then b else if j = 4 * M r 1 + 2 then c else e)) r 1 (M r 1 + 1)
section Cls1
variable {g : Option Nat} {d n : Nat} {P : xP} {M : xM} {F : xM → Int → Prop} {G : xM → Prop}
theorem c_X9_within (hn : 82 ≤ n) {a0 a1 a2 : Int} (H : F M (bi (a1 ≤ a0 ∧ a0 ≤ a2))) : xCI Y_X9_within g d [vI a0, vI a1, vI a2] n P M F := by
  refine b_X9_within hn ⟨fun h => ?_, fun h => ⟨fun h2 => ?_, fun h2 => ?_⟩⟩
  · rwa [bi_f (by omega)] at H
  · rwa [bi_f (by omega)] at H
  · rwa [bi_t (by omega)] at H
theorem c_X5_isFull (hn : 82 ≤ n) (hP : x_PP P) {r : Nat} (hR : x_Rows n P r) (H : F M (bi (8 ≤ M r 1))) : xCI Y_X5_isFull g d [vR (some r)] n P M F := by
  refine b_X5_isFull hn hP hR ⟨fun h => ?_, fun h => ?_⟩
  · rwa [bi_f (by omega)] at H
  · rwa [bi_t (by omega)] at H
theorem c_X5_has (hn : 82 ≤ n) (hP : x_PP P) {r : Nat} (hR : x_Rows n P r) {i : Int} (h8 : M r 1 ≤ 8) (H : F M (bi (0 ≤ i ∧ i < M r 1))) : xCI Y_X5_has g d [vR (some r), vI i] n P M F := by
  refine b_X5_has hn hP hR ⟨fun h => ?_, fun h => ⟨fun h2 => ?_, fun h2 => ⟨fun h3 => ?_, fun h3 => ?_⟩⟩⟩
  · rwa [bi_f (by omega)] at H
  · rwa [bi_f (by omega)] at H
  · exact absurd h3 (by omega)
  · rwa [bi_t (by omega)] at H
theorem c_X5_at (hn : 82 ≤ n) (hP : x_PP P) {r : Nat} (hR : x_Rows n P r) {i j : Int} (h8 : M r 1 ≤ 8) (hi : 0 ≤ i ∧ i < M r 1) (hj : 0 ≤ j ∧ j < 4) (H : F M (M (r + 1) (4 * i + j))) : xCI Y_X5_at g (d + 1) [vR (some r), vI i, vI j] n P M F := by
  refine b_X5_at hn hP hR (c_X5_has hn hP hR h8 ⟨fun h => absurd hi (bi_0.mp h), fun _ => ⟨fun h => absurd h (by omega), fun _ => ⟨fun h => absurd h (by omega), fun _ => ⟨by omega, by omega, by omega, ?_⟩⟩⟩⟩)
  rwa [show i * 4 + j = 4 * i + j by omega]
theorem c_X5_add (hn : 82 ≤ n) (hP : x_PP P) {r : Nat} (hR : x_Rows n P r) {a b c e : Int} (h : 0 ≤ M r 1 ∧ M r 1 < 8) (H : F (cAdd M r a b c e) (M r 1 + 1)) : xCI Y_X5_add g d [vR (some r), vI a, vI b, vI c, vI e] n P M F := by
  refine b_X5_add hn hP hR ⟨fun h1 => absurd h1 (by omega), fun _ => ⟨fun h1 => absurd h1 (by omega), fun _ => ?_⟩⟩
  have hne : r ≠ r + 1 := by omega
  simp only [x_upd_nb hne, x_upd_at]
  unfold cAdd at H
  generalize hs : M r 1 = s at H h ⊢
  refine ⟨by omega, by omega, by omega, by omega, by omega, by omega, by omega, by omega, by omega, by omega, by omega, by omega, ?_⟩
  have e1 : x_upd (x_upd (x_upd (x_upd M (r + 1) (s * 4) a) (r + 1) (s * 4 + 1) b) (r + 1) (s * 4 + 2) c) (r + 1) (s * 4 + 3) e = x_blk M (r + 1) (4 * s) 4 (fun j => if j = 4 * s then a else if j = 4 * s + 1 then b else if j = 4 * s + 2 then c else e) := by
    funext k j
    unfold x_upd x_blk
    by_cases hk : k = r + 1
    · simp only [hk, true_and]
      (repeat' split) <;> first | rfl | omega
    · rw [if_neg (fun z => hk z.1), if_neg (fun z => hk z.1), if_neg (fun z => hk z.1), if_neg (fun z => hk z.1), if_neg (fun z => hk z.1)]
  rw [e1]
  exact H
theorem c_X5_empty (hn : 82 ≤ n) (hP : x_PP P) {r : Nat} (hR : x_Rows n P r) (H : F (x_upd M r 1 0) 0) : xCI Y_X5_empty g d [vR (some r)] n P M F := by
  refine b_X5_empty hn hP hR ?_
  rw [x_upd_at]
  exact H
theorem c_X0_keepStep (hn : 82 ≤ n) (hP : x_PP P) (h1 : 0 ≤ M 1 3 ∧ M 1 3 < 30) (h2 : 0 ≤ M 1 2 ∧ M 1 2 ≤ 30) (H : G (cKeep M)) : xCV Y_X0_keepStep none (d + 1) [vR (some 1)] n P M G := by
  have e1 : ∀ j, x_cpy M 2 3 0 (M 1 3 * 64) 64 1 j = M 1 j := fun j => if_neg (fun z => absurd z.1 (by decide))
  have e2 : (M 1 3 + 1).tmod 30 = (M 1 3 + 1) % 30 := Int.tmod_eq_emod_of_nonneg (by omega)
  unfold cKeep at H
  refine b_X0_keepStep hn hP ⟨by omega, by omega, ?_⟩
  rw [e1, e1, e2]
  refine ⟨by omega, fun h => ?_, fun h => ⟨by omega, ?_⟩⟩
  · rw [if_pos h] at H
    have e3 : x_upd (x_upd (x_cpy M 2 3 0 (M 1 3 * 64) 64) 1 3 ((M 1 3 + 1) % 30)) 1 2 (M 1 2) = x_upd (x_cpy M 2 3 0 (M 1 3 * 64) 64) 1 3 ((M 1 3 + 1) % 30) := by
      funext b j
      by_cases hb : b = 1 ∧ j = 2
      · rw [hb.1, hb.2, x_upd_at, x_upd_nj (by decide), e1]
      · exact if_neg hb
    rwa [e3] at H
  · rwa [if_neg h] at H
theorem c_X0_takeBack (hn : 82 ≤ n) (hP : x_PP P) (h1 : 0 ≤ M 1 3 ∧ M 1 3 < 30) (h2 : 0 ≤ M 1 2 ∧ M 1 2 ≤ 30) (H0 : M 1 2 = 0 → F M 0) (H1 : M 1 2 ≠ 0 → F (cBack M) 1) : xCI Y_X0_takeBack none (d + 1) [vR (some 1)] n P M F := by
  refine b_X0_takeBack hn hP ⟨fun h => ?_, H0⟩
  have e2 : (M 1 3 + 30 - 1).tmod 30 = (M 1 3 + 29) % 30 := by
    rw [show M 1 3 + 30 - 1 = M 1 3 + 29 by omega]
    exact Int.tmod_eq_emod_of_nonneg (by omega)
  rw [e2]
  exact ⟨by omega, by omega, by omega, by omega, by omega, H1 h⟩
theorem c_X0_hoursLeft (hn : 82 ≤ n) (hP : x_PP P) (h : 0 ≤ M 2 3 ∧ M 2 3 ≤ 9999) (H : F M (9999 - M 2 3)) : xCI Y_X0_hoursLeft g d [vR (some 1)] n P M F :=
  b_X0_hoursLeft hn hP ⟨by omega, H⟩
theorem c_X0_isWaiting (hn : 82 ≤ n) (hP : x_PP P) {c : Int} (h8 : M 4 1 ≤ 8) (H : F M (bi ((0 ≤ c ∧ c < M 4 1) ∧ M 2 (10 + c) = 0))) : xCI Y_X0_isWaiting g (d + 1) [vR (some 1), vI c] n P M F := by
  refine b_X0_isWaiting hn hP (c_X5_has hn hP (x_rows4 hn hP) h8 ⟨fun h => ?_, fun h => ?_⟩)
  · rwa [bi_f (fun z => bi_0.mp h z.1)] at H
  · have h1 := bi_n0.mp h
    refine ⟨by omega, by omega, fun h2 => ?_, fun h2 => ?_⟩
    · rwa [bi_f (fun z => h2 z.2)] at H
    · rwa [bi_t ⟨h1, h2⟩] at H
theorem c_X0_canBring (hn : 82 ≤ n) (hP : x_PP P) {c : Int} (h8 : M 4 1 ≤ 8) (H : F M (bi (((0 ≤ c ∧ c < M 4 1) ∧ M 2 (10 + c) = 0) ∧ M 2 5 = -1))) : xCI Y_X0_canBring g (d + 2) [vR (some 1), vI c] n P M F := by
  refine b_X0_canBring hn hP (c_X0_isWaiting hn hP h8 ⟨fun h => ?_, fun h => ⟨fun h2 => ?_, fun h2 => ?_⟩⟩)
  · rwa [bi_f (fun z => bi_0.mp h z.1)] at H
  · rwa [bi_f (fun z => h2 z.2)] at H
  · rwa [bi_t ⟨bi_n0.mp h, h2⟩] at H
theorem c_X0_bring (hn : 82 ≤ n) (hP : x_PP P) {c : Int} (h8 : M 4 1 ≤ 8) (hc : 0 ≤ c ∧ c < M 4 1) (H : G (x_upd (x_upd M 2 5 c) 2 (10 + c) 1)) : xCV Y_X0_bring g (d + 1) [vR (some 1), vI c] n P M G :=
  b_X0_bring hn hP (c_X5_has hn hP (x_rows4 hn hP) h8 ⟨fun h => absurd hc (bi_0.mp h), fun _ => ⟨by omega, by omega, H⟩⟩)
theorem c_X0_canPutOff (hn : 82 ≤ n) (hP : x_PP P) (H : F M (bi (M 2 5 ≠ -1 ∧ M 2 8 < 3))) : xCI Y_X0_canPutOff g d [vR (some 1)] n P M F := by
  refine b_X0_canPutOff hn hP ⟨fun h => ?_, fun h => ⟨fun h2 => ?_, fun h2 => ?_⟩⟩
  · rwa [bi_f (fun z => z.1 h)] at H
  · rwa [bi_f (fun z => by omega)] at H
  · rwa [bi_t ⟨h, by omega⟩] at H
theorem c_X0_putOff (hn : 82 ≤ n) (hP : x_PP P) (h : 0 ≤ M 2 8 ∧ M 2 8 < 3) (H : G (x_upd M 2 8 (M 2 8 + 1))) : xCV Y_X0_putOff g d [vR (some 1)] n P M G :=
  b_X0_putOff hn hP ⟨by omega, H⟩
theorem c_X0_canReopen (hn : 82 ≤ n) (hP : x_PP P) {c : Int} (h8 : M 4 1 ≤ 8) (H : F M (bi ((0 ≤ c ∧ c < M 4 1) ∧ M 2 (10 + c) = 3 ∧ M 2 (26 + c) = 0))) : xCI Y_X0_canReopen g (d + 1) [vR (some 1), vI c] n P M F := by
  refine b_X0_canReopen hn hP (c_X5_has hn hP (x_rows4 hn hP) h8 ⟨fun h => ?_, fun h => ?_⟩)
  · rwa [bi_f (fun z => bi_0.mp h z.1)] at H
  · have h1 := bi_n0.mp h
    refine ⟨by omega, by omega, fun h2 => ?_, fun h2 => ⟨by omega, by omega, fun h3 => ?_, fun h3 => ?_⟩⟩
    · rwa [bi_f (fun z => h2 z.2.1)] at H
    · rwa [bi_f (fun z => h3 z.2.2)] at H
    · rwa [bi_t ⟨h1, h2, h3⟩] at H
theorem c_X0_reopen (hn : 82 ≤ n) (hP : x_PP P) {c : Int} (h8 : M 4 1 ≤ 8) (hc : 0 ≤ c ∧ c < M 4 1) (H : G (x_upd (x_upd (x_upd M 2 (10 + c) 0) 2 (18 + c) 0) 2 (26 + c) 1)) : xCV Y_X0_reopen g (d + 1) [vR (some 1), vI c] n P M G :=
  b_X0_reopen hn hP (c_X5_has hn hP (x_rows4 hn hP) h8 ⟨fun h => absurd hc (bi_0.mp h), fun _ => ⟨by omega, by omega, by omega, by omega, by omega, by omega, H⟩⟩)
theorem c_X0_release (hn : 82 ≤ n) (hP : x_PP P) {c w : Int} (h8 : M 4 1 ≤ 8) (hc : 0 ≤ c ∧ c < M 4 1) (H : G (x_upd (x_upd (x_upd (x_upd (x_upd M 2 (10 + c) w) 2 5 (-1)) 2 6 0) 2 7 0) 2 8 0)) : xCV Y_X0_release g (d + 1) [vR (some 1), vI c, vI w] n P M G :=
  b_X0_release hn hP (c_X5_has hn hP (x_rows4 hn hP) h8 ⟨fun h => absurd hc (bi_0.mp h), fun _ => ⟨by omega, by omega, H⟩⟩)
theorem c_X9_nextX (hn : 82 ≤ n) {x : Int} (h : 0 ≤ x ∧ x < 30389) (H : F M ((x * 331 + 223) % 30389)) : xCI Y_X9_nextX g d [vI x] n P M F := by
  refine b_X9_nextX hn ⟨by omega, by omega, ?_⟩
  rwa [Int.tmod_eq_emod_of_nonneg (by omega)]
theorem c_X0_drawX (hn : 82 ≤ n) (hP : x_PP P) (h : 0 ≤ M 2 4 ∧ M 2 4 < 30389) (H : F (x_upd M 2 4 ((M 2 4 * 331 + 223) % 30389)) (M 2 4)) : xCI Y_X0_drawX g (d + 1) [vR (some 1)] n P M F :=
  b_X0_drawX hn hP (c_X9_nextX hn h H)
theorem c_X5_copyFrom (hn : 82 ≤ n) (hP : x_PP P) {r q : Nat} (hR : x_Rows n P r) (hS : x_Rows n P q) (hrq : q ≠ r + 1) (H : G (x_upd (x_cpy M (q + 1) (r + 1) 0 0 32) r 1 (M q 1))) : xCV Y_X5_copyFrom none (d + 1) [vR (some r), vR (some q)] n P M G := by
  refine b_X5_copyFrom hn hP hR hS ?_
  have e : x_cpy M (q + 1) (r + 1) 0 0 32 q 1 = M q 1 := if_neg (fun z => hrq z.1)
  rw [e]
  exact H
end Cls1
