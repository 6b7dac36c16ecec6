theorem x_upd_comm {M : xM} {a b : Nat} {i j v w : Int} (h : a ≠ b) : x_upd (x_upd M a i v) b j w = x_upd (x_upd M b j w) a i v := by
  funext c k
  unfold x_upd
  by_cases h1 : c = b ∧ k = j
  · rw [if_pos h1, if_neg (fun z => h (z.1.symm.trans h1.1)), if_pos h1]
  · rw [if_neg h1]
    by_cases h2 : c = a ∧ k = i
    · rw [if_pos h2, if_pos h2]
    · rw [if_neg h2, if_neg h2, if_neg h1]
theorem x_upd_upd (M : xM) (a : Nat) (i v w : Int) : x_upd (x_upd M a i v) a i w = x_upd M a i w := by
  funext c k
  unfold x_upd
  by_cases h : c = a ∧ k = i
  · rw [if_pos h, if_pos h]
  · rw [if_neg h, if_neg h, if_neg h]
/-- undo(): what a[] becomes -/
def rUndo (f : Int → Int) : Int → Int := fun j =>
  if j = 3 then f 3 - 1
  else if 8 ≤ j ∧ j < 18 then f (132 + 35 * (f 3 - 1) + 1 + (j - 8))
  else if 24 ≤ j ∧ 4 ≤ (j - 20) % 7 ∧ j < 24 + 7 * f 0 then (if (j - 20) / 7 < f (132 + 35 * (f 3 - 1)) then f (132 + 35 * (f 3 - 1) + 11 + 3 * ((j - 20) / 7) + ((j - 20) % 7 - 4)) else 0)
  else f j
/-- four bytes of a number, the first the highest -/
def by4 (v i : Int) : Int := x_and (x_shr v (24 - 8 * i)) 255
def rCase (f : Int → Int) (k g e s : Int) : Int → Int := fun j => if j = 0 then f 0 + 1 else if j = 20 + 7 * f 0 then k else if j = 21 + 7 * f 0 then g else if j = 22 + 7 * f 0 then e else if j = 23 + 7 * f 0 then s else if 24 + 7 * f 0 ≤ j ∧ j < 27 + 7 * f 0 then 0 else f j
section Ref3
variable {g : Option Nat} {d n : Nat} {P : xP} {M : xM} {F : xM → Int → Prop} {G : xM → Prop}
theorem c_X10_undo (hn : 82 ≤ n) (hP : x_PP P) (hs : 0 ≤ M 65 3 ∧ M 65 3 ≤ 30) (h0 : 0 ≤ M 65 0 ∧ M 65 0 ≤ 8) (H0 : M 65 3 = 0 → F M (-1)) (H1 : M 65 3 ≠ 0 → F (setA M 65 (rUndo (M 65))) (M 65 3 - 1)) : xCI Y_X10_undo g (d + 1) [vR (some 64)] n P M F := by
  refine b_X10_undo hn hP ⟨fun h => ⟨by omega, by omega, by omega, ?_⟩, H0⟩
  have H2 := H1 h
  generalize hx : 132 + 35 * (M 65 3 - 1) = x
  have hx1 : 132 ≤ x ∧ x ≤ 1147 := by omega
  let M1 : xM := x_upd M 65 3 (M 65 3 - 1)
  let f2 : Int → Int := fun j => M 65 (x + 1 + (j - 8))
  let M2 : xM := x_blk M1 65 8 10 f2
  let v3 : Int → Int := fun j => if (j - 20) / 7 < M 65 x then M 65 (x + 11 + 3 * ((j - 20) / 7) + ((j - 20) % 7 - 4)) else 0
  let M3 : Int → xM := fun B => setA M2 65 (fun j => if 24 ≤ j ∧ 4 ≤ (j - 20) % 7 ∧ j < B then v3 j else M2 65 j)
  have e0 : M2 65 0 = M 65 0 := by
    show x_blk M1 65 8 10 f2 65 0 = _
    rw [x_blk_out (by omega)]
    exact x_upd_nj (by omega)
  have ehi : ∀ j, 18 ≤ j → M2 65 j = M 65 j := by
    intro j hj
    show x_blk M1 65 8 10 f2 65 j = _
    rw [x_blk_out (by omega)]
    exact x_upd_nj (by omega)
  have key := up_ind (p := fun i => xW Y_X10_undo g (d + 1) 0 0 37 [(0, vR (some 64)), (1, vI x), (2, vI i)] [] (0, 0) (n, P, x_blk M1 65 8 i f2) (kI n P F)) (lo := 0) (N := 10) ?_ ?_ 0 (by omega) (by omega)
  · rw [x_blk_0] at key
    exact key
  · refine b_X10_undo_37 hn hP ⟨fun _ => ?_, fun h => absurd (Int.le_refl _) h⟩
    have key2 := up_ind (p := fun c => xW Y_X10_undo g (d + 1) 0 0 70 [(0, vR (some 64)), (1, vI x), (2, vI c)] [] (0, 0) (n, P, M3 (24 + 7 * c)) (kI n P F)) (lo := 0) (N := M 65 0) ?_ ?_ 0 (by omega) (by omega)
    · have em : M3 (24 + 7 * 0) = M2 := by
        show setA M2 65 _ = M2
        funext b j
        unfold setA
        by_cases hb : b = 65
        · rw [if_pos hb]; dsimp only; rw [if_neg (by omega), hb]
        · rw [if_neg hb]
      rw [em] at key2
      exact key2
    · have a0 : M3 (24 + 7 * M 65 0) 65 0 = M 65 0 := by
        show setA M2 65 _ 65 0 = _
        rw [setA_at, if_neg (by omega), e0]
      refine b_X10_undo_70 hn hP ⟨fun _ => ?_, fun h => absurd (by rw [a0]; exact Int.le_refl _) h⟩
      have a3 : M3 (24 + 7 * M 65 0) 65 3 = M 65 3 - 1 := by
        show setA M2 65 _ 65 3 = _
        rw [setA_at, if_neg (by omega)]
        show x_blk M1 65 8 10 f2 65 3 = _
        rw [x_blk_out (by omega)]
        exact x_upd_at _ _ _ _
      rw [a3]
      have em : M3 (24 + 7 * M 65 0) = setA M 65 (rUndo (M 65)) := by
        funext b j
        show setA M2 65 _ b j = _
        by_cases hb : b = 65
        · subst hb
          rw [setA_at, setA_at]
          unfold rUndo
          rw [hx]
          by_cases h3 : j = 3
          · rw [if_pos h3, if_neg (by omega), h3]
            show x_blk M1 65 8 10 f2 65 3 = _
            rw [x_blk_out (by omega)]
            exact x_upd_at _ _ _ _
          · rw [if_neg h3]
            by_cases h8 : 8 ≤ j ∧ j < 18
            · rw [if_pos h8, if_neg (by omega)]
              show x_blk M1 65 8 10 f2 65 j = _
              rw [x_blk_in h8.1 (by omega)]
            · rw [if_neg h8]
              by_cases hq : 24 ≤ j ∧ 4 ≤ (j - 20) % 7 ∧ j < 24 + 7 * M 65 0
              · rw [if_pos hq, if_pos hq]
              · rw [if_neg hq, if_neg hq]
                show x_blk M1 65 8 10 f2 65 j = _
                rw [x_blk_out (by omega)]
                exact x_upd_nj h3
        · unfold setA
          rw [if_neg hb, if_neg hb]
          show x_blk M1 65 8 10 f2 b j = _
          rw [x_blk_out (fun z => hb z.1)]
          exact x_upd_nb hb
      rw [em]
      exact H2
    · intro c hc1 hc2 hc3
      have a0 : M3 (24 + 7 * c) 65 0 = M 65 0 := by
        show setA M2 65 _ 65 0 = _
        rw [setA_at, if_neg (by omega), e0]
      refine b_X10_undo_70 hn hP ⟨fun h => absurd h (by rw [a0]; omega), fun _ => ?_⟩
      have key3 := up_ind (p := fun k => xW Y_X10_undo g (d + 1) 0 0 82 [(0, vR (some 64)), (1, vI x), (2, vI c), (3, vI k)] [] (0, 0) (n, P, M3 (24 + 7 * c + k)) (kI n P F)) (lo := 0) (N := 3) ?_ ?_ 0 (by omega) (by omega)
      · rw [Int.add_zero] at key3
        exact key3
      · refine b_X10_undo_82 hn hP ⟨fun _ => ⟨by omega, ?_⟩, fun h => absurd (Int.le_refl _) h⟩
        have em : M3 (24 + 7 * c + 3) = M3 (24 + 7 * (c + 1)) := by
          show setA M2 65 _ = setA M2 65 _
          congr 1
          funext j
          by_cases h1 : 24 ≤ j ∧ 4 ≤ (j - 20) % 7 ∧ j < 24 + 7 * c + 3
          · rw [if_pos h1, if_pos (by omega)]
          · rw [if_neg h1, if_neg (by omega)]
        rw [em]
        exact hc3
      · intro k hk1 hk2 hk3
        have ax : M3 (24 + 7 * c + k) 65 x = M 65 x := by
          show setA M2 65 _ 65 x = _
          rw [setA_at, if_neg (by omega), ehi x (by omega)]
        have step : ∀ s0 : Int, s0 = v3 (24 + 7 * c + k) → xW Y_X10_undo g (d + 1) 0 0 121 [(0, vR (some 64)), (1, vI x), (2, vI c), (3, vI k)] [vI s0, vI (4 + k), vI c, vR (some 64)] (0, 0) (n, P, M3 (24 + 7 * c + k)) (kI n P F) := by
          intro s0 hs0
          refine b_X10_undo_121 hn hP (c_X10_put hn hP (by omega) (by omega) ⟨by omega, ?_⟩)
          have em : x_upd (M3 (24 + 7 * c + k)) 65 (20 + 7 * c + (4 + k)) s0 = M3 (24 + 7 * c + (k + 1)) := by
            show x_upd (setA M2 65 _) 65 _ _ = setA M2 65 _
            rw [x_upd_setA]
            congr 1
            funext j
            by_cases hj : j = 20 + 7 * c + (4 + k)
            · rw [if_pos hj, if_pos (by omega), hs0]
              congr 1
              omega
            · rw [if_neg hj]
              by_cases h1 : 24 ≤ j ∧ 4 ≤ (j - 20) % 7 ∧ j < 24 + 7 * c + k
              · rw [if_pos h1, if_pos (by omega)]
              · rw [if_neg h1, if_neg (by omega)]
          rw [em]
          exact hk3
        refine b_X10_undo_82 hn hP ⟨fun h => absurd h (by omega), fun _ => ⟨by omega, by omega, fun h => ?_, fun h => ⟨by omega, by omega, by omega, by omega, by omega, ?_⟩⟩⟩
        · rw [ax] at h
          refine step 0 ?_
          show (0 : Int) = if _ then _ else _
          rw [if_neg (by omega)]
        · rw [ax] at h
          refine step _ ?_
          show _ = (if _ then _ else _ : Int)
          rw [if_pos (by omega)]
          show setA M2 65 _ 65 _ = _
          rw [setA_at, if_neg (by omega), ehi _ (by omega)]
          congr 1
          omega
  · intro i h1 h2 h3
    refine b_X10_undo_37 hn hP ⟨fun h => absurd h (by omega), fun _ => ⟨by omega, by omega, by omega, by omega, by omega, by omega, ?_⟩⟩
    have ev : x_blk M1 65 8 i f2 65 (x + 1 + i) = f2 (8 + i) := by
      rw [x_blk_out (by omega)]
      show x_upd M 65 3 _ 65 _ = M 65 _
      rw [x_upd_nj (by omega)]
      congr 1
      omega
    rw [ev, x_blk_succ h1 rfl rfl]
    exact h3
theorem c_X10_four (hn : 82 ≤ n) (hP : x_PP P) {v : Int} (h0 : 0 ≤ M 64 4 ∧ M 64 4 ≤ 296) (H : G (x_upd (x_blk M 68 (M 64 4) 4 (fun j => by4 v (j - M 64 4))) 64 4 (M 64 4 + 4))) : xCV Y_X10_four g d [vR (some 64), vI v] n P M G := by
  generalize hT : M 64 4 = T
  rw [hT] at H h0
  have key := up_ind (p := fun i => xW Y_X10_four g d 0 0 3 [(0, vR (some 64)), (1, vI v), (2, vI (24 - 8 * i))] [] (0, 0) (n, P, x_upd (x_blk M 68 T i (fun j => by4 v (j - T))) 64 4 (T + i)) (kV n P G)) (lo := 0) (N := 4) ?_ ?_ 0 (by omega) (by omega)
  · rw [x_blk_0, Int.add_zero] at key
    have e : x_upd M 64 4 T = M := by
      funext b j
      unfold x_upd
      by_cases h : b = 64 ∧ j = 4
      · rw [if_pos h, h.1, h.2, hT]
      · rw [if_neg h]
    rw [e] at key
    exact b_X10_four hn hP key
  · exact b_X10_four_3 hn hP ⟨fun _ => H, fun h => absurd (by decide) h⟩
  · intro i h1 h2 h3
    refine b_X10_four_3 hn hP ⟨fun h => absurd h (by omega), fun _ => ?_⟩
    rw [x_upd_at]
    refine ⟨by omega, by omega, by omega, ?_⟩
    rw [x_upd_comm (a := 64) (b := 68) (by decide), x_upd_upd, x_blk_succ h1 rfl (by unfold by4; rw [show T + i - T = i by omega]), show 24 - 8 * i + (-8) = 24 - 8 * (i + 1) by omega, show T + i + 1 = T + (i + 1) by omega]
    exact h3
/-- four bytes more on the reference's tape -/
def r4 (M : xM) (v : Int) : xM := x_upd (x_blk M 68 (M 64 4) 4 (fun j => by4 v (j - M 64 4))) 64 4 (M 64 4 + 4)
theorem r4_len (M : xM) (v : Int) : r4 M v 64 4 = M 64 4 + 4 := x_upd_at _ _ _ _
theorem c_X10_feed (hn : 82 ≤ n) (hP : x_PP P) {v1 v2 v3 v4 v5 : Int} (h0 : 0 ≤ M 64 4 ∧ M 64 4 ≤ 300) (H0 : ¬ M 64 4 + 20 ≤ 300 → F M (-1)) (H1 : M 64 4 + 20 ≤ 300 → F (r4 (r4 (r4 (r4 (r4 M v1) v2) v3) v4) v5) (M 64 4 + 20)) : xCI Y_X10_feed g (d + 1) [vR (some 64), vI v1, vI v2, vI v3, vI v4, vI v5] n P M F := by
  refine b_X10_feed hn hP ⟨by omega, fun h => ?_, H0⟩
  have H2 := H1 h
  refine c_X10_four hn hP (by omega) (c_X10_four hn hP (M := r4 M v1) (by rw [r4_len]; omega) (c_X10_four hn hP (M := r4 (r4 M v1) v2) (by rw [r4_len, r4_len]; omega) (c_X10_four hn hP (M := r4 (r4 (r4 M v1) v2) v3) (by rw [r4_len, r4_len, r4_len]; omega) (c_X10_four hn hP (M := r4 (r4 (r4 (r4 M v1) v2) v3) v4) (by rw [r4_len, r4_len, r4_len, r4_len]; omega) ?_))))
  show F (r4 (r4 (r4 (r4 (r4 M v1) v2) v3) v4) v5) (r4 (r4 (r4 (r4 (r4 M v1) v2) v3) v4) v5 64 4)
  rw [r4_len, r4_len, r4_len, r4_len, r4_len, show M 64 4 + 4 + 4 + 4 + 4 + 4 = M 64 4 + 20 by omega]
  exact H2
theorem c_X10_end (hn : 82 ≤ n) (hP : x_PP P) {k : Int} (H0 : ¬ (0 ≤ k ∧ k ≤ M 64 4) → F M (-1)) (H1 : (0 ≤ k ∧ k ≤ M 64 4) → F (x_upd M 64 4 k) k) : xCI Y_X10_end g (d + 1) [vR (some 64), vI k] n P M F :=
  b_X10_end hn hP (c_X10_isIn hn ⟨fun h => H1 (bi_n0.mp h), fun h => H0 (bi_0.mp h)⟩)
theorem c_X10_newCase (hn : 82 ≤ n) (hP : x_PP P) {k r e s : Int} (h0 : 0 ≤ M 65 0 ∧ M 65 0 ≤ 8) (H0 : ¬ (((0 ≤ k ∧ k ≤ 5) ∧ (1 ≤ r ∧ r ≤ 9) ∧ (1 ≤ e ∧ e ≤ 9) ∧ (0 ≤ s ∧ s ≤ 255)) ∧ M 65 0 ≠ 8) → F M (-1))
    (H1 : (((0 ≤ k ∧ k ≤ 5) ∧ (1 ≤ r ∧ r ≤ 9) ∧ (1 ≤ e ∧ e ≤ 9) ∧ (0 ≤ s ∧ s ≤ 255)) ∧ M 65 0 ≠ 8) → F (setA M 65 (rCase (M 65) k r e s)) (M 65 0)) : xCI Y_X10_newCase g (d + 1) [vR (some 64), vI k, vI r, vI e, vI s] n P M F := by
  refine b_X10_newCase hn hP (c_X10_isIn hn ⟨fun h => H0 (fun z => bi_0.mp h z.1.1), fun h => c_X10_isIn hn ⟨fun h2 => H0 (fun z => bi_0.mp h2 z.1.2.1), fun h2 => c_X10_isIn hn ⟨fun h3 => H0 (fun z => bi_0.mp h3 z.1.2.2.1), fun h3 => c_X10_isIn hn ⟨fun h4 => H0 (fun z => bi_0.mp h4 z.1.2.2.2), fun h4 => ⟨fun h5 => ?_, fun h5 => H0 (fun z => z.2 h5)⟩⟩⟩⟩⟩)
  have H2 := H1 ⟨⟨bi_n0.mp h, bi_n0.mp h2, bi_n0.mp h3, bi_n0.mp h4⟩, h5⟩
  generalize hc : M 65 0 = c
  rw [hc] at H2 h0 h5
  refine c_X10_put hn hP (by omega) (by omega) (c_X10_put hn hP (by omega) (by omega) (c_X10_put hn hP (by omega) (by omega) (c_X10_put hn hP (by omega) (by omega) ?_)))
  rw [x_upd_as M, x_upd_setA, x_upd_setA, x_upd_setA]
  generalize hf : (fun j => if j = 20 + 7 * c + 3 then s else if j = 20 + 7 * c + 2 then e else if j = 20 + 7 * c + 1 then r else if j = 20 + 7 * c + 0 then k else M 65 j) = f4
  have key := up_ind (p := fun i => xW Y_X10_newCase g (d + 1) 0 0 98 [(0, vR (some 64)), (5, vI c), (6, vI i)] [] (0, 0) (n, P, setA M 65 (fun j => if 24 + 7 * c ≤ j ∧ j < 20 + 7 * c + i then 0 else f4 j)) (kI n P F)) (lo := 4) (N := 7) ?_ ?_ 4 (by omega) (by omega)
  · have ef : (fun j => if 24 + 7 * c ≤ j ∧ j < 20 + 7 * c + 4 then 0 else f4 j) = f4 := by
      funext j
      rw [if_neg (by omega)]
    rw [ef] at key
    exact key
  · refine b_X10_newCase_98 hn hP ⟨fun _ => ?_, fun h => absurd (by decide) h⟩
    have e0 : f4 0 = c := by
      rw [← hf]
      dsimp only
      rw [if_neg (by omega), if_neg (by omega), if_neg (by omega), if_neg (by omega), hc]
    rw [setA_at, if_neg (by omega), e0]
    refine ⟨by omega, ?_⟩
    rw [← hf]
    rw [x_upd_setA]
    have ef : (fun j => if j = 0 then c + 1 else if 24 + 7 * c ≤ j ∧ j < 20 + 7 * c + 7 then 0 else if j = 20 + 7 * c + 3 then s else if j = 20 + 7 * c + 2 then e else if j = 20 + 7 * c + 1 then r else if j = 20 + 7 * c + 0 then k else M 65 j) = rCase (M 65) k r e s := by
      funext j
      unfold rCase
      rw [hc]
      (repeat' split) <;> first | rfl | omega
    rw [ef]
    exact H2
  · intro i h1 h2 h3
    refine b_X10_newCase_98 hn hP ⟨fun h => absurd h (by omega), fun _ => c_X10_put hn hP (by omega) (by omega) ⟨by omega, ?_⟩⟩
    rw [x_upd_setA]
    have ef : (fun j => if j = 20 + 7 * c + i then 0 else if 24 + 7 * c ≤ j ∧ j < 20 + 7 * c + i then 0 else f4 j) = (fun j => if 24 + 7 * c ≤ j ∧ j < 20 + 7 * c + (i + 1) then 0 else f4 j) := by
      funext j
      (repeat' split) <;> first | rfl | omega
    rw [ef]
    exact h3
end Ref3
