/-- a cell set anew as a whole -/
def setA (M : xM) (b : Nat) (f : Int → Int) : xM := fun c j => if c = b then f j else M c j
theorem setA_at (M : xM) (b : Nat) (f : Int → Int) : setA M b f b = f := by
  funext j
  exact if_pos rfl
theorem setA_ne {M : xM} {b c : Nat} {f : Int → Int} (h : c ≠ b) : setA M b f c = M c := by
  funext j
  exact if_neg h
/-- keep(): what a[] becomes -/
def rK1 (f : Int → Int) : Int → Int := fun j => if f 3 = 30 then (if j = 3 then 29 else if 132 ≤ j ∧ j < 1147 then f (j + 35) else f j) else f j
def rK2 (f : Int → Int) (x : Int) : Int → Int := fun j => if j = 3 then f 3 + 1 else if j = x then f 0 else if x + 1 ≤ j ∧ j < x + 11 then f (8 + (j - (x + 1))) else if x + 11 ≤ j ∧ j < x + 35 then f (20 + 7 * ((j - (x + 11)) / 3) + (4 + (j - (x + 11)) % 3)) else f j
def rKeep (f : Int → Int) : Int → Int := rK2 (rK1 f) (132 + 35 * rK1 f 3)
section Ref1
variable {g : Option Nat} {d n : Nat} {P : xP} {M : xM} {F : xM → Int → Prop} {G : xM → Prop}
theorem c_X10_keep_56 (hn : 82 ≤ n) (hP : x_PP P) (hs : 0 ≤ M 65 3 ∧ M 65 3 < 30) (H : G (setA M 65 (rK2 (M 65) (132 + 35 * M 65 3)))) : xW Y_X10_keep g (d + 1) 0 0 56 [(0, vR (some 64))] [] (0, 0) (n, P, M) (kV n P G) := by
  refine b_X10_keep_56 hn hP ⟨by omega, by omega, by omega, ?_⟩
  generalize hx : 132 + 35 * M 65 3 = x
  rw [hx] at H
  have hx1 : 132 ≤ x ∧ x ≤ 1147 := by omega
  -- the ten
  let M1 : xM := x_upd M 65 x (M 65 0)
  let M2 : xM := x_blk M1 65 (x + 1) 10 (fun j => M 65 (8 + (j - (x + 1))))
  let f3 : Int → Int := fun j => M 65 (20 + 7 * ((j - (x + 11)) / 3) + (4 + (j - (x + 11)) % 3))
  have key := up_ind (p := fun i => xW Y_X10_keep g (d + 1) 0 0 84 [(0, vR (some 64)), (1, vI x), (2, vI i)] [] (0, 0) (n, P, x_blk M1 65 (x + 1) i (fun j => M 65 (8 + (j - (x + 1))))) (kV n P G)) (lo := 0) (N := 10) ?_ ?_ 0 (by omega) (by omega)
  · rw [x_blk_0] at key
    exact key
  · refine b_X10_keep_84 hn hP ⟨fun _ => ?_, fun h => absurd (Int.le_refl _) h⟩
    -- cases by three
    have key2 := up_ind (p := fun c => xW Y_X10_keep g (d + 1) 0 0 117 [(0, vR (some 64)), (1, vI x), (2, vI c)] [] (0, 0) (n, P, x_blk M2 65 (x + 11) (3 * c) f3) (kV n P G)) (lo := 0) (N := 8) ?_ ?_ 0 (by omega) (by omega)
    · rw [show (3 : Int) * 0 = 0 from rfl, x_blk_0] at key2
      exact key2
    · have e3 : x_blk M2 65 (x + 11) (3 * 8) f3 65 3 = M 65 3 := by
        rw [x_blk_out (by omega)]
        show x_blk M1 65 (x + 1) 10 _ 65 3 = _
        rw [x_blk_out (by omega)]
        exact x_upd_nj (by omega)
      refine b_X10_keep_117 hn hP ⟨fun _ => ⟨by rw [e3]; omega, ?_⟩, fun h => absurd (Int.le_refl _) h⟩
      rw [e3]
      have eM : x_upd (x_blk M2 65 (x + 11) (3 * 8) f3) 65 3 (M 65 3 + 1) = setA M 65 (rK2 (M 65) x) := by
        funext b j
        by_cases hb : b = 65
        · subst hb
          show _ = setA M 65 (rK2 (M 65) x) 65 j
          rw [setA_at]
          unfold rK2
          by_cases h3 : j = 3
          · rw [if_pos h3, h3]; exact x_upd_at _ _ _ _
          · rw [if_neg h3, x_upd_nj h3]
            by_cases hq : x + 11 ≤ j ∧ j < x + 35
            · rw [if_neg (by omega), if_neg (by omega), if_pos hq, x_blk_in hq.1 (by omega)]
            · rw [x_blk_out (by omega)]
              show x_blk M1 65 (x + 1) 10 _ 65 j = _
              by_cases hr : x + 1 ≤ j ∧ j < x + 11
              · rw [if_neg (by omega), if_pos hr, x_blk_in hr.1 (by omega)]
              · rw [x_blk_out (by omega)]
                by_cases hjx : j = x
                · rw [if_pos hjx]; exact x_upd_eq hjx
                · rw [if_neg hjx, if_neg hr, if_neg hq]; exact x_upd_nj hjx
        · rw [x_upd_nb hb, x_blk_out (fun z => hb z.1)]
          show x_blk M1 65 (x + 1) 10 _ b j = _
          rw [x_blk_out (fun z => hb z.1)]
          show x_upd M 65 x (M 65 0) b j = _
          rw [x_upd_nb hb]
          unfold setA
          rw [if_neg hb]
      rw [eM]
      exact H
    · intro c hc1 hc2 hc3
      refine b_X10_keep_117 hn hP ⟨fun h => absurd h (by omega), fun _ => ?_⟩
      have key3 := up_ind (p := fun k => xW Y_X10_keep g (d + 1) 0 0 125 [(0, vR (some 64)), (1, vI x), (2, vI c), (3, vI k)] [] (0, 0) (n, P, x_blk M2 65 (x + 11) (3 * c + k) f3) (kV n P G)) (lo := 0) (N := 3) ?_ ?_ 0 (by omega) (by omega)
      · rw [Int.add_zero] at key3
        exact key3
      · refine b_X10_keep_125 hn hP ⟨fun _ => ⟨by omega, ?_⟩, fun h => absurd (Int.le_refl _) h⟩
        rw [show 3 * c + 3 = 3 * (c + 1) by omega]
        exact hc3
      · intro k hk1 hk2 hk3
        refine b_X10_keep_125 hn hP ⟨fun h => absurd h (by omega), fun _ => ⟨by omega, by omega, by omega, by omega, by omega, ?_⟩⟩
        refine c_X10_get hn hP (by omega) (by omega) ⟨by omega, by omega, ?_⟩
        have ev : x_blk M2 65 (x + 11) (3 * c + k) f3 65 (20 + 7 * c + (4 + k)) = f3 (x + 11 + 3 * c + k) := by
          rw [x_blk_out (by omega)]
          show x_blk M1 65 (x + 1) 10 _ 65 _ = _
          rw [x_blk_out (by omega)]
          show x_upd M 65 x (M 65 0) 65 _ = _
          rw [x_upd_nj (by omega)]
          show _ = M 65 (20 + 7 * ((x + 11 + 3 * c + k - (x + 11)) / 3) + (4 + (x + 11 + 3 * c + k - (x + 11)) % 3))
          congr 1
          omega
        rw [ev, x_blk_succ (by omega) (by omega) rfl, show 3 * c + k + 1 = 3 * c + (k + 1) by omega]
        exact hk3
  · intro i h1 h2 h3
    refine b_X10_keep_84 hn hP ⟨fun h => absurd h (by omega), fun _ => ⟨by omega, by omega, by omega, by omega, by omega, by omega, ?_⟩⟩
    have ev : x_blk M1 65 (x + 1) i (fun j => M 65 (8 + (j - (x + 1)))) 65 (8 + i) = M 65 (8 + (x + 1 + i - (x + 1))) := by
      rw [x_blk_out (by omega)]
      show x_upd M 65 x (M 65 0) 65 _ = _
      rw [x_upd_nj (by omega)]
      congr 1
      omega
    rw [ev, x_blk_succ h1 (by omega) rfl]
    exact h3
theorem c_X10_keep (hn : 82 ≤ n) (hP : x_PP P) (hs : 0 ≤ M 65 3 ∧ M 65 3 ≤ 30) (H : G (setA M 65 (rKeep (M 65)))) : xCV Y_X10_keep g (d + 1) [vR (some 64)] n P M G := by
  refine b_X10_keep hn hP ⟨fun h => ?_, fun h => ?_⟩
  · refine c_X10_keep_56 hn hP (by omega) ?_
    have e1 : rK1 (M 65) = M 65 := by
      funext j
      exact if_neg h
    unfold rKeep at H
    rwa [e1] at H
  · have key := up_ind (p := fun i => xW Y_X10_keep g (d + 1) 0 0 13 [(0, vR (some 64)), (1, vI i)] [] (0, 0) (n, P, x_blk M 65 132 i (fun j => M 65 (j + 35))) (kV n P G)) (lo := 0) (N := 1015) ?_ ?_ 0 (by omega) (by omega)
    · rw [x_blk_0] at key
      exact key
    · have e3 : x_blk M 65 132 1015 (fun j => M 65 (j + 35)) 65 3 = 30 := by rw [x_blk_out (by omega)]; exact h
      refine b_X10_keep_13 hn hP ⟨fun _ => ⟨by rw [e3]; decide, ?_⟩, fun h => absurd (Int.le_refl _) h⟩
      rw [e3]
      have eM : x_upd (x_blk M 65 132 1015 (fun j => M 65 (j + 35))) 65 3 (30 - 1) = setA M 65 (rK1 (M 65)) := by
        funext b j
        by_cases hb : b = 65
        · subst hb
          rw [setA_at]
          unfold rK1
          rw [if_pos h]
          by_cases h3 : j = 3
          · rw [if_pos h3, h3]; exact x_upd_at _ _ _ _
          · rw [if_neg h3, x_upd_nj h3]
            by_cases hq : 132 ≤ j ∧ j < 1147
            · rw [if_pos hq, x_blk_in hq.1 (by omega)]
            · rw [if_neg hq, x_blk_out (by omega)]
        · rw [x_upd_nb hb, x_blk_out (fun z => hb z.1)]
          unfold setA
          rw [if_neg hb]
      rw [eM]
      have e29 : rK1 (M 65) 3 = 29 := by unfold rK1; rw [if_pos h, if_pos rfl]
      refine c_X10_keep_56 hn hP ?_ ?_
      · rw [setA_at, e29]; decide
      · rw [setA_at]
        have e4 : setA (setA M 65 (rK1 (M 65))) 65 (rK2 (rK1 (M 65)) (132 + 35 * rK1 (M 65) 3)) = setA M 65 (rKeep (M 65)) := by
          funext b j
          unfold setA
          by_cases hb : b = 65
          · rw [if_pos hb, if_pos hb]; rfl
          · rw [if_neg hb, if_neg hb, if_neg hb]
        rw [e4]
        exact H
    · intro i h1 h2 h3
      refine b_X10_keep_13 hn hP ⟨fun h => absurd h (by omega), fun _ => ⟨by omega, by omega, by omega, by omega, by omega, ?_⟩⟩
      rw [x_blk_out (by omega), x_blk_succ h1 rfl (by congr 1; omega)]
      exact h3
end Ref1
