/-- small steps of the reference, as functions on a[] -/
def rCall (f : Int → Int) (c : Int) : Int → Int := fun j => if j = 24 + 7 * c then 1 else if j = 13 then c else f j
def rLeave (f : Int → Int) (h s : Int) : Int → Int := fun j => if j = 13 then -1 else if j = 14 ∨ j = 15 ∨ j = 16 then 0 else if j = 25 + 7 * f 13 then s else if j = 24 + 7 * f 13 then h else f j
def rAppeal (f : Int → Int) (c : Int) : Int → Int := fun j => if j = 26 + 7 * c then 1 else if j = 25 + 7 * c then 0 else if j = 24 + 7 * c then 0 else f j
theorem setA_upd {M : xM} {b : Nat} {i v : Int} {f : Int → Int} (h : ∀ j, f j = if j = i then v else M b j) : x_upd M b i v = setA M b f := by
  funext c j
  unfold x_upd setA
  by_cases hc : c = b
  · subst hc
    rw [if_pos rfl, h j]
    by_cases hj : j = i
    · rw [if_pos ⟨rfl, hj⟩, if_pos hj]
    · rw [if_neg (fun z => hj z.2), if_neg hj]
  · rw [if_neg (fun z => hc z.1), if_neg hc]
theorem setA_setA (M : xM) (b : Nat) (f f' : Int → Int) : setA (setA M b f) b f' = setA M b f' := by
  funext c j
  unfold setA
  by_cases hc : c = b
  · rw [if_pos hc, if_pos hc]
  · rw [if_neg hc, if_neg hc, if_neg hc]
theorem x_upd_setA (M : xM) (b : Nat) (f : Int → Int) (i v : Int) : x_upd (setA M b f) b i v = setA M b (fun j => if j = i then v else f j) := by
  funext c j
  unfold x_upd setA
  dsimp only
  by_cases hc : c = b
  · rw [if_pos hc, if_pos hc]
    by_cases hj : j = i
    · rw [if_pos ⟨hc, hj⟩, if_pos hj]
    · rw [if_neg (fun z => hj z.2), if_neg hj]
  · rw [if_neg (fun z => hc z.1), if_neg hc, if_neg hc]
theorem x_upd_as (M : xM) (b : Nat) (i v : Int) : x_upd M b i v = setA M b (fun j => if j = i then v else M b j) := setA_upd (fun _ => rfl)
section Ref2
variable {g : Option Nat} {d n : Nat} {P : xP} {M : xM} {F : xM → Int → Prop} {G : xM → Prop}
theorem c_X10_leave (hn : 82 ≤ n) (hP : x_PP P) {h s : Int} (h0 : 0 ≤ M 65 13 ∧ M 65 13 < 8) (H : G (setA M 65 (rLeave (M 65) h s))) : xCV Y_X10_leave g (d + 1) [vR (some 64), vI h, vI s] n P M G := by
  refine b_X10_leave hn hP (c_X10_put hn hP h0 (by omega) ?_)
  have e : x_upd M 65 (20 + 7 * M 65 13 + 4) h 65 13 = M 65 13 := x_upd_nj (by omega)
  rw [e]
  refine c_X10_put hn hP h0 (by omega) ?_
  rw [x_upd_as M, x_upd_setA, x_upd_setA, x_upd_setA, x_upd_setA, x_upd_setA]
  have ef : (fun j => if j = 16 then 0 else if j = 15 then 0 else if j = 14 then 0 else if j = 13 then -1 else if j = 20 + 7 * M 65 13 + 5 then s else if j = 20 + 7 * M 65 13 + 4 then h else M 65 j) = rLeave (M 65) h s := by
    funext j
    unfold rLeave
    (repeat' split) <;> first | rfl | omega
  rw [ef]
  exact H
theorem c_X10_callNow (hn : 82 ≤ n) (hP : x_PP P) {c : Int} (h0 : 0 ≤ c ∧ c < 8) (H : G (setA M 65 (rCall (M 65) c))) : xCV Y_X10_callNow g (d + 1) [vR (some 64), vI c] n P M G := by
  refine b_X10_callNow hn hP (c_X10_put hn hP h0 (by omega) ?_)
  rw [x_upd_as M, x_upd_setA, show (20 + 7 * c + 4 : Int) = 24 + 7 * c by omega]
  exact H
theorem c_X10_appealNow (hn : 82 ≤ n) (hP : x_PP P) {c : Int} (h0 : 0 ≤ c ∧ c < 8) (H : G (setA M 65 (rAppeal (M 65) c))) : xCV Y_X10_appealNow g (d + 1) [vR (some 64), vI c] n P M G := by
  refine b_X10_appealNow hn hP (c_X10_put hn hP h0 (by omega) (c_X10_put hn hP h0 (by omega) (c_X10_put hn hP h0 (by omega) ?_)))
  rw [x_upd_as M, x_upd_setA, x_upd_setA, show (20 + 7 * c + 4 : Int) = 24 + 7 * c by omega, show (20 + 7 * c + 5 : Int) = 25 + 7 * c by omega, show (20 + 7 * c + 6 : Int) = 26 + 7 * c by omega]
  exact H
theorem c_X10_canCall (hn : 82 ≤ n) (hP : x_PP P) {c : Int} (h0 : 0 ≤ M 65 0 ∧ M 65 0 ≤ 8) (H : F M (bi (((0 ≤ c ∧ c < M 65 0) ∧ M 65 (24 + 7 * c) = 0) ∧ M 65 13 = -1))) : xCI Y_X10_canCall g (d + 3) [vR (some 64), vI c] n P M F := by
  refine b_X10_canCall hn hP (c_X10_isWaiting hn hP h0 ?_)
  rw [show (20 + 7 * c + 4 : Int) = 24 + 7 * c by omega]
  refine ⟨fun h => ?_, fun h => ⟨fun h2 => ?_, fun h2 => ?_⟩⟩
  · rwa [bi_f (fun z => bi_0.mp h z.1)] at H
  · rwa [bi_f (fun z => h2 z.2)] at H
  · rwa [bi_t ⟨bi_n0.mp h, h2⟩] at H
theorem c_X10_call (hn : 82 ≤ n) (hP : x_PP P) {c : Int} (h0 : 0 ≤ M 65 0 ∧ M 65 0 ≤ 8) (hs : 0 ≤ M 65 3 ∧ M 65 3 ≤ 30)
    (H0 : ¬ (((0 ≤ c ∧ c < M 65 0) ∧ M 65 (24 + 7 * c) = 0) ∧ M 65 13 = -1) → F M 0) (H1 : (((0 ≤ c ∧ c < M 65 0) ∧ M 65 (24 + 7 * c) = 0) ∧ M 65 13 = -1) → F (setA M 65 (rCall (rKeep (M 65)) c)) 1) : xCI Y_X10_call g (d + 4) [vR (some 64), vI c] n P M F := by
  refine b_X10_call hn hP (c_X10_canCall hn hP h0 ⟨fun h => ?_, fun h => H0 (bi_0.mp h)⟩)
  have h1 := bi_n0.mp h
  refine c_X10_keep hn hP hs (c_X10_callNow hn hP (by omega) ?_)
  rw [setA_at, setA_setA]
  exact H1 h1
theorem c_X10_canDelay (hn : 82 ≤ n) (hP : x_PP P) (H : F M (bi (M 65 13 ≠ -1 ∧ M 65 16 < 3))) : xCI Y_X10_canDelay g d [vR (some 64)] n P M F := by
  refine b_X10_canDelay hn hP ⟨fun h => ?_, fun h => ⟨fun h2 => ?_, fun h2 => ?_⟩⟩
  · rwa [bi_f (fun z => z.1 h)] at H
  · rwa [bi_f (fun z => by omega)] at H
  · rwa [bi_t ⟨h, by omega⟩] at H
theorem rKeep_lo {f : Int → Int} (h : 0 ≤ f 3 ∧ f 3 ≤ 30) {j : Int} (h1 : j < 132) (h3 : j ≠ 3) : rKeep f j = f j := by
  have e1 : rK1 f j = f j := by
    unfold rK1
    by_cases h2 : f 3 = 30
    · rw [if_pos h2, if_neg h3, if_neg (by omega)]
    · rw [if_neg h2]
  have e3 : 0 ≤ rK1 f 3 := by
    unfold rK1
    by_cases h2 : f 3 = 30
    · rw [if_pos h2, if_pos rfl]; decide
    · rw [if_neg h2]; exact h.1
  unfold rKeep rK2
  rw [if_neg h3, if_neg (by omega), if_neg (by omega), if_neg (by omega), e1]
theorem c_X10_delay (hn : 82 ≤ n) (hP : x_PP P) (hs : 0 ≤ M 65 3 ∧ M 65 3 ≤ 30) (hd : 0 ≤ M 65 16) (H0 : ¬ (M 65 13 ≠ -1 ∧ M 65 16 < 3) → F M (-1)) (H1 : (M 65 13 ≠ -1 ∧ M 65 16 < 3) → F (setA M 65 (fun j => if j = 16 then M 65 16 + 1 else rKeep (M 65) j)) (M 65 16 + 1)) : xCI Y_X10_delay g (d + 2) [vR (some 64)] n P M F := by
  refine b_X10_delay hn hP (c_X10_canDelay hn hP ⟨fun h => ?_, fun h => H0 (bi_0.mp h)⟩)
  have h1 := bi_n0.mp h
  refine c_X10_keep hn hP hs ?_
  rw [setA_at, rKeep_lo hs (by omega) (by omega)]
  refine ⟨by omega, ?_⟩
  rw [x_upd_setA]
  exact H1 h1
theorem c_X10_canAppeal (hn : 82 ≤ n) (hP : x_PP P) {c : Int} (h0 : 0 ≤ M 65 0 ∧ M 65 0 ≤ 8) (H : F M (bi ((0 ≤ c ∧ c < M 65 0) ∧ M 65 (24 + 7 * c) = 3 ∧ M 65 (26 + 7 * c) = 0))) : xCI Y_X10_canAppeal g (d + 2) [vR (some 64), vI c] n P M F := by
  refine b_X10_canAppeal hn hP (c_X10_isCase hn hP h0 ⟨fun h => ?_, fun h => ?_⟩)
  · rwa [bi_f (fun z => bi_0.mp h z.1)] at H
  · have h1 := bi_n0.mp h
    refine c_X10_get hn hP (by omega) (by omega) ?_
    rw [show (20 + 7 * c + 4 : Int) = 24 + 7 * c by omega]
    refine ⟨fun h2 => ?_, fun h2 => c_X10_get hn hP (by omega) (by omega) ?_⟩
    · rwa [bi_f (fun z => h2 z.2.1)] at H
    · rw [show (20 + 7 * c + 6 : Int) = 26 + 7 * c by omega]
      refine ⟨fun h3 => ?_, fun h3 => ?_⟩
      · rwa [bi_f (fun z => h3 z.2.2)] at H
      · rwa [bi_t ⟨h1, h2, h3⟩] at H
theorem c_X10_appeal (hn : 82 ≤ n) (hP : x_PP P) {c : Int} (h0 : 0 ≤ M 65 0 ∧ M 65 0 ≤ 8) (hs : 0 ≤ M 65 3 ∧ M 65 3 ≤ 30)
    (H0 : ¬ ((0 ≤ c ∧ c < M 65 0) ∧ M 65 (24 + 7 * c) = 3 ∧ M 65 (26 + 7 * c) = 0) → F M 0) (H1 : ((0 ≤ c ∧ c < M 65 0) ∧ M 65 (24 + 7 * c) = 3 ∧ M 65 (26 + 7 * c) = 0) → F (setA M 65 (rAppeal (rKeep (M 65)) c)) 1) : xCI Y_X10_appeal g (d + 3) [vR (some 64), vI c] n P M F := by
  refine b_X10_appeal hn hP (c_X10_canAppeal hn hP h0 ⟨fun h => ?_, fun h => H0 (bi_0.mp h)⟩)
  have h1 := bi_n0.mp h
  refine c_X10_keep hn hP hs (c_X10_appealNow hn hP (by omega) ?_)
  rw [setA_at, setA_setA]
  exact H1 h1
theorem c_X10_gust (hn : 82 ≤ n) (hP : x_PP P) {q f : Int} (hs : 0 ≤ M 65 3 ∧ M 65 3 ≤ 30) (H0 : ¬ ((0 ≤ q ∧ q ≤ 3) ∧ (0 ≤ f ∧ f ≤ 9) ∧ ¬ (M 65 8 = q ∧ M 65 9 = f)) → F M 0)
    (H1 : ((0 ≤ q ∧ q ≤ 3) ∧ (0 ≤ f ∧ f ≤ 9) ∧ ¬ (M 65 8 = q ∧ M 65 9 = f)) → F (setA M 65 (fun j => if j = 9 then f else if j = 8 then q else rKeep (M 65) j)) 1) : xCI Y_X10_gust g (d + 2) [vR (some 64), vI q, vI f] n P M F := by
  have go : ((0 ≤ q ∧ q ≤ 3) ∧ (0 ≤ f ∧ f ≤ 9) ∧ ¬ (M 65 8 = q ∧ M 65 9 = f)) → xW Y_X10_gust g (d + 2) 0 0 43 [(0, vR (some 64)), (1, vI q), (2, vI f)] [] (0, 0) (n, P, M) (kI n P F) := fun h => by
    refine b_X10_gust_43 hn hP (c_X10_keep hn hP hs ?_)
    rw [x_upd_setA, x_upd_setA]
    exact H1 h
  refine b_X10_gust hn hP (c_X10_isIn hn ⟨fun h => H0 (fun z => bi_0.mp h z.1), fun h => c_X10_isIn hn ⟨fun h2 => H0 (fun z => bi_0.mp h2 z.2.1), fun h2 => ⟨fun h3 => go ⟨bi_n0.mp h, bi_n0.mp h2, fun z => h3 z.1⟩, fun h3 => ⟨fun h4 => go ⟨bi_n0.mp h, bi_n0.mp h2, fun z => h4 z.2⟩, fun h4 => H0 (fun z => z.2.2 ⟨h3, h4⟩)⟩⟩⟩⟩)
theorem c_X10_withdraw (hn : 82 ≤ n) (hP : x_PP P) (hs : 0 ≤ M 65 3 ∧ M 65 3 ≤ 30) (hc : M 65 13 ≠ -1 → 0 ≤ M 65 13 ∧ M 65 13 < 8) (H0 : M 65 13 = -1 → F M (-1)) (H1 : M 65 13 ≠ -1 → F (setA M 65 (rLeave (rKeep (M 65)) 0 0)) (M 65 13)) : xCI Y_X10_withdraw g (d + 2) [vR (some 64)] n P M F := by
  refine b_X10_withdraw hn hP ⟨fun h => c_X10_keep hn hP hs ?_, H0⟩
  have e : rKeep (M 65) 13 = M 65 13 := rKeep_lo hs (by omega) (by omega)
  refine c_X10_leave hn hP ?_ ?_
  · rw [setA_at, e]; exact hc h
  · rw [setA_at, setA_setA, e]
    exact H1 h
theorem c_X10_ofCase (hn : 82 ≤ n) (hP : x_PP P) {c w : Int} (h0 : 0 ≤ M 65 0 ∧ M 65 0 ≤ 8) (H0 : ¬ ((0 ≤ c ∧ c < M 65 0) ∧ 0 ≤ w ∧ w ≤ 6) → F M (-1)) (H1 : ((0 ≤ c ∧ c < M 65 0) ∧ 0 ≤ w ∧ w ≤ 6) → F M (M 65 (20 + 7 * c + w))) : xCI Y_X10_ofCase g (d + 2) [vR (some 64), vI c, vI w] n P M F := by
  refine b_X10_ofCase hn hP (c_X10_isCase hn hP h0 ⟨fun h => H0 (fun z => bi_0.mp h z.1), fun h => c_X10_isIn hn ⟨fun h2 => H0 (fun z => bi_0.mp h2 z.2), fun h2 => ?_⟩⟩)
  have h1 := bi_n0.mp h
  have h3 := bi_n0.mp h2
  exact c_X10_get hn hP (by omega) (by omega) (H1 ⟨h1, h3⟩)
theorem c_X10_is (hn : 82 ≤ n) (hP : x_PP P) {w : Int} (H0 : ¬ (0 ≤ w ∧ w ≤ 8) → F M (-2)) (H1 : (0 ≤ w ∧ w ≤ 8) → F M (M 65 (8 + w))) : xCI Y_X10_is g (d + 1) [vR (some 64), vI w] n P M F := by
  refine b_X10_is hn hP (c_X10_isIn hn ⟨fun h => H0 (bi_0.mp h), fun h => ?_⟩)
  have h1 := bi_n0.mp h
  exact ⟨by omega, by omega, H1 h1⟩
theorem c_X10_fault (hn : 82 ≤ n) (hP : x_PP P) {w : Int} (H : F M (if w = 0 then M 64 5 else if w = 1 then M 64 6 else -1)) : xCI Y_X10_fault g d [vR (some 64), vI w] n P M F := by
  refine b_X10_fault hn hP ⟨fun h => ⟨fun h2 => ?_, fun h2 => ?_⟩, fun h => ?_⟩
  · rwa [if_neg h, if_neg h2] at H
  · rwa [if_neg h, if_pos h2] at H
  · rwa [if_pos h] at H
theorem c_X10_by (hn : 82 ≤ n) (hP : x_PP P) {t : Int} (h0 : 0 ≤ M 65 1 ∧ M 65 1 ≤ 4) (H0 : ¬ (-1 ≤ t ∧ t < M 65 1) → F M 0) (H1 : (-1 ≤ t ∧ t < M 65 1) → F (x_upd M 65 2 t) 1) : xCI Y_X10_by g (d + 1) [vR (some 64), vI t] n P M F := by
  refine b_X10_by hn hP ⟨by omega, c_X10_isIn hn ⟨fun h => ?_, fun h => ?_⟩⟩
  · have h1 := bi_n0.mp h
    exact H1 (by omega)
  · have h1 := bi_0.mp h
    exact H0 (by omega)
theorem c_X10_about (hn : 82 ≤ n) (hP : x_PP P) {w : Int} (H : F M (if w = 0 then M 65 0 else if w = 1 then M 65 1 else if w = 2 then M 65 2 else if w = 3 then M 65 3 else if w = 4 then M 65 4 else if w = 5 then M 65 5 else if w = 6 then M 65 6 else if w = 7 then M 64 4 else -2)) : xCI Y_X10_about g d [vR (some 64), vI w] n P M F := by
  refine b_X10_about hn hP ⟨fun h => ?_, fun h => ?_, fun h => ?_, fun h => ?_, fun h => ?_, fun h => ?_, fun h => ?_, fun h => ?_, fun h => ?_, trivial⟩
  · rwa [if_neg (by omega), if_neg (by omega), if_neg (by omega), if_neg (by omega), if_neg (by omega), if_neg (by omega), if_neg (by omega), if_neg (by omega)] at H
  all_goals (subst h; exact H)
theorem c_X10_image (hn : 82 ≤ n) (hP : x_PP P) (H : F (x_blk M 66 0 3642 (M 65)) (M 65 11)) : xCI Y_X10_image g (d + 1) [vR (some 64)] n P M F := by
  refine b_X10_image hn hP (c_X10_copy hn hP (cl_65 hn) (cl_66 hn) (by decide) ?_)
  rw [x_blk_out (by omega)]
  exact H
theorem c_X10_back (hn : 82 ≤ n) (hP : x_PP P) (H : F (x_blk M 65 0 3642 (M 66)) (M 66 11)) : xCI Y_X10_back g (d + 1) [vR (some 64)] n P M F := by
  refine b_X10_back hn hP (c_X10_copy hn hP (cl_66 hn) (cl_65 hn) (by decide) ?_)
  rw [x_blk_in (by omega) (by omega)]
  exact H
theorem c_X10_shown (hn : 82 ≤ n) (hP : x_PP P) (h : M 65 17 < 30) (H : F M (M 65 17)) : xCI Y_X10_shown g d [vR (some 64)] n P M F :=
  b_X10_shown hn hP ⟨fun h2 => absurd h2 (by omega), fun _ => H⟩
theorem c_X10_book (hn : 82 ≤ n) (hP : x_PP P) {i w : Int} (h : 0 ≤ M 65 17 ∧ M 65 17 < 30) (hb : ∀ k, 0 ≤ k → k < 60 → 0 ≤ M 65 (1182 + k) ∧ M 65 (1182 + k) ≤ 1000000) (Hn : i = -1 → F M (M 65 17)) (H0 : i ≠ -1 → ¬ (0 ≤ i ∧ i < M 65 17) → F M (-2))
    (H1 : (0 ≤ i ∧ i < M 65 17) → F M (if w = 0 then M 65 (1182 + 2 * i) / 8 else if w = 1 then M 65 (1182 + 2 * i) % 8 else if w = 2 then M 65 (1183 + 2 * i) / 1000 else if w = 3 then M 65 (1183 + 2 * i) % 1000 else -2)) : xCI Y_X10_book g (d + 1) [vR (some 64), vI i, vI w] n P M F := by
  refine b_X10_book hn hP ⟨fun hi => c_X10_shown hn hP h.2 ⟨by omega, c_X10_isIn hn ⟨fun h2 => ?_, fun h2 => H0 hi (fun z => bi_0.mp h2 (by omega))⟩⟩, fun hi => c_X10_shown hn hP h.2 (Hn hi)⟩
  have h3 := bi_n0.mp h2
  refine c_X10_shown hn hP h.2 ?_
  have e : (M 65 17 - M 65 17 + i).tmod 1230 = i := by
    rw [show M 65 17 - M 65 17 + i = i by omega, Int.tmod_eq_emod_of_nonneg (by omega)]
    omega
  rw [e]
  have b0 := hb (2 * i) (by omega) (by omega)
  have b1 := hb (2 * i + 1) (by omega) (by omega)
  have H2 := H1 (by omega)
  have ex : (1182 + 2 * i + 1 : Int) = 1183 + 2 * i := by omega
  have ey : (1182 + (2 * i + 1) : Int) = 1183 + 2 * i := by omega
  rw [ey] at b1
  rw [ex, Int.tdiv_eq_ediv_of_nonneg b0.1, Int.tdiv_eq_ediv_of_nonneg b1.1, Int.tmod_eq_emod_of_nonneg b0.1, Int.tmod_eq_emod_of_nonneg b1.1]
  refine ⟨by omega, by omega, by omega, by omega, fun h4 => ?_, fun h4 => ⟨by omega, ?_, ?_⟩, fun h4 => ⟨by omega, ?_⟩, fun h4 => ⟨by omega, by omega, ?_, ?_⟩, fun h4 => ⟨by omega, by omega, ?_⟩, trivial⟩
  · rwa [if_neg (by omega), if_neg (by omega), if_neg (by omega), if_neg (by omega)] at H2
  · constructor <;> omega
  · subst h4; exact H2
  · subst h4; exact H2
  · constructor <;> omega
  · subst h4; exact H2
  · subst h4; exact H2
end Ref2
