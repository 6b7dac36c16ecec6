/-! the class's tape: numbers and signs -/
def offT (M M' : xM) : Prop := (∀ c, c ≠ 37 → ¬ (39 ≤ c ∧ c < 42) → M' c = M c) ∧ ∀ k, k ≠ 5 → M' 37 k = M 37 k
theorem offT_refl (M : xM) : offT M M := ⟨fun _ _ _ => rfl, fun _ _ => rfl⟩
theorem offT_trans {M M' M'' : xM} (h : offT M M') (h' : offT M' M'') : offT M M'' := ⟨fun c h1 h2 => (h'.1 c h1 h2).trans (h.1 c h1 h2), fun k hk => (h'.2 k hk).trans (h.2 k hk)⟩
def tkS (f : Int → Int) (L : Int) (M : xM) (j : Nat) : Prop := M 37 5 = (j : Int) ∧ ∀ i : Nat, i < j → M 39 (i : Int) = kd f L (ps f L i) ∧ M 40 (i : Int) = ps f L i ∧ M 41 (i : Int) = vl f L (ps f L i)
section Scan
variable {g : Option Nat} {d n : Nat} {P : xP} {M : xM} {F : xM → Int → Prop} {G : xM → Prop}
theorem c_X6_isLetter (hn : 82 ≤ n) {a : Int} (H : F M (bi (isLt a))) : xCI Y_X6_isLetter g d [vI a] n P M F := by
  have t : isLt a → F M 1 := fun h => by rwa [bi_t h] at H
  have z : ¬ isLt a → F M 0 := fun h => by rwa [bi_f h] at H
  have up1 : (a < 97 ∨ 122 < a) → xW Y_X6_isLetter g d 0 0 12 [(0, vI a)] [] (0, 0) (n, P, M) (kI n P F) := fun h => b_X6_isLetter_12 hn ⟨fun q => z (by omega), fun q => ⟨fun q2 => z (by omega), fun q2 => t (by omega)⟩⟩
  exact b_X6_isLetter hn ⟨fun q => up1 (Or.inl q), fun q => ⟨fun q2 => t (by omega), fun q2 => up1 (Or.inr (by omega))⟩⟩
theorem c_X6_isDigit (hn : 82 ≤ n) {a : Int} (H : F M (bi (isDg a))) : xCI Y_X6_isDigit g d [vI a] n P M F := by
  have t : isDg a → F M 1 := fun h => by rwa [bi_t h] at H
  have z : ¬ isDg a → F M 0 := fun h => by rwa [bi_f h] at H
  exact b_X6_isDigit hn ⟨fun q => z (by omega), fun q => ⟨fun q2 => z (by omega), fun q2 => t (by omega)⟩⟩
theorem c_X6_isSign (hn : 82 ≤ n) {a : Int} (H : F M (bi (isSg a))) : xCI Y_X6_isSign g d [vI a] n P M F := by
  have t : isSg a → F M 1 := fun h => by rwa [bi_t h] at H
  have z : ¬ isSg a → F M 0 := fun h => by rwa [bi_f h] at H
  refine b_X6_isSign hn ?_
  refine ⟨fun q => z (by omega), ?_⟩
  repeat' first
    | exact True.intro
    | apply And.intro
    | (intro q; first | exact t (by omega) | exact z (by omega))
theorem k_addToken (hn : 82 ≤ n) (hP : x_PP P) {f : Int → Int} {L : Int} {j : Nat} {a1 a2 a3 : Int} (h : tkS f L M j) (hj : j ≤ 300) (e2 : a2 = ps f L j) (e1 : a1 = kd f L (ps f L j)) (e3 : a3 = vl f L (ps f L j)) (H : ∀ M', offT M M' → tkS f L M' (j + 1) → G M') : xCV Y_X6_addToken g d [vR (some 37), vI a1, vI a2, vI a3] n P M G := by
  obtain ⟨h5, hs⟩ := h
  refine b_X6_addToken hn hP ⟨fun z => absurd z (by omega), fun _ => ⟨by omega, by omega, by omega, by unfold inR; omega, ?_⟩⟩
  rw [h5]
  refine H _ ⟨fun c h1 h2 => ?_, fun k hk => ?_⟩ ⟨?_, fun i hi => ?_⟩
  · funext q
    rw [x_upd_nb h1, x_upd_nb (by omega), x_upd_nb (by omega), x_upd_nb (by omega)]
  · rw [x_upd_nj hk, x_upd_nb (by decide), x_upd_nb (by decide), x_upd_nb (by decide)]
  · rw [x_upd_at]; omega
  · by_cases q : i = j
    · subst q
      refine ⟨?_, ?_, ?_⟩
      · rw [x_upd_nb (by decide), x_upd_nb (by decide), x_upd_nb (by decide), x_upd_at]; exact e1
      · rw [x_upd_nb (by decide), x_upd_nb (by decide), x_upd_at]; exact e2
      · rw [x_upd_nb (by decide), x_upd_at]; exact e3
    · have hi' := hs i (by omega)
      have ne : (i : Int) ≠ (j : Int) := by omega
      refine ⟨?_, ?_, ?_⟩
      · rw [x_upd_nb (by decide), x_upd_nb (by decide), x_upd_nb (by decide), x_upd_nj ne]; exact hi'.1
      · rw [x_upd_nb (by decide), x_upd_nb (by decide), x_upd_nj ne, x_upd_nb (by decide)]; exact hi'.2.1
      · rw [x_upd_nb (by decide), x_upd_nj ne, x_upd_nb (by decide), x_upd_nb (by decide)]; exact hi'.2.2
abbrev tpC (M : xM) : Prop := (0 ≤ M 37 1 ∧ M 37 1 ≤ 300) ∧ ∀ i, 0 ≤ i → i < M 37 1 → 0 ≤ M 38 i ∧ M 38 i ≤ 255
theorem k_scanNumber (hn : 82 ≤ n) (hP : x_PP P) {j : Nat} (ht : tpC M) (h : tkS (M 38) (M 37 1) M j) (hj : j ≤ 300) (hs : ps (M 38) (M 37 1) j < M 37 1) (hl : ¬ isLt (M 38 (ps (M 38) (M 37 1) j))) (hd : isDg (M 38 (ps (M 38) (M 37 1) j))) (H : ∀ M', offT M M' → tkS (M 38) (M 37 1) M' (j + 1) → F M' (en (M 38) (M 37 1) (ps (M 38) (M 37 1) j))) : xCI Y_X6_scanNumber g (d + 1) [vR (some 37), vI (ps (M 38) (M 37 1) j)] n P M F := by
  generalize hS : ps (M 38) (M 37 1) j = s at *
  have s0 : 0 ≤ s := by rw [← hS]; exact (ps_r ht.1.1 j).1
  have eE : en (M 38) (M 37 1) s = rE dgB (M 38) (M 37 1) s := by unfold en; rw [if_neg (by omega), if_neg hl, if_pos hd]
  have eK : kd (M 38) (M 37 1) s = 72 := by unfold kd; rw [if_neg (by omega), if_neg hl, if_pos hd]
  have eV : vl (M 38) (M 37 1) s = nv (M 38) (rE dgB (M 38) (M 37 1) s - s).toNat s 0 := by unfold vl; rw [if_pos ⟨by omega, hl, hd⟩]
  rw [eE] at H
  generalize hEE : rE dgB (M 38) (M 37 1) s = e at *
  have rg := rE_rg (q := dgB) (f := M 38) (L := M 37 1) (p := s) (by omega)
  rw [hEE] at rg
  have loop : ∀ (m : Nat) (p a : Int), p + m = e → s ≤ p → (0 ≤ a ∧ a ≤ 10000) → nv (M 38) (e - p).toNat p a = vl (M 38) (M 37 1) s → xW Y_X6_scanNumber g (d + 1) 0 0 4 [(0, vR (some 37)), (1, vI s), (2, vI p), (3, vI a)] [] (0, 0) (n, P, M) (kI n P F) := by
    intro m
    induction m with
    | zero =>
      intro p a hp sp ha hv
      have pe : p = e := by omega
      subst pe
      have ea : a = vl (M 38) (M 37 1) s := by
        rw [← hv, show (p - p).toNat = 0 by omega]
        rfl
      have fin : xW Y_X6_scanNumber g (d + 1) 0 0 51 [(0, vR (some 37)), (1, vI s), (2, vI p), (3, vI a)] [] (0, 0) (n, P, M) (kI n P F) := b_X6_scanNumber_51 hn hP (k_addToken hn hP h hj hS.symm (by rw [hS]; exact eK.symm) (by rw [hS]; exact ea) (fun M' o' t' => H M' o' t'))
      refine b_X6_scanNumber_4 hn hP ⟨fun _ => fin, fun q => ⟨by omega, c_X6_isDigit hn ⟨fun _ => fin, fun z => absurd ⟨by omega, dgB_t.mpr (bi_n0.mp z)⟩ rg.2.2⟩⟩⟩
    | succ m ih =>
      intro p a hp sp ha hv
      have hdp := dgB_t.mp (rg.2.1 p sp (by omega))
      have nx : nv (M 38) (e - p).toNat p a = nv (M 38) (e - (p + 1)).toNat (p + 1) (if a * 10 + M 38 p - 48 ≤ 10000 then a * 10 + M 38 p - 48 else 10000) := by
        rw [show (e - p).toNat = (e - (p + 1)).toNat + 1 by omega]
        rfl
      rw [nx] at hv
      refine b_X6_scanNumber_4 hn hP ⟨fun q => absurd q (by omega), fun q => ⟨by omega, c_X6_isDigit hn ⟨fun z => absurd hdp (bi_0.mp z), fun _ => ⟨by unfold inR; omega, by omega, by unfold inR; omega, by unfold inR; omega, k_min hn ⟨by unfold inR; omega, ?_⟩⟩⟩⟩⟩
      exact ih (p + 1) _ (by omega) (by omega) (by split <;> omega) hv
  exact b_X6_scanNumber hn hP (loop (e - s).toNat s 0 (by omega) (Int.le_refl _) (by omega) eV.symm)
theorem k_scanSign (hn : 82 ≤ n) (hP : x_PP P) {j : Nat} (ht : tpC M) (h : tkS (M 38) (M 37 1) M j) (hj : j ≤ 300) (hs : ps (M 38) (M 37 1) j < M 37 1) (hl : ¬ isLt (M 38 (ps (M 38) (M 37 1) j))) (hd : ¬ isDg (M 38 (ps (M 38) (M 37 1) j))) (H : ∀ M', offT M M' → tkS (M 38) (M 37 1) M' (j + 1) → F M' (en (M 38) (M 37 1) (ps (M 38) (M 37 1) j))) : xCI Y_X6_scanSign g (d + 1) [vR (some 37), vI (ps (M 38) (M 37 1) j)] n P M F := by
  generalize hS : ps (M 38) (M 37 1) j = s at *
  have s0 : 0 ≤ s := by rw [← hS]; exact (ps_r ht.1.1 j).1
  have eE : en (M 38) (M 37 1) s = if isW2 (M 38) (M 37 1) s 60 ∨ isW2 (M 38) (M 37 1) s 62 then s + 2 else s + 1 := by unfold en; rw [if_neg (by omega), if_neg hl, if_neg hd]
  have eK : kd (M 38) (M 37 1) s = if isW2 (M 38) (M 37 1) s 60 then 70 else if isW2 (M 38) (M 37 1) s 62 then 71 else if isSg (M 38 s) then M 38 s else 74 := by unfold kd; rw [if_neg (by omega), if_neg hl, if_neg hd]
  have eV : vl (M 38) (M 37 1) s = 0 := by unfold vl; exact if_neg (fun z => hd z.2.2)
  rw [eE] at H
  have fin : ∀ k z, k = kd (M 38) (M 37 1) s → z = (if isW2 (M 38) (M 37 1) s 60 ∨ isW2 (M 38) (M 37 1) s 62 then s + 2 else s + 1) → ∀ G : xM → Prop, (∀ M', F M' z → G M') → xCV Y_X6_addToken g d [vR (some 37), vI k, vI s, vI 0] n P M G := fun k z hk hz G hG => k_addToken hn hP h hj hS.symm (by rw [hS]; exact hk) (by rw [hS]; exact eV.symm) (fun M' o' t' => hG M' (by rw [hz]; exact H M' o' t'))
  have single : ¬ isW2 (M 38) (M 37 1) s 60 → ¬ isW2 (M 38) (M 37 1) s 62 → xW Y_X6_scanSign g (d + 1) 0 0 80 [(0, vR (some 37)), (1, vI s), (2, vI (M 38 s))] [] (0, 0) (n, P, M) (kI n P F) := fun h1 h2 => by
    rw [if_neg h1, if_neg h2] at eK
    refine b_X6_scanSign_80 hn hP (c_X6_isSign hn ⟨fun z => b_X6_scanSign_94 hn hP (fin 74 (s + 1) ?_ (if_neg (fun w => by rcases w with w | w; exact h1 w; exact h2 w)).symm _ (fun M' q => ⟨by unfold inR; omega, q⟩)), fun z => b_X6_scanSign_94 hn hP (fin (M 38 s) (s + 1) ?_ (if_neg (fun w => by rcases w with w | w; exact h1 w; exact h2 w)).symm _ (fun M' q => ⟨by unfold inR; omega, q⟩))⟩)
    · rw [eK, if_neg (bi_0.mp z)]
    · rw [eK, if_pos (bi_n0.mp z)]
  have narrow : ¬ (s + 1 < M 37 1 ∧ M 38 (s + 1) = 61) → xW Y_X6_scanSign g (d + 1) 0 0 34 [(0, vR (some 37)), (1, vI s), (2, vI (M 38 s))] [] (0, 0) (n, P, M) (kI n P F) := fun hw => b_X6_scanSign_34 hn hP (b_X6_scanSign_35 hn hP ⟨fun _ => b_X6_scanSign_58 hn hP ⟨fun _ => single (fun z => hw z.2) (fun z => hw z.2), fun z => absurd rfl z⟩, fun z => absurd rfl z⟩)
  refine b_X6_scanSign hn hP ⟨by omega, by unfold inR; omega, fun q => narrow (fun z => by omega), fun q => ⟨by unfold inR; omega, by omega, fun q2 => narrow (fun z => q2 z.2), fun q2 => ?_⟩⟩
  refine b_X6_scanSign_35 hn hP ⟨fun z => absurd z (by decide), fun _ => ⟨fun n60 => b_X6_scanSign_58 hn hP ⟨fun z => absurd z (by decide), fun _ => ⟨fun n62 => single (fun z => n60 z.1) (fun z => n62 z.1), fun y62 => ?_⟩⟩, fun y60 => ?_⟩⟩
  · have w1 : ¬ isW2 (M 38) (M 37 1) s 60 := fun z => n60 z.1
    have w2 : isW2 (M 38) (M 37 1) s 62 := ⟨y62, by omega, q2⟩
    rw [if_neg w1, if_pos w2] at eK
    exact fin 71 (s + 2) eK.symm (if_pos (Or.inr w2)).symm _ (fun M' q => ⟨by unfold inR; omega, q⟩)
  · have w1 : isW2 (M 38) (M 37 1) s 60 := ⟨y60, by omega, q2⟩
    rw [if_pos w1] at eK
    exact fin 70 (s + 2) eK.symm (if_pos (Or.inl w1)).symm _ (fun M' q => ⟨by unfold inR; omega, q⟩)
end Scan
