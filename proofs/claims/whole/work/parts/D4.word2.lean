/-! wordAt; scanWord; scan -/
section Word2
variable {g : Option Nat} {d n : Nat} {P : xP} {M : xM} {F : xM → Int → Prop} {G : xM → Prop}
set_option maxRecDepth 20000 in
set_option maxHeartbeats 1000000 in
theorem b_X6_wordAt_62 {x1 x2 x3 x4 x5 c s0 : Int} (H : xW Y_X6_wordAt g (d + 5) 0 0 81 [(0, vR (some 37)), (1, vI x1), (2, vI x2), (3, vI x3), (4, vI s0), (5, vI x5)] [] (0, 0) (n, P, M) (kI n P F)) : xW Y_X6_wordAt g (d + 5) 0 0 62 [(0, vR (some 37)), (1, vI x1), (2, vI x2), (3, vI x3), (4, vI x4), (5, vI x5), (6, vI c)] [vI s0] (0, 0) (n, P, M) (kI n P F) :=
  xW.istore dX6_wordAt_62 (by decide) rfl (xW.goto (tgt := 81) dX6_wordAt_64 (by decide) (xW.sub [0, 1, 2, 3, 4, 5] rfl H))
set_option maxRecDepth 20000 in
set_option maxHeartbeats 1000000 in
theorem b_X6_wordAt_27 (hn : 82 ≤ n) (hP : x_PP P) {x1 x2 x3 x4 x5 c : Int} (H : (c = 32 → (x4 = x2 → F M x3) ∧ (¬ x4 = x2 → inR (x3 + 1) ∧ xW Y_X6_wordAt g (d + 5) 0 0 81 [(0, vR (some 37)), (1, vI x1), (2, vI x2), (3, vI (x3 + 1)), (4, vI x1), (5, vI x5)] [] (0, 0) (n, P, M) (kI n P F))) ∧ (¬ c = 32 → (x2 ≤ x4 → xW Y_X6_wordAt g (d + 5) 0 0 81 [(0, vR (some 37)), (1, vI x1), (2, vI x2), (3, vI x3), (4, vI 301), (5, vI x5)] [] (0, 0) (n, P, M) (kI n P F)) ∧ (¬ x2 ≤ x4 → ((0 : Int) ≤ x4 ∧ x4 < (300 : Int)) ∧ (¬ M 38 x4 = c → xW Y_X6_wordAt g (d + 5) 0 0 81 [(0, vR (some 37)), (1, vI x1), (2, vI x2), (3, vI x3), (4, vI 301), (5, vI x5)] [] (0, 0) (n, P, M) (kI n P F)) ∧ (M 38 x4 = c → inR (x4 + 1) ∧ xW Y_X6_wordAt g (d + 5) 0 0 81 [(0, vR (some 37)), (1, vI x1), (2, vI x2), (3, vI x3), (4, vI (x4 + 1)), (5, vI x5)] [] (0, 0) (n, P, M) (kI n P F))))) : xW Y_X6_wordAt g (d + 5) 0 0 27 [(0, vR (some 37)), (1, vI x1), (2, vI x2), (3, vI x3), (4, vI x4), (5, vI x5), (6, vI c)] [] (0, 0) (n, P, M) (kI n P F) :=
  xW.iload dX6_wordAt_27 6 rfl (xW.bipush dX6_wordAt_29 (by decide) (by decide) (xW.cmpeq (tgt := 67) dX6_wordAt_31 (by decide)
    (fun h1 => xW.iload dX6_wordAt_67 4 rfl (xW.iload_n dX6_wordAt_69 2 rfl (xW.cmpne (tgt := 75) dX6_wordAt_70 (by decide) (fun h2 => xW.iinc (q := 3) dX6_wordAt_75 rfl (by decide) ((H.1 h1).2 h2).1 rfl (xW.iload_n dX6_wordAt_78 1 rfl (xW.istore dX6_wordAt_79 (by decide) rfl (xW.sub [0, 1, 2, 3, 4, 5] rfl ((H.1 h1).2 h2).2)))) (fun h2 => xW.iload_n dX6_wordAt_73 3 rfl (xW.rI dX6_wordAt_74 rfl ((H.1 h1).1 h2))))))
    (fun h1 => xW.iload dX6_wordAt_34 4 rfl (xW.iload_n dX6_wordAt_36 2 rfl (xW.cmpge (tgt := 59) dX6_wordAt_37 (by decide) (fun h2 => xW.sipush dX6_wordAt_59 (by decide) (by decide) (b_X6_wordAt_62 ((H.2 h1).1 h2))) (fun h2 => xW.aload_n dX6_wordAt_40 0 rfl (xW.gR dX6_wordAt_41 fk_X6_9 (cl_37 hn) rfl (pp_37_0 hP) (xW.iload dX6_wordAt_44 4 rfl (xW.ald dX6_wordAt_46 (cl_38 hn) ((H.2 h1).2 h2).1 (xW.iload dX6_wordAt_47 6 rfl (xW.cmpne (tgt := 59) dX6_wordAt_49 (by decide) (fun h3 => xW.sipush dX6_wordAt_59 (by decide) (by decide) (b_X6_wordAt_62 (((H.2 h1).2 h2).2.1 h3))) (fun h3 => xW.iload dX6_wordAt_52 4 rfl (xW.iconst dX6_wordAt_54 (by decide) (xW.iadd dX6_wordAt_55 (((H.2 h1).2 h2).2.2 h3).1 (xW.goto (tgt := 62) dX6_wordAt_56 (by decide) (b_X6_wordAt_62 (((H.2 h1).2 h2).2.2 h3).2))))))))))))))))
set_option maxRecDepth 20000 in
set_option maxHeartbeats 1000000 in
theorem b_X6_wordAt_8e {x1 x2 x3 x4 x5 : Int} (hi : wN ≤ x5) (H : F M 74) : xW Y_X6_wordAt g (d + 5) 0 0 8 [(0, vR (some 37)), (1, vI x1), (2, vI x2), (3, vI x3), (4, vI x4), (5, vI x5)] [] (0, 0) (n, P, M) (kI n P F) :=
  xW.iload dX6_wordAt_8 5 rfl (xW.ldcS rfl dX6_wordAt_10 (xW.callVSI (F := fun M' z => z = wN ∧ M' = M) [] [vI x5] dX6_wordAt_12 mk_X6_63 im_J0_length_8abf5 se_J0_length_8abf5 rfl rfl rfl (Nat.le_of_ble_eq_true rfl) ⟨Nat.le_refl _, Nat.le_refl _⟩ (c_J0_length ⟨rfl, rfl⟩) (fun M' z h => by
    rw [h.1, h.2]
    exact xW.cmpge (tgt := 87) dX6_wordAt_15 (by decide) (fun _ => xW.bipush dX6_wordAt_87 (by decide) (by decide) (xW.rI dX6_wordAt_89 rfl H)) (fun q => absurd hi q))))
set_option maxRecDepth 20000 in
set_option maxHeartbeats 1000000 in
theorem b_X6_wordAt_8c {x1 x2 x3 x4 x5 : Int} (hi : 0 ≤ x5 ∧ x5 < wN) (hb : 0 ≤ wB8 x5 ∧ wB8 x5 ≤ 255) (H : xW Y_X6_wordAt g (d + 5) 0 0 27 [(0, vR (some 37)), (1, vI x1), (2, vI x2), (3, vI x3), (4, vI x4), (5, vI x5), (6, vI (wB8 x5))] [] (0, 0) (n, P, M) (kI n P F)) : xW Y_X6_wordAt g (d + 5) 0 0 8 [(0, vR (some 37)), (1, vI x1), (2, vI x2), (3, vI x3), (4, vI x4), (5, vI x5)] [] (0, 0) (n, P, M) (kI n P F) :=
  xW.iload dX6_wordAt_8 5 rfl (xW.ldcS rfl dX6_wordAt_10 (xW.callVSI (F := fun M' z => z = wN ∧ M' = M) [] [vI x5] dX6_wordAt_12 mk_X6_63 im_J0_length_8abf5 se_J0_length_8abf5 rfl rfl rfl (Nat.le_of_ble_eq_true rfl) ⟨Nat.le_refl _, Nat.le_refl _⟩ (c_J0_length ⟨rfl, rfl⟩) (fun M' z h => by
    rw [h.1, h.2]
    exact xW.cmpge (tgt := 87) dX6_wordAt_15 (by decide) (fun q => absurd hi.2 (Int.not_lt.mpr q)) (fun _ => xW.ldcS rfl dX6_wordAt_18 (xW.iload dX6_wordAt_20 5 rfl (xW.callVSI (F := fun M' z => z = wB8 x5 ∧ M' = M) [vI x5] [] dX6_wordAt_22 mk_X6_68 im_J0_charAt_5068e se_J0_charAt_5068e rfl rfl rfl (Nat.le_of_ble_eq_true rfl) ⟨Nat.le_refl _, Nat.le_refl _⟩ (c_J0_charAt hi hb ⟨rfl, rfl⟩) (fun M' z h => by
      rw [h.1, h.2]
      exact xW.istore dX6_wordAt_25 (by decide) rfl H)))))))
theorem k_wordAt (hn : 82 ≤ n) (hP : x_PP P) {fr to : Int} (hf : 0 ≤ fr ∧ fr ≤ to) (ht : to ≤ 300) (H : F M (wK (wd (M 38) fr to) wT 0)) : xCI Y_X6_wordAt g (d + 5) [vR (some 37), vI fr, vI to] n P M F := by
  rw [← wA_table ht hf.2 wT 0 wT_32] at H
  have wn := wN_r
  have loop : ∀ (r : List Int) (i : Nat) (w a : Int), (i : Int) + r.length = wN → (∀ j, j < r.length → r.getD j 0 = WL.getD (i + j) 0) → (0 ≤ w ∧ w ≤ i) → (0 ≤ a ∧ (a ≤ to ∨ a = 301)) → F M (wA (M 38) fr to r w a) → xW Y_X6_wordAt g (d + 5) 0 0 8 [(0, vR (some 37)), (1, vI fr), (2, vI to), (3, vI w), (4, vI a), (5, vI (i : Int))] [] (0, 0) (n, P, M) (kI n P F) := by
    intro r
    induction r with
    | nil =>
      intro i w a hi _ _ _ HF
      have : ([] : List Int).length = 0 := rfl
      exact b_X6_wordAt_8e (by omega) HF
    | cons c r ih =>
      intro i w a hi hr hw ha HF
      have lc : (c :: r).length = r.length + 1 := rfl
      have wl := WL_len
      have at1 := WL_at ⟨i, by omega⟩
      have e0 : wB8 (i : Int) = c := by
        have e := hr 0 (by omega)
        rw [Nat.add_zero] at e
        rw [at1.1, ← e]
        rfl
      have nx := fun w' a' => ih (i + 1) w' a' (by omega) (fun j hj => by
        have := hr (j + 1) (by omega)
        rw [show i + 1 + j = i + (j + 1) by omega, ← this]
        rfl)
      rw [show ((i + 1 : Nat) : Int) = (i : Int) + 1 by omega] at nx
      have ea : wA (M 38) fr to (c :: r) w a = if c = 32 then (if a = to then w else wA (M 38) fr to r (w + 1) fr) else wA (M 38) fr to r w (if a < to ∧ M 38 a = c then a + 1 else 301) := rfl
      rw [ea] at HF
      refine b_X6_wordAt_8c (by omega) (by rw [at1.1]; exact at1.2) ?_
      rw [e0]
      refine b_X6_wordAt_27 hn hP ⟨fun h1 => ⟨fun h2 => ?_, fun h2 => ⟨by unfold inR; omega, b_X6_wordAt_81 hn (by unfold inR; omega) (nx (w + 1) fr (by omega) (by omega) ?_)⟩⟩, fun h1 => ⟨fun h2 => b_X6_wordAt_81 hn (by unfold inR; omega) (nx w 301 (by omega) (by omega) ?_), fun h2 => ⟨by omega, fun h3 => b_X6_wordAt_81 hn (by unfold inR; omega) (nx w 301 (by omega) (by omega) ?_), fun h3 => ⟨by unfold inR; omega, b_X6_wordAt_81 hn (by unfold inR; omega) (nx w (a + 1) (by omega) (by omega) ?_)⟩⟩⟩⟩
      · rw [if_pos h1, if_pos h2] at HF; exact HF
      · rw [if_pos h1, if_neg h2] at HF; exact HF
      · rw [if_neg h1, if_neg (fun z => by omega)] at HF; exact HF
      · rw [if_neg h1, if_neg (fun z => h3 z.2)] at HF; exact HF
      · rw [if_neg h1, if_pos ⟨by omega, h3⟩] at HF; exact HF
  exact b_X6_wordAt hn hP (loop WL 0 0 fr (by rw [← WL_len]; omega) (fun j _ => by rw [Nat.zero_add]) (by omega) (by omega) H)
theorem k_scanWord (hn : 82 ≤ n) (hP : x_PP P) {j : Nat} (ht : tpC M) (h : tkS (M 38) (M 37 1) M j) (hj : j ≤ 300) (hs : ps (M 38) (M 37 1) j < M 37 1) (hl : isLt (M 38 (ps (M 38) (M 37 1) j))) (H : ∀ M', offT M M' → tkS (M 38) (M 37 1) M' (j + 1) → F M' (en (M 38) (M 37 1) (ps (M 38) (M 37 1) j))) : xCI Y_X6_scanWord g (d + 7) [vR (some 37), vI (ps (M 38) (M 37 1) j)] n P M F := by
  generalize hS : ps (M 38) (M 37 1) j = s at *
  have s0 : 0 ≤ s := by rw [← hS]; exact (ps_r ht.1.1 j).1
  have eE : en (M 38) (M 37 1) s = rE ltB (M 38) (M 37 1) s := by unfold en; rw [if_neg (by omega), if_pos hl]
  have eK : kd (M 38) (M 37 1) s = wK (wd (M 38) s (rE ltB (M 38) (M 37 1) s)) wT 0 := by unfold kd; rw [if_neg (by omega), if_pos hl]
  have eV : vl (M 38) (M 37 1) s = 0 := by unfold vl; exact if_neg (fun z => z.2.1 hl)
  rw [eE] at H
  generalize hEE : rE ltB (M 38) (M 37 1) s = e at *
  have rg := rE_rg (q := ltB) (f := M 38) (L := M 37 1) (p := s) (by omega)
  rw [hEE] at rg
  have loop : ∀ (m : Nat) (p : Int), p + m = e → s ≤ p → xW Y_X6_scanWord g (d + 7) 0 0 2 [(0, vR (some 37)), (1, vI s), (2, vI p)] [] (0, 0) (n, P, M) (kI n P F) := by
    intro m
    induction m with
    | zero =>
      intro p hp sp
      have pe : p = e := by omega
      subst pe
      have fin : xW Y_X6_scanWord g (d + 7) 0 0 28 [(0, vR (some 37)), (1, vI s), (2, vI p)] [] (0, 0) (n, P, M) (kI n P F) := b_X6_scanWord_28 hn hP (k_wordAt hn hP (by omega) (by omega) (k_addToken hn hP h hj hS.symm (by rw [hS]; exact eK.symm) (by rw [hS]; exact eV.symm) (fun M' o' t' => H M' o' t')))
      exact b_X6_scanWord_2 hn hP ⟨fun _ => fin, fun q => ⟨by omega, c_X6_isLetter hn ⟨fun _ => fin, fun z => absurd ⟨by omega, ltB_t.mpr (bi_n0.mp z)⟩ rg.2.2⟩⟩⟩
    | succ m ih =>
      intro p hp sp
      have hdp := ltB_t.mp (rg.2.1 p sp (by omega))
      exact b_X6_scanWord_2 hn hP ⟨fun q => absurd q (by omega), fun q => ⟨by omega, c_X6_isLetter hn ⟨fun z => absurd hdp (bi_0.mp z), fun _ => ⟨by unfold inR; omega, ih (p + 1) (by omega) (by omega)⟩⟩⟩⟩
  exact b_X6_scanWord hn hP (loop (e - s).toNat s (by omega) (Int.le_refl _))
end Word2
