/-! the reference's nextToken -/
section Rtok2
variable {g : Option Nat} {d n : Nat} {P : xP} {M : xM} {F : xM → Int → Prop} {G : xM → Prop}
theorem q_nextToken (hn : 82 ≤ n) (hP : x_PP P) {f : Int → Int} {L : Int} (ht : tpT f L M) (h7 : 0 ≤ M 64 7 ∧ M 64 7 ≤ L) (H : ∀ M', offK M M' → tkR f L M' (rE spB f L (M 64 7)) → G M') : xCV Y_X10_nextToken g (d + 1) [vR (some 64)] n P M G := by
  have tokenAt : ∀ (N : xM) (s : Int), offK M N → N 64 7 = s → (0 ≤ s ∧ s ≤ L) → rE spB f L (M 64 7) = s → ¬ (s < L ∧ isSp (f s)) → xW Y_X10_nextToken g (d + 1) 0 0 0 [(0, vR (some 64))] [] (0, 0) (n, P, N) (kV n P G) := by
    intro N s oN e7 hs hr hnsp
    have tN := tpT_K oN ht
    rw [hr] at H
    have o1 : offK M (x_upd N 64 8 s) := offK_upd oN (by omega)
    have t1 := tpT_K o1 ht
    have a8 : ∀ N', N' 64 8 = s → N' 64 7 = en f L s → offK M N' → ((L ≤ s → N' 64 9 = 0) ∧ (¬ L ≤ s → isLt (f s) → N' 64 9 = 2 ∧ N' 64 11 = pkF (wd f s (rE ltB f L s)) 0) ∧ (¬ L ≤ s → ¬ isLt (f s) → isDg (f s) → N' 64 9 = 1 ∧ N' 64 10 = rv f (rE dgB f L s - s).toNat s 0) ∧ (¬ L ≤ s → ¬ isLt (f s) → ¬ isDg (f s) → N' 64 9 = if isW2 f L s 60 then 4 else if isW2 f L s 62 then 5 else if isSg (f s) then f s else 3)) → G N' := fun N' h8 h7 o' hh => H N' o' ⟨h8, h7, hh⟩
    have body : ∀ z27, (L ≤ s → z27 = -1) → (¬ L ≤ s → z27 = f s) → xCI Y_X10_byteAt g d [vR (some 64), vI s] n P (x_upd N 64 8 s) (fun M27 z => z = z27 ∧ M27 = x_upd N 64 8 s) := fun z27 h1 h2 => q_byteAt hn hP t1 hs.1 (fun q => ⟨(h1 q).symm, rfl⟩) (fun q => ⟨(h2 q).symm, rfl⟩)
    have rest : xCI Y_X10_byteAt g d [vR (some 64), vI s] n P (x_upd N 64 8 s) (fun M27 z27 => ((0 ≤ z27 → xCI Y_X10_isFigure g (d) [vI z27] n P M27 (fun M28 z28 => ((z28 = 0 → xCI Y_X10_isLetterByte g (d) [vI z27] n P M28 (fun M29 z29 => ((z29 = 0 → xCI Y_X10_isSign g (d) [vI z27] n P M29 (fun M30 z30 => ((z30 = 0 → xW Y_X10_nextToken g (d + 1) 0 0 247 [(0, vR (some 64)), (1, vI z27)] [vI 3, vR (some 64)] (0, 0) (n, P, M30) (kV n P G)) ∧ (¬ z30 = 0 → xW Y_X10_nextToken g (d + 1) 0 0 247 [(0, vR (some 64)), (1, vI z27)] [vI z27, vR (some 64)] (0, 0) (n, P, M30) (kV n P G))))) ∧ (¬ z29 = 0 → xW Y_X10_nextToken g (d + 1) 0 0 168 [(0, vR (some 64))] [] (0, 0) (n, P, (x_upd (x_upd M29 64 9 2) 64 11 0)) (kV n P G))))) ∧ (¬ z28 = 0 → xW Y_X10_nextToken g (d + 1) 0 0 85 [(0, vR (some 64))] [] (0, 0) (n, P, (x_upd (x_upd M28 64 9 1) 64 10 0)) (kV n P G))))) ∧ (¬ 0 ≤ z27 → G (x_upd M27 64 9 0)))) := by
      refine q_byteAt hn hP t1 hs.1 (fun q => ⟨fun z => absurd z (by decide), fun _ => ?_⟩) (fun q => ?_)
      · refine a8 _ ?_ ?_ (offK_upd o1 (by omega)) ⟨fun _ => x_upd_at _ _ _ _, fun z => absurd q z, fun z => absurd q z, fun z => absurd q z⟩
        · rw [x_upd_nj (by decide), x_upd_at]
        · rw [x_upd_nj (by decide), x_upd_nj (by decide), e7]
          unfold en
          rw [if_pos q]
      · have fr := ht.2.2 s hs.1 (by omega)
        refine ⟨fun _ => c_X10_isFigure hn ⟨fun zf => c_X10_isLetterByte hn ⟨fun zl => ?_, fun zl => ?_⟩, fun zf => ?_⟩, fun z => absurd fr.2.1 z⟩
        · -- a sign
          have nl := bi_0.mp zl
          have nd := bi_0.mp zf
          have sg : ∀ s0, s0 = (if isSg (f s) then f s else 3) → xW Y_X10_nextToken g (d + 1) 0 0 247 [(0, vR (some 64)), (1, vI (f s))] [vI s0, vR (some 64)] (0, 0) (n, P, x_upd N 64 8 s) (kV n P G) := fun s0 hs0 => by
            have n7 : x_upd N 64 8 s 64 7 = s := by rw [x_upd_nj (by decide)]; exact e7
            have o3 : offK M (x_upd (x_upd (x_upd N 64 8 s) 64 9 s0) 64 7 (s + 1)) := offK_upd (offK_upd o1 (by omega)) (by omega)
            have one : ¬ isW2 f L s 60 → ¬ isW2 f L s 62 → G (x_upd (x_upd (x_upd N 64 8 s) 64 9 s0) 64 7 (s + 1)) := fun w1 w2 => by
              refine a8 _ ?_ ?_ o3 ⟨fun z => absurd z q, fun _ z => absurd z nl, fun _ _ z => absurd z nd, fun _ _ _ => ?_⟩
              · rw [x_upd_nj (by decide), x_upd_nj (by decide), x_upd_at]
              · rw [x_upd_at]
                unfold en
                rw [if_neg q, if_neg nl, if_neg nd, if_neg (fun z => by rcases z with z | z; exact w1 z; exact w2 z)]
              · rw [x_upd_nj (by decide), x_upd_at, if_neg w1, if_neg w2, hs0]
            have two : ∀ k, isW2 f L s 60 ∨ isW2 f L s 62 → k = (if isW2 f L s 60 then 4 else 5) → xW Y_X10_nextToken g (d + 1) 0 0 297 [(0, vR (some 64))] [vI k, vR (some 64)] (0, 0) (n, P, x_upd (x_upd (x_upd N 64 8 s) 64 9 s0) 64 7 (s + 1)) (kV n P G) := fun k hw hk => by
              have sl : s + 1 < L := by rcases hw with w | w; exact w.2.1; exact w.2.1
              refine b_X10_nextToken_297 hn hP ⟨by rw [x_upd_at]; unfold inR; have := ht.2.1; omega, ?_⟩
              refine a8 _ ?_ ?_ (offK_upd (offK_upd o3 (by omega)) (by omega)) ⟨fun z => absurd z q, fun _ z => absurd z nl, fun _ _ z => absurd z nd, fun _ _ _ => ?_⟩
              · rw [x_upd_nj (by decide), x_upd_nj (by decide), x_upd_nj (by decide), x_upd_nj (by decide), x_upd_at]
              · rw [x_upd_at, x_upd_at]
                unfold en
                rw [if_neg q, if_neg nl, if_neg nd, if_pos hw]
                omega
              · rw [x_upd_nj (by decide), x_upd_at, hk]
                by_cases w1 : isW2 f L s 60
                · rw [if_pos w1, if_pos w1]
                · rw [if_neg w1, if_neg w1, if_pos (by rcases hw with w | w; exact absurd w w1; exact w)]
            have look : (f s = 60 ∨ f s = 62) → xW Y_X10_nextToken g (d + 1) 0 0 272 [(0, vR (some 64)), (1, vI (f s))] [] (0, 0) (n, P, x_upd (x_upd (x_upd N 64 8 s) 64 9 s0) 64 7 (s + 1)) (kV n P G) := fun hc => by
              refine b_X10_nextToken_272 hn hP ?_
              rw [x_upd_at]
              refine q_byteAt hn hP (tpT_K o3 ht) (by omega) (fun q1 => ⟨fun _ => one (fun z => by have := z.2.1; omega) (fun z => by have := z.2.1; omega), fun z => absurd z (by decide)⟩) (fun q1 => ⟨fun q2 => one (fun z => q2 z.2.2) (fun z => q2 z.2.2), fun q2 => ⟨fun n60 => ?_, fun y60 => ?_⟩⟩)
              · have w2 : isW2 f L s 62 := ⟨by rcases hc with w | w; exact absurd w n60; exact w, by omega, q2⟩
                exact two 5 (Or.inr w2) (if_neg (fun z => n60 z.1)).symm
              · have w1 : isW2 f L s 60 := ⟨y60, by omega, q2⟩
                exact two 4 (Or.inl w1) (if_pos w1).symm
            refine b_X10_nextToken_247 hn hP ⟨by rw [n7]; unfold inR; have := ht.2.1; omega, fun y60 => ?_, fun n60 => ⟨fun n62 => ?_, fun y62 => ?_⟩⟩
            · rw [n7]; exact look (Or.inl y60)
            · rw [n7]; exact one (fun z => n60 z.1) (fun z => n62 z.1)
            · rw [n7]; exact look (Or.inr y62)
          exact c_X10_isSign hn ⟨fun z => sg 3 (if_neg (bi_0.mp z)).symm, fun z => sg (f s) (if_pos (bi_n0.mp z)).symm⟩
        · -- a word
          have yl := bi_n0.mp zl
          have o3 : offK M (x_upd (x_upd (x_upd N 64 8 s) 64 9 2) 64 11 0) := offK_upd (offK_upd o1 (by omega)) (by omega)
          have rg := (rE_rg (q := ltB) (f := f) (L := L) (p := s) hs.2).1
          refine q_letters hn hP (f := f) (L := L) (s := s) (e := rE ltB f L s) (W := pkF (wd f s (rE ltB f L s)) 0) hs.1 rfl rg.2 (rE ltB f L s - s).toNat s _ (by omega) (Int.le_refl _) rfl (tpT_K o3 ht) ?_ ?_ (fun M' o' g7 g11 g8 g9 => ?_)
          · rw [x_upd_nj (by decide), x_upd_nj (by decide), x_upd_nj (by decide)]; exact e7
          · rw [x_upd_at]
          · refine a8 M' ?_ ?_ (offK_trans o3 o') ⟨fun z => absurd z q, fun _ _ => ⟨?_, g11⟩, fun _ z => absurd yl z, fun _ z => absurd yl z⟩
            · rw [g8, x_upd_nj (by decide), x_upd_nj (by decide), x_upd_at]
            · rw [g7]; unfold en; rw [if_neg q, if_pos yl]
            · rw [g9, x_upd_nj (by decide), x_upd_at]
        · -- a number
          have yd := bi_n0.mp zf
          have nl : ¬ isLt (f s) := fun z => by omega
          have o3 : offK M (x_upd (x_upd (x_upd N 64 8 s) 64 9 1) 64 10 0) := offK_upd (offK_upd o1 (by omega)) (by omega)
          have rg := (rE_rg (q := dgB) (f := f) (L := L) (p := s) hs.2).1
          refine q_figures hn hP (f := f) (L := L) (s := s) (e := rE dgB f L s) (W := rv f (rE dgB f L s - s).toNat s 0) hs.1 rfl rg.2 (rE dgB f L s - s).toNat s _ (by omega) (Int.le_refl _) rfl (tpT_K o3 ht) ?_ ?_ ?_ (fun M' o' g7 g10 g8 g9 => ?_)
          · rw [x_upd_nj (by decide), x_upd_nj (by decide), x_upd_nj (by decide)]; exact e7
          · rw [x_upd_at]; omega
          · rw [x_upd_at]
          · refine a8 M' ?_ ?_ (offK_trans o3 o') ⟨fun z => absurd z q, fun _ z => absurd z nl, fun _ _ _ => ⟨?_, g10⟩, fun _ _ z => absurd yd z⟩
            · rw [g8, x_upd_nj (by decide), x_upd_nj (by decide), x_upd_at]
            · rw [g7]; unfold en; rw [if_neg q, if_neg nl, if_pos yd]
            · rw [g9, x_upd_nj (by decide), x_upd_at]
    refine b_X10_nextToken_0 hn hP ?_
    rw [e7]
    have stp : ∀ z, (z = -1 ∨ (s < L ∧ z = f s)) → ¬ z = 32 ∧ ¬ z = 10 := fun z hz => by
      rcases hz with w | ⟨w1, w2⟩
      · omega
      · exact ⟨fun e => hnsp ⟨w1, Or.inl (by rw [← w2]; exact e)⟩, fun e => hnsp ⟨w1, Or.inr (by rw [← w2]; exact e)⟩⟩
    refine q_byteAt hn hP tN hs.1 (fun q => ⟨fun z => absurd z (by decide), fun _ => ?_⟩) (fun q => ⟨fun z => absurd z (stp _ (Or.inr ⟨by omega, rfl⟩)).1, fun _ => ?_⟩)
    · rw [e7]
      refine q_byteAt hn hP tN hs.1 (fun _ => ⟨fun _ => ?_, fun z => absurd z (by decide)⟩) (fun q2 => absurd q q2)
      rw [e7]
      exact rest
    · rw [e7]
      refine q_byteAt hn hP tN hs.1 (fun q2 => absurd q2 q) (fun _ => ⟨fun _ => ?_, fun z => absurd z (stp _ (Or.inr ⟨by omega, rfl⟩)).2⟩)
      rw [e7]
      exact rest
  have loop : ∀ (m : Nat) (p : Int) (N : xM), p + m = L → 0 ≤ p → offK M N → N 64 7 = p → rE spB f L (M 64 7) = rE spB f L p → xW Y_X10_nextToken g (d + 1) 0 0 0 [(0, vR (some 64))] [] (0, 0) (n, P, N) (kV n P G) := by
    intro m
    induction m with
    | zero =>
      intro p N hp p0 oN e7 hr
      exact tokenAt N p oN e7 (by omega) (by rw [hr]; exact rE_stop (fun z => by omega)) (fun z => by omega)
    | succ m ih =>
      intro p N hp p0 oN e7 hr
      by_cases sp : isSp (f p)
      · have tN := tpT_K oN ht
        have nx : xW Y_X10_nextToken g (d + 1) 0 0 26 [(0, vR (some 64))] [] (0, 0) (n, P, N) (kV n P G) := b_X10_nextToken_26 hn hP ⟨by rw [e7]; unfold inR; have := ht.2.1; omega, ih (p + 1) _ (by omega) (by omega) (offK_upd oN (by omega)) (by rw [x_upd_at, e7]) (by rw [hr]; exact rE_go (by omega) (spB_t.mpr sp))⟩
        refine b_X10_nextToken_0 hn hP ?_
        rw [e7]
        refine q_byteAt hn hP tN p0 (fun q => absurd q (by omega)) (fun q => ⟨fun _ => nx, fun n32 => ?_⟩)
        rw [e7]
        exact q_byteAt hn hP tN p0 (fun q => absurd q (by omega)) (fun _ => ⟨fun n10 => by rcases sp with w | w; exact absurd w n32; exact absurd w n10, fun _ => nx⟩)
      · exact tokenAt N p oN e7 (by omega) (by rw [hr]; exact rE_stop (fun z => sp (spB_t.mp z.2))) (fun z => sp z.2)
  exact b_X10_nextToken hn hP (loop (L - M 64 7).toNat (M 64 7) M (by omega) h7.1 (offK_refl M) rfl rfl)
end Rtok2
