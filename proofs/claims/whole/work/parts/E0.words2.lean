/-! the reference's long words, names and sorts -/
section Words2
variable {g : Option Nat} {d n : Nat} {P : xP} {M : xM} {F : xM → Int → Prop} {G : xM → Prop}
theorem vl4 {a b c e a' b' c' e' : Int} (h : ∀ x ∈ [a, b, c, e], 0 < x ∧ x < 256) (h' : ∀ x ∈ [a', b', c', e'], 0 < x ∧ x < 256) : vlF [a, b, c, e] 0 = vlF [a', b', c', e'] 0 ↔ [a, b, c, e] = [a', b', c', e'] := ⟨fun q => vlF_inj 4 _ _ (Nat.le_refl _) h h' q, fun q => by rw [q]⟩
theorem vl3 {a b c a' b' c' : Int} (h : ∀ x ∈ [a, b, c], 0 < x ∧ x < 256) (h' : ∀ x ∈ [a', b', c'], 0 < x ∧ x < 256) : vlF [a, b, c] 0 = vlF [a', b', c'] 0 ↔ [a, b, c] = [a', b', c'] := ⟨fun q => vlF_inj 3 _ _ (Nat.le_refl _) h h' q, fun q => by rw [q]⟩
theorem in4 {p : Int → Prop} {a b c e : Int} (ha : p a) (hb : p b) (hc : p c) (he : p e) : ∀ x ∈ [a, b, c, e], p x := fun x hx => by
  rcases List.mem_cons.mp hx with rfl | hx
  · exact ha
  rcases List.mem_cons.mp hx with rfl | hx
  · exact hb
  rcases List.mem_cons.mp hx with rfl | hx
  · exact hc
  rcases List.mem_cons.mp hx with rfl | hx
  · exact he
  · nomatch hx
theorem in3 {p : Int → Prop} {a b c : Int} (ha : p a) (hb : p b) (hc : p c) : ∀ x ∈ [a, b, c], p x := fun x hx => by
  rcases List.mem_cons.mp hx with rfl | hx
  · exact ha
  rcases List.mem_cons.mp hx with rfl | hx
  · exact hb
  rcases List.mem_cons.mp hx with rfl | hx
  · exact hc
  · nomatch hx
theorem q_isLong (hn : 82 ≤ n) (hP : x_PP P) {f : Int → Int} {L s : Int} {w1 w2 : List Int} {r : Int} (k : Nat) (hk : k < 26) (hs : 0 ≤ s ∧ s ≤ L) (hw : wT.getD k [] = w1 ++ w2) (h1 : w1.length = 4) (h2 : (w2.length : Int) = r) (hr : r = 3 ∨ r = 4) (tp : tpT f L M) (ht : tkR f L M s) (H : F M (bi (kd f L s = (k : Int)))) : xCI Y_X10_isLong g (d + 3) [vR (some 64), vJ (vlF w1 0), vJ (vlF w2 0), vI r] n P M F := by
  have t : kd f L s = (k : Int) → F M 1 := fun h => by rwa [bi_t h] at H
  have z : ¬ kd f L s = (k : Int) → F M 0 := fun h => by rwa [bi_f h] at H
  have ki := kd_iff (f := f) (L := L) (s := s) hk
  have e8 := ht.1
  have e7 := ht.2.1
  have wlt := wT_lt ⟨k, hk⟩
  have wlt' : ∀ c ∈ w1 ++ w2, 0 < c ∧ c < 256 := by rw [← hw]; exact wlt
  refine b_X10_isLong hn hP ⟨fun q => z (fun w => q ((tk9_2 ht).mpr (ki.mp w).1)), fun q => ?_⟩
  have q1 := (tk9_2 ht).mp q
  have eE : en f L s = rE ltB f L s := by unfold en; rw [if_neg q1.1, if_pos q1.2]
  have rg := rE_rg (q := ltB) (f := f) (L := L) (p := s) hs.2
  have ll := wl_lt (f := f) (L := L) hs.2
  have lw : (wl f L s).length = (rE ltB f L s - s).toNat := wd_len f _ _
  have L300 := tp.2.1
  rw [e7, e8, eE]
  refine ⟨by unfold inR; omega, by unfold inR; omega, fun ql => ?_, fun ql => z (fun w => ?_)⟩
  · -- as long as that
    have ew : ∀ j, s ≤ j → j < rE ltB f L s → 0 < f j ∧ f j < 256 := fun j j0 j1 => by
      have := ltB_t.mp (rg.2.1 j j0 j1)
      omega
    have rd : ∀ {N : xM → Int → Prop} (j : Int), s ≤ j → j < rE ltB f L s → N M (f j) → xCI Y_X10_byteAt g (d + 2) [vR (some 64), vI j] n P M N := fun j j0 j1 hN => q_byteAt hn hP tp (by omega) (fun q => absurd q (by omega)) (fun _ => hN)
    have b1 : ∀ j, s ≤ j → j < rE ltB f L s → by1 (f j) := fun j j0 j1 => by have := ew j j0 j1; omega
    have split4 : wl f L s = [f s, f (s + 1), f (s + 2), f (s + 3)] ++ wd f (s + 4) (rE ltB f L s) := by
      unfold wl
      rw [wd_cons (by omega), wd_cons (by omega), wd_cons (by omega), wd_cons (by omega), show s + 1 + 1 = s + 2 by omega, show s + 2 + 1 = s + 3 by omega, show s + 3 + 1 = s + 4 by omega]
      rfl
    have tail : ∀ s0, s0 = vlF (wd f (s + 4) (rE ltB f L s)) 0 → xW Y_X10_isLong g (d + 3) 0 0 114 [(0, vR (some 64)), (1, vJ (vlF w1 0)), (3, vJ (vlF w2 0))] [vJ s0] (0, 0) (n, P, M) (kI n P F) := fun s0 hs0 => by
      refine b_X10_isLong_114 hn hP ?_
      rw [e8]
      refine rd s (by omega) (by omega) ⟨by unfold inR; rw [e8]; omega, ?_⟩
      rw [e8]
      refine rd (s + 1) (by omega) (by omega) ⟨by unfold inR; rw [e8]; omega, ?_⟩
      rw [e8]
      refine rd (s + 2) (by omega) (by omega) ⟨by unfold inR; rw [e8]; omega, ?_⟩
      rw [e8]
      refine rd (s + 3) (by omega) (by omega) (c_w4 hn (b1 _ (by omega) (by omega)) (b1 _ (by omega) (by omega)) (b1 _ (by omega) (by omega)) (b1 _ (by omega) (by omega)) ?_)
      have p1 : ∀ c ∈ [f s, f (s + 1), f (s + 2), f (s + 3)], 0 < c ∧ c < 256 := in4 (ew _ (by omega) (by omega)) (ew _ (by omega) (by omega)) (ew _ (by omega) (by omega)) (ew _ (by omega) (by omega))
      have p2 : ∀ c ∈ wd f (s + 4) (rE ltB f L s), 0 < c ∧ c < 256 := fun c hc => ll c (by rw [split4]; exact List.mem_append_right _ hc)
      have w1p : ∀ c ∈ w1, 0 < c ∧ c < 256 := fun c hc => wlt' c (List.mem_append_left _ hc)
      have w2p : ∀ c ∈ w2, 0 < c ∧ c < 256 := fun c hc => wlt' c (List.mem_append_right _ hc)
      refine ⟨fun n1 => z (fun w => ?_), fun y1 => ⟨fun n2 => z (fun w => ?_), fun y2 => t (ki.mpr ⟨q1, ?_⟩)⟩⟩
      · have e := (ki.mp w).2
        rw [split4, hw] at e
        have := (List.append_inj e (by rw [h1]; rfl)).1
        exact n1 (cmp_eq.mpr (by rw [this]))
      · have e := (ki.mp w).2
        rw [split4, hw] at e
        have := (List.append_inj e (by rw [h1]; rfl)).2
        exact n2 (cmp_eq.mpr (by rw [hs0, this]))
      · have i1 := vlF_inj 4 _ _ (Nat.le_refl _) p1 w1p (cmp_eq.mp y1)
        have y2' := cmp_eq.mp y2
        rw [hs0] at y2'
        have i2 := vlF_inj _ _ _ (Nat.le_refl _) p2 w2p y2'
        rw [split4, hw, i1, i2]
    rcases hr with r3 | r4
    · subst r3
      have wt : wd f (s + 4) (rE ltB f L s) = [f (s + 4), f (s + 5), f (s + 6)] := by
        rw [wd_cons (by omega), wd_cons (by omega), wd_cons (by omega), show s + 4 + 1 = s + 5 by omega, show s + 5 + 1 = s + 6 by omega]
        have : wd f (s + 6 + 1) (rE ltB f L s) = [] := by unfold wd; rw [show (rE ltB f L s - (s + 6 + 1)).toNat = 0 by omega]; rfl
        rw [this]
      refine ⟨fun q => absurd rfl q, fun _ => ⟨by unfold inR; omega, rd (s + 4) (by omega) (by omega) ⟨by unfold inR; rw [e8]; omega, ?_⟩⟩⟩
      rw [e8]
      refine rd (s + 5) (by omega) (by omega) ⟨by unfold inR; rw [e8]; omega, ?_⟩
      rw [e8]
      exact rd (s + 6) (by omega) (by omega) (c_w3 hn (b1 _ (by omega) (by omega)) (b1 _ (by omega) (by omega)) (b1 _ (by omega) (by omega)) (tail _ (by rw [wt])))
    · subst r4
      have wt : wd f (s + 4) (rE ltB f L s) = [f (s + 4), f (s + 5), f (s + 6), f (s + 7)] := by
        rw [wd_cons (by omega), wd_cons (by omega), wd_cons (by omega), wd_cons (by omega), show s + 4 + 1 = s + 5 by omega, show s + 5 + 1 = s + 6 by omega, show s + 6 + 1 = s + 7 by omega]
        have : wd f (s + 7 + 1) (rE ltB f L s) = [] := by unfold wd; rw [show (rE ltB f L s - (s + 7 + 1)).toNat = 0 by omega]; rfl
        rw [this]
      refine ⟨fun _ => ⟨by unfold inR; omega, rd (s + 4) (by omega) (by omega) ⟨by unfold inR; rw [e8]; omega, ?_⟩⟩, fun q => absurd q (by decide)⟩
      rw [e8]
      refine rd (s + 5) (by omega) (by omega) ⟨by unfold inR; rw [e8]; omega, ?_⟩
      rw [e8]
      refine rd (s + 6) (by omega) (by omega) ⟨by unfold inR; rw [e8]; omega, ?_⟩
      rw [e8]
      exact rd (s + 7) (by omega) (by omega) (c_w4 hn (b1 _ (by omega) (by omega)) (b1 _ (by omega) (by omega)) (b1 _ (by omega) (by omega)) (b1 _ (by omega) (by omega)) (tail _ (by rw [wt])))
  · have e := (ki.mp w).2
    have : (wl f L s).length = 4 + w2.length := by rw [e, hw, List.length_append, h1]
    omega
theorem q_isGravity (hn : 82 ≤ n) (hP : x_PP P) {f : Int → Int} {L s : Int} (hs : 0 ≤ s ∧ s ≤ L) (tp : tpT f L M) (ht : tkR f L M s) (H : F M (bi (kd f L s = 16))) : xCI Y_X10_isGravity g (d + 5) [vR (some 64)] n P M F :=
  b_X10_isGravity (d := d + 1) hn hP (c_w4 (d := d + 2) hn (by decide) (by decide) (by decide) (by decide) (c_w3 (d := d + 3) hn (by decide) (by decide) (by decide) (q_isLong hn hP (w1 := [103, 114, 97, 118]) (w2 := [105, 116, 121]) 16 (by decide) hs rfl rfl rfl (Or.inl rfl) tp ht ⟨by have := bi_or (kd f L s = ((16 : Nat) : Int)); omega, H⟩)))
theorem q_isQuarter (hn : 82 ≤ n) (hP : x_PP P) {f : Int → Int} {L s : Int} (hs : 0 ≤ s ∧ s ≤ L) (tp : tpT f L M) (ht : tkR f L M s) (H : F M (bi (kd f L s = 12))) : xCI Y_X10_isQuarter g (d + 5) [vR (some 64)] n P M F :=
  b_X10_isQuarter (d := d + 1) hn hP (c_w4 (d := d + 2) hn (by decide) (by decide) (by decide) (by decide) (c_w3 (d := d + 3) hn (by decide) (by decide) (by decide) (q_isLong hn hP (w1 := [113, 117, 97, 114]) (w2 := [116, 101, 114]) 12 (by decide) hs rfl rfl rfl (Or.inl rfl) tp ht ⟨by have := bi_or (kd f L s = ((12 : Nat) : Int)); omega, H⟩)))
theorem q_isSentence (hn : 82 ≤ n) (hP : x_PP P) {f : Int → Int} {L s : Int} (hs : 0 ≤ s ∧ s ≤ L) (tp : tpT f L M) (ht : tkR f L M s) (H : F M (bi (kd f L s = 4))) : xCI Y_X10_isSentence g (d + 5) [vR (some 64)] n P M F :=
  b_X10_isSentence (d := d + 1) hn hP (c_w4 (d := d + 2) hn (by decide) (by decide) (by decide) (by decide) (c_w4 (d := d + 2) hn (by decide) (by decide) (by decide) (by decide) (q_isLong hn hP (w1 := [115, 101, 110, 116]) (w2 := [101, 110, 99, 101]) 4 (by decide) hs rfl rfl rfl (Or.inr rfl) tp ht ⟨by have := bi_or (kd f L s = ((4 : Nat) : Int)); omega, H⟩)))
theorem q_isWithdraw (hn : 82 ≤ n) (hP : x_PP P) {f : Int → Int} {L s : Int} (hs : 0 ≤ s ∧ s ≤ L) (tp : tpT f L M) (ht : tkR f L M s) (H : F M (bi (kd f L s = 10))) : xCI Y_X10_isWithdraw g (d + 5) [vR (some 64)] n P M F :=
  b_X10_isWithdraw (d := d + 1) hn hP (c_w4 (d := d + 2) hn (by decide) (by decide) (by decide) (by decide) (c_w4 (d := d + 2) hn (by decide) (by decide) (by decide) (by decide) (q_isLong hn hP (w1 := [119, 105, 116, 104]) (w2 := [100, 114, 97, 119]) 10 (by decide) hs rfl rfl rfl (Or.inr rfl) tp ht ⟨by have := bi_or (kd f L s = ((10 : Nat) : Int)); omega, H⟩)))
end Words2
