/-! the reference's nameOf, sortOf -/
section Names
variable {g : Option Nat} {d n : Nat} {P : xP} {M : xM} {F : xM → Int → Prop} {G : xM → Prop}
theorem kd_no2 {f : Int → Int} {L s : Int} {k : Nat} (hk : k < 26) (ht : tkR f L M s) (h : ¬ M 64 9 = 2) : kd f L s ≠ (k : Int) := fun e => h ((tk9_2 ht).mpr ((kd_iff hk).mp e).1)
theorem cmp_kd {f : Int → Int} {L s z : Int} (k : Nat) (hk : k < 26) (hs : s ≤ L) (h7 : vlF (wT.getD k []) 0 < 2 ^ 56) (hz : z = vlF (wT.getD k []) 0) (ht : tkR f L M s) (h2 : M 64 9 = 2) : x_cmp (M 64 11) z = 0 ↔ kd f L s = (k : Int) := by
  rw [← pk_kd hk hs h7 ht, cmp_eq, hz]
  exact ⟨fun e => ⟨h2, e⟩, fun e => e.2⟩
theorem q_nameOf (hn : 82 ≤ n) (hP : x_PP P) {f : Int → Int} {L s : Int} (hs : 0 ≤ s ∧ s ≤ L) (tp : tpT f L M) (ht : tkR f L M s) (H : F M (if 11 ≤ kd f L s ∧ kd f L s ≤ 18 then kd f L s - 11 else -1)) : xCI Y_X10_nameOf g (d + 6) [vR (some 64)] n P M F := by
  have at1 : ∀ (k v : Int), kd f L s = k → 11 ≤ k ∧ k ≤ 18 → v = k - 11 → F M v := fun k v e hk hv => by
    rw [if_pos (by omega), e, ← hv] at H
    exact H
  have no : ¬ (11 ≤ kd f L s ∧ kd f L s ≤ 18) → F M (-1) := fun h => by rwa [if_neg h] at H
  refine b_X10_nameOf (d := d + 1) hn hP ⟨fun h2 => ?_, fun h2 => no (fun w => ?_)⟩
  · have c11 := fun z hz => cmp_kd (f := f) (L := L) (z := z) 11 (by decide) hs.2 (by decide) hz ht h2
    have c13 := fun z hz => cmp_kd (f := f) (L := L) (z := z) 13 (by decide) hs.2 (by decide) hz ht h2
    have c14 := fun z hz => cmp_kd (f := f) (L := L) (z := z) 14 (by decide) hs.2 (by decide) hz ht h2
    have c15 := fun z hz => cmp_kd (f := f) (L := L) (z := z) 15 (by decide) hs.2 (by decide) hz ht h2
    have c17 := fun z hz => cmp_kd (f := f) (L := L) (z := z) 17 (by decide) hs.2 (by decide) hz ht h2
    have c18 := fun z hz => cmp_kd (f := f) (L := L) (z := z) 18 (by decide) hs.2 (by decide) hz ht h2
    refine c_w4 (d := d + 3) hn (by decide) (by decide) (by decide) (by decide) ⟨fun n11 => ?_, fun y => at1 11 0 ((c11 _ rfl).mp y) (by decide) rfl⟩
    refine q_isQuarter hn hP hs tp ht ⟨fun n12 => ?_, fun y => at1 12 1 (bi_n0.mp y) (by decide) rfl⟩
    refine c_w5 (d := d + 2) hn (by decide) (by decide) (by decide) (by decide) (by decide) ⟨fun n13 => ?_, fun y => at1 13 2 ((c13 _ rfl).mp y) (by decide) rfl⟩
    refine c_w4 (d := d + 3) hn (by decide) (by decide) (by decide) (by decide) ⟨fun n14 => ?_, fun y => at1 14 3 ((c14 _ rfl).mp y) (by decide) rfl⟩
    refine c_w4 (d := d + 3) hn (by decide) (by decide) (by decide) (by decide) ⟨fun n15 => ?_, fun y => at1 15 4 ((c15 _ rfl).mp y) (by decide) rfl⟩
    refine q_isGravity hn hP hs tp ht ⟨fun n16 => ?_, fun y => at1 16 5 (bi_n0.mp y) (by decide) rfl⟩
    refine c_w5 (d := d + 2) hn (by decide) (by decide) (by decide) (by decide) (by decide) ⟨fun n17 => ?_, fun y => at1 17 6 ((c17 _ rfl).mp y) (by decide) rfl⟩
    refine c_w4 (d := d + 3) hn (by decide) (by decide) (by decide) (by decide) ⟨fun n18 => no (fun w => ?_), fun y => at1 18 7 ((c18 _ rfl).mp y) (by decide) rfl⟩
    have m11 : kd f L s ≠ 11 := fun e => n11 ((c11 _ rfl).mpr e)
    have m12 := bi_0.mp n12
    have m13 : kd f L s ≠ 13 := fun e => n13 ((c13 _ rfl).mpr e)
    have m14 : kd f L s ≠ 14 := fun e => n14 ((c14 _ rfl).mpr e)
    have m15 : kd f L s ≠ 15 := fun e => n15 ((c15 _ rfl).mpr e)
    have m16 := bi_0.mp n16
    have m17 : kd f L s ≠ 17 := fun e => n17 ((c17 _ rfl).mpr e)
    have m18 : kd f L s ≠ 18 := fun e => n18 ((c18 _ rfl).mpr e)
    omega
  · have := kd_no2 (f := f) (L := L) (s := s) (k := (kd f L s).toNat) (by omega) ht h2
    omega
abbrev sortK (k : Int) : Int := if k = 0 then 4 else if 1 ≤ k ∧ k ≤ 4 then k - 1 else if 5 ≤ k ∧ k ≤ 11 then k else -1
theorem q_sortOf (hn : 82 ≤ n) (hP : x_PP P) {f : Int → Int} {L s : Int} (hs : 0 ≤ s ∧ s ≤ L) (tp : tpT f L M) (ht : tkR f L M s) (H : F M (sortK (kd f L s))) : xCI Y_X10_sortOf g (d + 6) [vR (some 64)] n P M F := by
  have at1 : ∀ (k v : Int), kd f L s = k → v = sortK k → F M v := fun k v e hv => by
    rw [e, ← hv] at H
    exact H
  have W := fun {N : xM → Int → Prop} {z : Int} (k : Nat) (hk : k < 26) (h7 : vlF (wT.getD k []) 0 < 2 ^ 56) (hz : z = vlF (wT.getD k []) 0) => q_isWord (g := g) (d := d + 5) (F := N) hn hP (f := f) (L := L) (s := s) (a := z) k hk hs.2 h7 hz ht
  refine b_X10_sortOf (d := d + 1) hn hP ?_
  refine c_w5 (d := d + 2) hn (by decide) (by decide) (by decide) (by decide) (by decide) (W 1 (by decide) (by decide) rfl ⟨fun n1 => ?_, fun y => at1 1 0 (bi_n0.mp y) rfl⟩)
  refine c_w5 (d := d + 2) hn (by decide) (by decide) (by decide) (by decide) (by decide) (W 2 (by decide) (by decide) rfl ⟨fun n2 => ?_, fun y => at1 2 1 (bi_n0.mp y) rfl⟩)
  refine c_w4 (d := d + 3) hn (by decide) (by decide) (by decide) (by decide) (W 3 (by decide) (by decide) rfl ⟨fun n3 => ?_, fun y => at1 3 2 (bi_n0.mp y) rfl⟩)
  refine q_isSentence hn hP hs tp ht ⟨fun n4 => ?_, fun y => at1 4 3 (bi_n0.mp y) rfl⟩
  refine c_w4 (d := d + 3) hn (by decide) (by decide) (by decide) (by decide) (W 0 (by decide) (by decide) rfl ⟨fun n0 => ?_, fun y => at1 0 4 (bi_n0.mp y) rfl⟩)
  refine c_w4 (d := d + 3) hn (by decide) (by decide) (by decide) (by decide) (W 5 (by decide) (by decide) rfl ⟨fun n5 => ?_, fun y => at1 5 5 (bi_n0.mp y) rfl⟩)
  refine c_w4 (d := d + 3) hn (by decide) (by decide) (by decide) (by decide) (W 6 (by decide) (by decide) rfl ⟨fun n6 => ?_, fun y => at1 6 6 (bi_n0.mp y) rfl⟩)
  refine c_w5 (d := d + 2) hn (by decide) (by decide) (by decide) (by decide) (by decide) (W 7 (by decide) (by decide) rfl ⟨fun n7 => ?_, fun y => at1 7 7 (bi_n0.mp y) rfl⟩)
  refine c_w6 (d := d + 1) hn (by decide) (by decide) (by decide) (by decide) (by decide) (by decide) (W 8 (by decide) (by decide) rfl ⟨fun n8 => ?_, fun y => at1 8 8 (bi_n0.mp y) rfl⟩)
  refine c_w4 (d := d + 3) hn (by decide) (by decide) (by decide) (by decide) (W 9 (by decide) (by decide) rfl ⟨fun n9 => ?_, fun y => at1 9 9 (bi_n0.mp y) rfl⟩)
  refine q_isWithdraw hn hP hs tp ht ⟨fun n10 => ?_, fun y => at1 10 10 (bi_n0.mp y) rfl⟩
  refine c_w4 (d := d + 3) hn (by decide) (by decide) (by decide) (by decide) (W 11 (by decide) (by decide) rfl ⟨fun n11 => ?_, fun y => at1 11 11 (bi_n0.mp y) rfl⟩)
  have m0 : kd f L s ≠ 0 := bi_0.mp n0
  have m1 : kd f L s ≠ 1 := bi_0.mp n1
  have m2 : kd f L s ≠ 2 := bi_0.mp n2
  have m3 : kd f L s ≠ 3 := bi_0.mp n3
  have m4 : kd f L s ≠ 4 := bi_0.mp n4
  have m5 : kd f L s ≠ 5 := bi_0.mp n5
  have m6 : kd f L s ≠ 6 := bi_0.mp n6
  have m7 : kd f L s ≠ 7 := bi_0.mp n7
  have m8 : kd f L s ≠ 8 := bi_0.mp n8
  have m9 : kd f L s ≠ 9 := bi_0.mp n9
  have m10 : kd f L s ≠ 10 := bi_0.mp n10
  have m11 : kd f L s ≠ 11 := bi_0.mp n11
  have e : sortK (kd f L s) = -1 := by
    unfold sortK
    rw [if_neg m0, if_neg (by omega), if_neg (by omega)]
  rw [e] at H
  exact H
/-- a token by its kind -/
theorem tk_kind {f : Int → Int} {L s : Int} (ht : tkR f L M s) : (M 64 9 = 0 ↔ kd f L s = 73) ∧ (M 64 9 = 1 ↔ kd f L s = 72) ∧ (M 64 9 = 4 ↔ kd f L s = 70) ∧ (M 64 9 = 5 ↔ kd f L s = 71) ∧ ∀ c, isSg c → (M 64 9 = c ↔ kd f L s = c) := by
  obtain ⟨_, _, a, b, c, e⟩ := ht
  unfold kd
  by_cases h1 : L ≤ s
  · rw [a h1, if_pos h1]
    refine ⟨by omega, by omega, by omega, by omega, fun c hc => by omega⟩
  · rw [if_neg h1]
    by_cases h2 : isLt (f s)
    · rw [if_pos h2, (b h1 h2).1]
      have r := wK_r (wd f s (rE ltB f L s)) wT 0 (by omega)
      have wl26 : (wT.length : Int) = 26 := rfl
      rw [wl26] at r
      refine ⟨by omega, by omega, by omega, by omega, fun c hc => by omega⟩
    · rw [if_neg h2]
      by_cases h3 : isDg (f s)
      · rw [if_pos h3, (c h1 h2 h3).1]
        refine ⟨by omega, by omega, by omega, by omega, fun c hc => by omega⟩
      · rw [if_neg h3, e h1 h2 h3]
        by_cases w1 : isW2 f L s 60
        · rw [if_pos w1, if_pos w1]
          refine ⟨by omega, by omega, by omega, by omega, fun c hc => by omega⟩
        · rw [if_neg w1, if_neg w1]
          by_cases w2 : isW2 f L s 62
          · rw [if_pos w2, if_pos w2]
            refine ⟨by omega, by omega, by omega, by omega, fun c hc => by omega⟩
          · rw [if_neg w2, if_neg w2]
            by_cases w3 : isSg (f s)
            · rw [if_pos w3, if_pos w3]
              refine ⟨by omega, by omega, by omega, by omega, fun c hc => by omega⟩
            · rw [if_neg w3, if_neg w3]
              refine ⟨by omega, by omega, by omega, by omega, fun c hc => by omega⟩
end Names
