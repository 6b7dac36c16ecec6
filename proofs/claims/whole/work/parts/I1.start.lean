/-! the state as the two constructors leave it -/
def Pz : xP := fun a j => if a = 19 ∧ 0 ≤ j ∧ j < 3 then some (20 + j.toNat) else none
def Mz : xM := fun a j => if a = 15 ∧ j = 2 then -1 else 0
def Pst : xP := pModel (pClass Pz)
def Mst : xM := x_blk (mModel (mClass Mz)) 66 0 3642 (fun j => mModel (mClass Mz) 65 j)
theorem raw_z : x_raw 0 Pz Mz := fun c _ _ => by
  refine ⟨fun j => rfl, fun w j => if_neg (fun z => w z.1), fun w j => ?_⟩
  unfold Pz
  by_cases h : j < 3
  · rw [if_pos h, if_pos ⟨rfl, by omega, by omega⟩, Int.toNat_natCast]
  · rw [if_neg h, if_neg (fun z => by omega)]
theorem PP_st : x_PP Pst := by
  unfold x_PP
  decide +kernel
theorem raw_pRows {n a : Nat} {P : xP} {M : xM} (h : x_raw n P M) (ha : a < n) : x_raw n (pRows a P) M := x_raw_P h ha
theorem raw_pText {n a : Nat} {P : xP} {M : xM} (h : x_raw n P M) (ha : a < n) : x_raw n (pText a P) M := x_raw_P (x_raw_P (x_raw_P (x_raw_P h ha) ha) ha) ha
theorem raw_pLaw {n : Nat} {P : xP} {M : xM} (h : x_raw n P M) (ha : 12 < n) : x_raw n (pLaw P) M := x_raw_P (x_raw_P h ha) ha
theorem raw_pTape {n : Nat} {P : xP} {M : xM} (h : x_raw n P M) (ha : 37 < n) : x_raw n (pTape P) M := x_raw_P (x_raw_P (x_raw_P (x_raw_P h ha) ha) ha) ha
theorem raw_pFore {n : Nat} {P : xP} {M : xM} (h : x_raw n P M) (ha : 15 < n) : x_raw n (pFore P) M := x_raw_P (x_raw_P (x_raw_P (x_raw_P (x_raw_P (x_raw_P (x_raw_P (x_raw_P (x_raw_P h ha) ha) ha) ha) ha) ha) ha) ha) ha
theorem raw_pCourt {n c : Nat} {P : xP} {M : xM} (h : x_raw n P M) (ha : c + 9 < n) : x_raw n (pCourt c P) M := by
  have hc : c < n := by omega
  exact x_raw_P (raw_pRows (x_raw_P (raw_pRows (x_raw_P (raw_pRows (x_raw_P (raw_pRows (x_raw_P (x_raw_P h hc) hc) (by omega)) hc) (by omega)) hc) (by omega)) hc) (by omega)) hc
theorem raw_mCourt {n c : Nat} {P : xP} {M : xM} (h : x_raw n P M) (ha : c + 1 < n) : x_raw n P (mCourt c M) := x_raw_M (x_raw_M (x_raw_M (x_raw_M h (by omega)) ha) ha) ha
theorem raw_mClass {n : Nat} {P : xP} {M : xM} (h : x_raw n P M) (hn : 64 ≤ n) : x_raw n P (mClass M) := x_raw_M (x_raw_M (raw_mCourt (raw_mCourt h (by omega)) (by omega)) (by omega)) (by omega)
theorem raw_pClass {n : Nat} {P : xP} {M : xM} (h : x_raw n P M) (hn : 64 ≤ n) : x_raw n (pClass P) M := by
  have h0 : 0 < n := by omega
  have h42 : 42 < n := by omega
  have a1 := x_raw_P (j := 4) (v := some 12) (x_raw_P (j := 0) (v := some 1) (raw_pLaw (raw_pCourt (c := 1) h (by omega)) (by omega)) h0) h0
  have a2 := x_raw_P (j := 1) (v := some 26) (raw_pCourt (c := 26) (x_raw_P (j := 5) (v := some 15) (raw_pFore a1 (by omega)) h0) (by omega)) h0
  have a3 := x_raw_P (j := 2) (v := some 42) (x_raw_P (j := 3) (v := some 37) (raw_pTape a2 (by omega)) h0) h0
  have a4 := x_raw_P (j := 0) (v := some 43) (raw_pText (a := 43) a3 (by omega)) h42
  have a5 := x_raw_P (j := 1) (v := some 48) (raw_pText (a := 48) a4 (by omega)) h42
  have a6 := x_raw_P (j := 2) (v := some 53) (raw_pText (a := 53) a5 (by omega)) h42
  have a7 := x_raw_P (j := 3) (v := some 58) (raw_pText (a := 58) a6 (by omega)) h42
  exact x_raw_P (j := 6) (v := some 63) a7 h0
theorem raw_c : x_raw 64 (pClass Pz) (mClass Mz) := raw_mClass (raw_pClass (x_raw_mono raw_z (Nat.zero_le _)) (Nat.le_refl _)) (Nat.le_refl _)
def bnd (M : xM) : Prop := ∀ a i, -1 ≤ M a i ∧ M a i ≤ 107
theorem bnd_upd {M : xM} {a : Nat} {i v : Int} (h : bnd M) (hv : -1 ≤ v ∧ v ≤ 107) : bnd (x_upd M a i v) := fun b j => by
  unfold x_upd
  by_cases w : b = a ∧ j = i
  · rw [if_pos w]; exact hv
  · rw [if_neg w]; exact h b j
theorem bnd_blk {M : xM} {a : Nat} {i k : Int} {f : Int → Int} (h : bnd M) (hv : ∀ j, -1 ≤ f j ∧ f j ≤ 107) : bnd (x_blk M a i k f) := fun b j => by
  unfold x_blk
  by_cases w : b = a ∧ i ≤ j ∧ j < i + k
  · rw [if_pos w]; exact hv j
  · rw [if_neg w]; exact h b j
theorem bnd_z : bnd Mz := fun a i => by
  unfold Mz
  by_cases w : a = 15 ∧ i = 2
  · rw [if_pos w]; decide
  · rw [if_neg w]; decide
theorem bnd_ok {M : xM} (h : bnd M) (h15 : M 15 2 < 82) : x_okM M := ⟨fun a i => by
  have := h a i
  by_cases w : x_lng a i = true
  · rw [if_pos w]; unfold inL; omega
  · rw [if_neg w]; unfold inR; omega, h15⟩
theorem bnd_court {M : xM} {c : Nat} (h : bnd M) : bnd (mCourt c M) := bnd_upd (bnd_upd (bnd_upd (bnd_upd h (by decide)) (by decide)) (by decide)) (by decide)
theorem bnd_class {M : xM} (h : bnd M) : bnd (mClass M) := bnd_upd (bnd_upd (bnd_court (bnd_court h)) (by decide)) (by decide)
theorem bnd_model {M : xM} (h : bnd M) : bnd (mModel M) := bnd_upd (bnd_upd (bnd_upd (bnd_upd (bnd_upd (bnd_upd h (by decide)) (by decide)) (by decide)) (by decide)) (by decide)) (by decide)
theorem ok_st : x_okM Mst := bnd_ok (bnd_blk (bnd_model (bnd_class bnd_z)) (fun j => bnd_model (bnd_class bnd_z) 65 j)) (by decide +kernel)
def aSt : Int → Int := fun j => if j = 13 then -1 else if j = 9 then 3 else if j = 2 then -1 else if j = 12 then 107 else 0
theorem aSt_z {j : Int} (h1 : j ≠ 13) (h2 : j ≠ 9) (h3 : j ≠ 2) (h4 : j ≠ 12) : aSt j = 0 := by
  unfold aSt
  rw [if_neg h1, if_neg h2, if_neg h3, if_neg h4]
theorem relC_st {C : xCt} (h0 : ∀ j, C 0 j = if j = 9 then -1 else 0) (h1 : ∀ j, C 1 j = if j = 5 then -1 else if j = 4 then 107 else if j = 1 then 3 else 0) (h3 : C 3 1 = 0) (h5 : C 5 1 = 0) (h7 : C 7 1 = 0) (h9 : C 9 1 = 0) : relC aSt C := by
  have z1 : ∀ j, 6 ≤ j → C 1 j = 0 := fun j hj => by rw [h1, if_neg (by omega), if_neg (by omega), if_neg (by omega)]
  have a0 : aSt 0 = 0 := by decide
  have a3 : aSt 3 = 0 := by decide
  have a4 : aSt 4 = 0 := by decide
  have a5 : aSt 5 = 0 := by decide
  have a6 : aSt 6 = 0 := by decide
  refine ⟨⟨by rw [h3]; decide, by rw [h0]; decide, by rw [h0]; decide, by rw [h0]; decide, by rw [h5]; decide, by rw [h7]; decide, by rw [h9]; decide⟩, ⟨by decide, by decide, by decide, by rw [h0]; decide, by decide, by decide, by decide⟩, ⟨fun i i0 i1 => ?_, fun c c0 c1 => ?_, fun i i0 i1 _ => ?_⟩, ⟨by decide, by decide, fun c c0 c1 => ?_, fun c c0 c1 => absurd c1 (by rw [a0]; omega), Or.inl (by decide), by decide +kernel⟩, ⟨fun i i0 i1 => absurd i1 (by rw [a4]; omega), fun i i0 i1 => absurd i1 (by rw [a5]; omega), fun i i0 i1 => absurd i1 (by rw [a6]; omega)⟩, fun k k0 k1 => absurd k1 (by rw [a3]; omega)⟩
  · rw [h1]
    have : i = 0 ∨ i = 1 ∨ i = 2 ∨ i = 3 ∨ i = 4 ∨ i = 5 ∨ i = 6 ∨ i = 7 ∨ i = 8 ∨ i = 9 := by omega
    rcases this with rfl | rfl | rfl | rfl | rfl | rfl | rfl | rfl | rfl | rfl <;> decide
  · rw [aSt_z (by omega) (by omega) (by omega) (by omega), aSt_z (by omega) (by omega) (by omega) (by omega), aSt_z (by omega) (by omega) (by omega) (by omega), z1 _ (by omega), z1 _ (by omega), z1 _ (by omega)]
    exact ⟨rfl, rfl, rfl⟩
  · rw [z1 9 (by omega)] at i1; omega
  · have q1 : aSt (24 + 7 * c) = 0 := aSt_z (by omega) (by omega) (by omega) (by omega)
    have q2 : aSt (25 + 7 * c) = 0 := aSt_z (by omega) (by omega) (by omega) (by omega)
    have q3 : aSt (26 + 7 * c) = 0 := aSt_z (by omega) (by omega) (by omega) (by omega)
    unfold slot
    rw [q1, q2, q3]
    exact ⟨by omega, by omega, Or.inl rfl, fun _ => rfl, fun w => absurd w (by decide), fun _ => ⟨rfl, rfl, rfl⟩⟩
theorem st_65 : Mst 65 = aSt := by
  funext j
  simp [Mst, x_blk, mModel, mClass, mCourt, x_upd, Mz, aSt]
theorem st_66 : Mst 66 = aSt := by
  funext j
  by_cases h : 0 ≤ j ∧ j < 3642
  · rw [← st_65]
    simp [Mst, x_blk, mModel, mClass, mCourt, x_upd, Mz, h.1, h.2]
  · rw [aSt_z (by omega) (by omega) (by omega) (by omega)]
    simp only [Mst, x_blk]
    rw [if_neg (fun z => h ⟨z.2.1, by omega⟩)]
    simp [mModel, mClass, mCourt, x_upd, Mz]
theorem Rel_st : Rel Mst := by
  have e0 : ∀ j, j = 7 ∨ j = 8 → Mst 0 j = -1 := fun j hj => by
    rcases hj with rfl | rfl <;> simp [Mst, x_blk, mModel, mClass, mCourt, x_upd, Mz]
  refine ⟨?_, ?_, ?_, fun τ t0 t1 => ?_, ⟨?_, ?_, fun i i0 i1 => ?_⟩, ?_, ?_⟩
  · rw [st_65]
    refine relC_st (fun j => ?_) (fun j => ?_) ?_ ?_ ?_ ?_
    · show Mst 1 j = _
      simp [Mst, x_blk, mModel, mClass, mCourt, x_upd, Mz]
    · show Mst 2 j = _
      simp [Mst, x_blk, mModel, mClass, mCourt, x_upd, Mz]
    all_goals (first | (show Mst 4 1 = _; decide +kernel) | (show Mst 6 1 = _; decide +kernel) | (show Mst 8 1 = _; decide +kernel) | (show Mst 10 1 = _; decide +kernel))
  · rw [st_66]
    refine relC_st (fun j => ?_) (fun j => ?_) ?_ ?_ ?_ ?_
    · show Mst 26 j = _
      simp [Mst, x_blk, mModel, mClass, mCourt, x_upd, Mz]
    · show Mst 27 j = _
      simp [Mst, x_blk, mModel, mClass, mCourt, x_upd, Mz]
    all_goals (first | (show Mst 29 1 = _; decide +kernel) | (show Mst 31 1 = _; decide +kernel) | (show Mst 33 1 = _; decide +kernel) | (show Mst 35 1 = _; decide +kernel))
  · rw [st_65, st_66]
    exact Int.le_refl _
  · rw [st_65] at t1
    exact absurd t1 (by rw [show aSt 1 = 0 by decide]; omega)
  · decide +kernel
  · decide +kernel
  · rw [show Mst 37 1 = 0 by decide +kernel] at i1; omega
  · decide +kernel
  · decide +kernel
