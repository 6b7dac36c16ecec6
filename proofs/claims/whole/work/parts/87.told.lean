/-! the reference: record, learn, counsel -/
def rRec (A : Int → Int) (c q y : Int) : Int → Int := up (up (up (up A (76 + 3 * A 4) c) (76 + 3 * A 4 + 1) q) (76 + 3 * A 4 + 2) y) 4 (A 4 + 1)
def rLearn (A : Int → Int) (c y : Int) : Int → Int := up (up (up A (100 + 2 * A 5) c) (100 + 2 * A 5 + 1) y) 5 (A 5 + 1)
def rCouns (A : Int → Int) (p s : Int) : Int → Int := up (up (up A (116 + 2 * A 6) p) (116 + 2 * A 6 + 1) s) 6 (A 6 + 1)
section Told
variable {g : Option Nat} {d n : Nat} {P : xP} {M : xM} {F : xM → Int → Prop} {G : xM → Prop}
theorem c_X10_record (hn : 82 ≤ n) (hP : x_PP P) {c q y : Int} (h0 : 0 ≤ M 65 0 ∧ M 65 0 ≤ 8) (h4 : 0 ≤ M 65 4 ∧ M 65 4 ≤ 8) (hy : y = 0 ∨ y = 1)
    (He : c = -1 → F (setA M 65 (up (M 65) 4 0)) 0) (Hn : c ≠ -1 → ¬ ((0 ≤ c ∧ c < M 65 0) ∧ (0 ≤ q ∧ q ≤ 3) ∧ M 65 4 < 8) → F M (-2)) (Hy : (0 ≤ c ∧ c < M 65 0) ∧ (0 ≤ q ∧ q ≤ 3) ∧ M 65 4 < 8 → F (setA M 65 (rRec (M 65) c q y)) (M 65 4 + 1)) :
    xCI Y_X10_record g (d + 2) [vR (some 64), vI c, vI q, vI y] n P M F := by
  have s65 : ∀ B : Int → Int, setA M 65 B 65 = B := fun B => setA_at _ _ _
  refine b_X10_record hn hP ⟨fun hc => c_X10_isCase hn hP h0 ⟨fun h1 => Hn hc (fun z => bi_0.mp h1 z.1), fun h1 => c_X10_isIn hn ⟨fun h2 => Hn hc (fun z => bi_0.mp h2 z.2.1), fun h2 => ⟨fun h3 => ?_, fun h3 => Hn hc (fun z => by omega)⟩⟩⟩, fun hc => ?_⟩
  · have k := Hy ⟨bi_n0.mp h1, bi_n0.mp h2, by omega⟩
    have b4 : up (up (up (M 65) (76 + 3 * M 65 4) c) (76 + 3 * M 65 4 + 1) q) (76 + 3 * M 65 4 + 2) y 4 = M 65 4 := by rw [up_ne (by omega), up_ne (by omega), up_ne (by omega)]
    have fin : ∀ y', y' = y → xW Y_X10_record g (d + 2) 0 0 93 [(0, vR (some 64))] [vI y', vI (76 + 3 * M 65 4 + 2), vR (some 65)] (0, 0) (n, P, setA M 65 (up (up (M 65) (76 + 3 * M 65 4) c) (76 + 3 * M 65 4 + 1) q)) (kI n P F) := by
      intro y' e
      subst e
      refine b_X10_record_93 hn hP ?_
      rw [x_upd_up2, s65, b4, x_upd_up2]
      exact ⟨by omega, by unfold inR; omega, k⟩
    rw [x_upd_up M 65 (76 + 3 * M 65 4), x_upd_up2]
    exact ⟨by unfold inR; omega, by unfold inR; omega, by omega, by unfold inR; omega, by omega, by unfold inR; omega, fun z => fin 0 z.symm, fun z => fin 1 (by omega)⟩
  · rw [x_upd_up]
    exact He hc
theorem c_X10_learn (hn : 82 ≤ n) (hP : x_PP P) {c y : Int} (h0 : 0 ≤ M 65 0 ∧ M 65 0 ≤ 8) (h5 : 0 ≤ M 65 5 ∧ M 65 5 ≤ 8) (hy : y = 0 ∨ y = 1)
    (He : c = -1 → F (setA M 65 (up (M 65) 5 0)) 0) (Hn : c ≠ -1 → ¬ ((0 ≤ c ∧ c < M 65 0) ∧ M 65 5 < 8) → F M (-2)) (Hy : (0 ≤ c ∧ c < M 65 0) ∧ M 65 5 < 8 → F (setA M 65 (rLearn (M 65) c y)) (M 65 5 + 1)) :
    xCI Y_X10_learn g (d + 2) [vR (some 64), vI c, vI y] n P M F := by
  have s65 : ∀ B : Int → Int, setA M 65 B 65 = B := fun B => setA_at _ _ _
  refine b_X10_learn hn hP ⟨fun hc => c_X10_isCase hn hP h0 ⟨fun h1 => Hn hc (fun z => bi_0.mp h1 z.1), fun h1 => ⟨fun h3 => ?_, fun h3 => Hn hc (fun z => by omega)⟩⟩, fun hc => ?_⟩
  · have k := Hy ⟨bi_n0.mp h1, by omega⟩
    have b5 : up (M 65) (100 + 2 * M 65 5) c 5 = M 65 5 := up_ne (by omega)
    have b5' : up (up (M 65) (100 + 2 * M 65 5) c) (100 + 2 * M 65 5 + 1) y 5 = M 65 5 := by rw [up_ne (by omega), up_ne (by omega)]
    have fin : ∀ y', y' = y → xW Y_X10_learn g (d + 2) 0 0 79 [(0, vR (some 64))] [vI y', vI (100 + 2 * M 65 5 + 1), vR (some 65)] (0, 0) (n, P, setA M 65 (up (M 65) (100 + 2 * M 65 5) c)) (kI n P F) := by
      intro y' e
      subst e
      refine b_X10_learn_79 hn hP ?_
      rw [x_upd_up2, s65, b5', x_upd_up2]
      exact ⟨by omega, by unfold inR; omega, k⟩
    rw [x_upd_up M 65 (100 + 2 * M 65 5), s65, b5]
    exact ⟨by unfold inR; omega, by unfold inR; omega, by omega, by unfold inR; omega, by unfold inR; omega, by unfold inR; omega, fun z => fin 0 z.symm, fun z => fin 1 (by omega)⟩
  · rw [x_upd_up]
    exact He hc
theorem c_X10_counsel (hn : 82 ≤ n) (hP : x_PP P) {p s : Int} (h6 : 0 ≤ M 65 6 ∧ M 65 6 ≤ 8)
    (He : p = -1 → F (setA M 65 (up (M 65) 6 0)) 0) (Hn : p ≠ -1 → ¬ ((1 ≤ p ∧ p ≤ 999) ∧ (0 ≤ s ∧ s ≤ 99) ∧ M 65 6 < 8) → F M (-2)) (Hy : (1 ≤ p ∧ p ≤ 999) ∧ (0 ≤ s ∧ s ≤ 99) ∧ M 65 6 < 8 → F (setA M 65 (rCouns (M 65) p s)) (M 65 6 + 1)) :
    xCI Y_X10_counsel g (d + 1) [vR (some 64), vI p, vI s] n P M F := by
  have s65 : ∀ B : Int → Int, setA M 65 B 65 = B := fun B => setA_at _ _ _
  refine b_X10_counsel hn hP ⟨fun hc => c_X10_isIn hn ⟨fun h1 => Hn hc (fun z => bi_0.mp h1 z.1), fun h1 => c_X10_isIn hn ⟨fun h2 => Hn hc (fun z => bi_0.mp h2 z.2.1), fun h2 => ⟨fun h3 => ?_, fun h3 => Hn hc (fun z => by omega)⟩⟩⟩, fun hc => ?_⟩
  · have k := Hy ⟨bi_n0.mp h1, bi_n0.mp h2, by omega⟩
    have b6 : up (M 65) (116 + 2 * M 65 6) p 6 = M 65 6 := up_ne (by omega)
    have b6' : up (up (M 65) (116 + 2 * M 65 6) p) (116 + 2 * M 65 6 + 1) s 6 = M 65 6 := by rw [up_ne (by omega), up_ne (by omega)]
    rw [x_upd_up M 65 (116 + 2 * M 65 6), s65, b6, x_upd_up2, s65, b6', x_upd_up2]
    exact ⟨by unfold inR; omega, by unfold inR; omega, by omega, by unfold inR; omega, by unfold inR; omega, by unfold inR; omega, by omega, by unfold inR; omega, k⟩
  · rw [x_upd_up]
    exact He hc
end Told
