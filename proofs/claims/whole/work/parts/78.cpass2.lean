/-! the class: one hour, whole -/
/-- ranges of the class's state -/
def cOk (N : Int → Int) : Prop := (0 ≤ N 0 ∧ N 0 < 4) ∧ (0 ≤ N 1 ∧ N 1 ≤ 9) ∧ (0 ≤ N 3 ∧ N 3 ≤ 9999) ∧ (0 ≤ N 4 ∧ N 4 < 30389) ∧ (0 ≤ N 6 ∧ N 6 < 20) ∧ (0 ≤ N 7 ∧ N 7 < 16) ∧ (0 ≤ N 8 ∧ N 8 ≤ 3) ∧ (0 ≤ N 9 ∧ N 9 < 30)
def kOk (K : Int → Int) (c : Int) : Prop := (0 ≤ K (4 * c) ∧ K (4 * c) ≤ 9) ∧ (0 ≤ K (4 * c + 1) ∧ K (4 * c + 1) ≤ 9) ∧ (0 ≤ K (4 * c + 2) ∧ K (4 * c + 2) ≤ 9) ∧ (0 ≤ K (4 * c + 3) ∧ K (4 * c + 3) < 256)
section Cpass2
variable {d n : Nat} {P : xP} {M : xM} {F : xM → Int → Prop} {G : xM → Prop}
set_option maxHeartbeats 1000000 in
theorem c_X0_passHour (hn : 82 ≤ n) (hP : x_PP P) {o : Option Nat} {ρ : Option xTx} (hR : clR n P M o ρ) {N nm st : Int → Int} {fs : Int} (h8 : 0 ≤ M 4 1 ∧ M 4 1 ≤ 8) (hN : cOk N) (hK : 0 ≤ N 5 → N 5 < M 4 1 → kOk (M 5) (N 5))
    (Ha : ¬ (0 ≤ N 5 ∧ N 5 < M 4 1) → ∀ nm' st' fs', F (Lw (setA M 2 (cTurn ρ (cDraw N) ((N 4).tmod 10))) nm' st' fs') 0)
    (Hb : 0 ≤ N 5 ∧ N 5 < M 4 1 → N 6 + 1 < M 5 (4 * N 5 + 2) + N 8 → ∀ nm' st' fs', F (Lw (setA M 2 (cTurn ρ (cDraw (cHeard N)) ((N 4).tmod 10))) nm' st' fs') 0)
    (Hc : 0 ≤ N 5 ∧ N 5 < M 4 1 → ¬ N 6 + 1 < M 5 (4 * N 5 + 2) + N 8 → ¬ cFd ρ (cHeard N) (M 5) (N 5) → ∀ nm' st' fs', F (Lw (setA M 2 (cTurn ρ (cDraw (cClose (cHeard N) (N 5) 2 0 0)) ((N 4).tmod 10))) nm' st' fs') 1)
    (Hd : 0 ≤ N 5 ∧ N 5 < M 4 1 → ¬ N 6 + 1 < M 5 (4 * N 5 + 2) + N 8 → cFd ρ (cHeard N) (M 5) (N 5) → ∀ nm' st' fs', F (Lw (setA M 2 (cTurn ρ (cDraw (cClose (cHeard N) (N 5) 3 1 (cSe ρ (cHeard N) (M 5) (N 5)))) ((N 4).tmod 10))) nm' st' fs') 1) :
    xCI Y_X0_passHour none (d + 4) [vR (some 1), vR (some 12), vR o] n P (Lw (setA M 2 N) nm st fs) F := by
  obtain ⟨n0, n1, n3, n4, n6, n7, n8, n9⟩ := hN
  have okr := clR_ok hR
  have e2 : ∀ (B nm st : Int → Int) fs, Lw (setA M 2 B) nm st fs 2 = B := fun B nm st fs => by rw [Lw_ne (by decide) (by decide) (by decide), setA_at]
  have eu : ∀ (B nm st : Int → Int) fs i v, x_upd (Lw (setA M 2 B) nm st fs) 2 i v = Lw (setA M 2 (up B i v)) nm st fs := fun B nm st fs i v => by rw [Lw_u (by decide) (by decide) (by decide), x_upd_up2]
  have e4 : ∀ (B nm st : Int → Int) fs, Lw (setA M 2 B) nm st fs 4 = M 4 := fun B nm st fs => by rw [Lw_ne (by decide) (by decide) (by decide), setA_ne (by decide)]
  have e5 : ∀ (B nm st : Int → Int) fs, Lw (setA M 2 B) nm st fs 5 = M 5 := fun B nm st fs => by rw [Lw_ne (by decide) (by decide) (by decide), setA_ne (by decide)]
  have hR2 : ∀ B, clR n P (setA M 2 B) o ρ := fun B => clR_of (fun c h1 _ => setA_ne (by omega)) hR
  -- the wind's turn
  have fin : ∀ (B nm st : Int → Int) (fs x4 : Int), (x4 = 0 ∨ x4 = 1) → (0 ≤ B 0 ∧ B 0 < 4) → (0 ≤ B 1 ∧ B 1 ≤ 9) → (0 ≤ B 3 ∧ B 3 ≤ 9999) → (0 ≤ B 4 ∧ B 4 < 30389) → (∀ nm' st' fs', F (Lw (setA M 2 (cTurn ρ (cDraw B) ((B 4).tmod 10))) nm' st' fs') x4) → xW Y_X0_passHour none (d + 4) 0 0 172 [(0, vR (some 1)), (1, vR (some 12)), (2, vR o), (4, vI x4)] [] (0, 0) (n, P, Lw (setA M 2 B) nm st fs) (kI n P F) := by
    intro B nm st fs x4 hx4 b0 b1 b3 b4 K
    refine b_X0_passHour_172 hn hP (c_X0_drawX hn hP (by rw [e2]; exact b4) ?_)
    rw [e2, eu, show up B 4 ((B 4 * 331 + 223) % 30389) = cDraw B from rfl]
    have s2 : ∀ B : Int → Int, setA M 2 B 2 = B := fun B => setA_at _ _ _
    have d0 : cDraw B 0 = B 0 := rfl
    have d1 : cDraw B 1 = B 1 := rfl
    have d3 : cDraw B 3 = B 3 := rfl
    have ht : 0 ≤ (B 4).tmod 10 ∧ (B 4).tmod 10 ≤ 9 := by rw [Int.tmod_eq_emod_of_nonneg b4.1]; omega
    refine c_X2_turn hn hP (cl_2 hn) (by omega) (by omega) (hR2 _) ht (by rw [s2, d3]; omega) (by rw [s2, d0]; exact b0) (by rw [s2, d1]; exact b1) (fun nm' st' => ⟨hx4, ?_⟩)
    rw [s2, x_upd_up2, x_upd_up2, x_upd_up2, x_upd_up2]
    exact K nm' st' fs
  refine b_X0_passHour hn hP (c_X5_has hn hP (x_rows4 hn hP) (by rw [e4]; exact h8.2) ?_)
  rw [e2, e4]
  refine ⟨fun hb => ?_, fun hb => ?_⟩
  · exact b_X0_passHour_84 hn hP ⟨fun _ => fin N nm st fs 0 (Or.inl rfl) n0 n1 n3 n4 (Ha (bi_0.mp hb)), fun h => absurd rfl h⟩
  · have hc := bi_n0.mp hb
    obtain ⟨k0, k1, k2, k3⟩ := hK hc.1 hc.2
    rw [eu, eu, show up (up N 6 (N 6 + 1)) 7 (x_or (N 7) (x_shl 1 (N 0))) = cHeard N from rfl]
    refine ⟨by unfold inR; omega, c_X5_at hn hP (x_rows4 hn hP) (by rw [e4]; exact h8.2) (by rw [e4]; exact hc) (by omega) ?_⟩
    rw [e5, e2]
    have r7 := laws_r n7 n0
    have rr7 : cHeard N 7 = x_or (N 7) (x_shl 1 (N 0)) := rfl
    have r6 : cHeard N 6 = N 6 + 1 := rfl
    have r8 : cHeard N 8 = N 8 := rfl
    have r0 : cHeard N 0 = N 0 := rfl
    have r1 : cHeard N 1 = N 1 := rfl
    have r2 : cHeard N 2 = N 2 := rfl
    have r3 : cHeard N 3 = N 3 := rfl
    have r4 : cHeard N 4 = N 4 := rfl
    have r9 : cHeard N 9 = N 9 := rfl
    rw [← rr7] at r7
    generalize hB : cHeard N = B at *
    generalize hcc : N 5 = c at *
    rw [r8]
    refine ⟨by unfold inR; omega, fun he => ?_, fun he => ?_⟩
    · refine b_X0_passHour_82 hn hP (b_X0_passHour_84 hn hP ⟨fun _ => fin B nm st fs 0 (Or.inl rfl) (by omega) (by omega) (by omega) (by omega) ?_, fun h => absurd rfl h⟩)
      rw [r4]
      exact Hb hc he
    · refine b_X0_passHour_82 hn hP (b_X0_passHour_84 hn hP ⟨fun h => absurd h (by decide), fun _ => ?_⟩)
      rw [e2]
      refine c_X2_seeWind hn hP ?_
      rw [e2]
      refine c_X2_seeCase hn hP (x_rows4 hn hP) (by omega) (by rw [setA_ne (by decide)]; exact h8.2) (by rw [setA_ne (by decide)]; exact hc) ?_
      rw [e2, setA_ne (show (4 + 1 : Nat) ≠ 2 by decide)]
      generalize hnm : up (up (up (up (up (up nm 0 (B 3)) 1 (B 0)) 2 (B 1)) 4 (M 5 (4 * c))) 5 (M 5 (4 * c + 1))) 6 (B 6) = nc
      have c0 : nc 0 = B 3 := by rw [← hnm]; rfl
      have c1 : nc 1 = B 0 := by rw [← hnm]; rfl
      have c2 : nc 2 = B 1 := by rw [← hnm]; rfl
      have c4 : nc 4 = M 5 (4 * c) := by rw [← hnm]; rfl
      have c5 : nc 5 = M 5 (4 * c + 1) := by rw [← hnm]; rfl
      have c6 : nc 6 = B 6 := by rw [← hnm]; rfl
      have hp := popc_r (B 7)
      have okq : ∀ q, 0 ≤ q → q < 4 → okN q (up nc 1 q) := fun q q0 q1 => okN_c q1 (by rw [up_ne (by decide)]; omega) (by rw [up_at]; omega) (by rw [up_ne (by decide)]; omega) (by rw [up_ne (by decide)]; omega) (by rw [up_ne (by decide)]; omega) (by rw [up_ne (by decide)]; omega)
      have ok7 : okN 7 (up nc 7 (popc (B 7))) := okN_s (by rw [up_ne (by decide)]; omega) (by rw [up_ne (by decide)]; omega) (by rw [up_ne (by decide)]; omega) (by rw [up_ne (by decide)]; omega) (by rw [up_ne (by decide)]; omega) (by rw [up_ne (by decide)]; omega) (by rw [up_at]; omega)
      have ef : fd ρ nc (M 5 (4 * c + 3)) (B 7) ↔ fd ρ (cn (B 3) (B 0) (B 1) (M 5 (4 * c)) (M 5 (4 * c + 1)) (B 6)) (M 5 (4 * c + 3)) (B 7) := by
        apply fd_congr okr
        · exact c0
        · exact c2
        · exact c4
        · exact c5
        · exact c6
      have es : sent ρ (up nc 7 (popc (B 7))) = cSe ρ B (M 5) c := by
        unfold cSe
        apply sent_congr okr
        · rw [up_ne (by decide), up_ne (by decide)]; exact c0
        · rw [up_ne (by decide), up_ne (by decide)]; exact c1
        · rw [up_ne (by decide), up_ne (by decide)]; exact c2
        · rw [up_ne (by decide), up_ne (by decide)]; exact c4
        · rw [up_ne (by decide), up_ne (by decide)]; exact c5
        · rw [up_ne (by decide), up_ne (by decide)]; exact c6
        · rw [up_at, up_at]
      have hs := sent_r ρ (nm := up nc 7 (popc (B 7))) (by rw [up_ne (by decide)]; omega) (by rw [up_ne (by decide)]; omega)
      -- judged, whether calm or not
      have judge : ∀ cm, (cm = 0 ↔ ¬ (B 1 = 0 ∨ B 2 = 1)) → xW Y_X0_passHour none (d + 4) 0 0 151 [(0, vR (some 1)), (1, vR (some 12)), (2, vR o), (3, vI c), (4, vI 1)] [vI cm] (0, 0) (n, P, Lw (setA M 2 B) nc st (M 5 (4 * c + 3))) (kI n P F) := by
        intro cm hcm
        refine b_X0_passHour_151 hn hP ?_
        rw [e2]
        refine c_X2_judged hn hP (hR2 _) (by omega) (by omega) (by omega) okq ok7 (fun nm' st' => ?_)
        have ec : (cm = 0 ∧ fd ρ nc (M 5 (4 * c + 3)) (B 7)) ↔ cFd ρ B (M 5) c := ⟨fun z => ⟨ef.mp z.2, hcm.mp z.1⟩, fun z => ⟨hcm.mpr z.2, ef.mpr z.1⟩⟩
        have clo : ∀ B', (B' 0 = B 0 ∧ B' 1 = B 1 ∧ B' 3 = B 3 ∧ B' 4 = B 4) → (∀ nm' st' fs', F (Lw (setA M 2 (cTurn ρ (cDraw B') ((N 4).tmod 10))) nm' st' fs') 1) → xW Y_X0_passHour none (d + 4) 0 0 172 [(0, vR (some 1)), (1, vR (some 12)), (2, vR o), (4, vI 1)] [] (0, 0) (n, P, Lw (setA M 2 B') nm' st' (M 5 (4 * c + 3))) (kI n P F) := by
          intro B' hB' K
          refine fin B' nm' st' _ 1 (Or.inr rfl) (by omega) (by omega) (by omega) (by omega) ?_
          rw [hB'.2.2.2, r4]
          exact K
        have cl : ∀ w gb s, cClose B c w gb s 0 = B 0 ∧ cClose B c w gb s 1 = B 1 ∧ cClose B c w gb s 3 = B 3 ∧ cClose B c w gb s 4 = B 4 := by
          intro w gb s
          unfold cClose cRel
          refine ⟨?_, ?_, ?_, ?_⟩ <;> rw [up_ne (by omega), up_ne (by omega), up_ne (by omega), up_ne (by omega), up_ne (by omega), up_ne (by omega), up_ne (by omega), up_ne (by omega)]
        by_cases hf : cFd ρ B (M 5) c
        · rw [if_pos (ec.mpr hf), es]
          rw [es] at hs
          refine c_X0_close hn hP h8.2 hc (by omega) (by omega) (by omega) (fun z => absurd z (by omega)) (fun _ => ?_)
          exact clo _ (cl _ _ _) (Hd hc he hf)
        · rw [if_neg (fun z => hf (ec.mp z))]
          refine c_X0_close hn hP h8.2 hc (by omega) (by omega) (by omega) (fun _ => ?_) (fun z => absurd rfl z)
          exact clo _ (cl _ _ _) (Hc hc he hf)
      refine ⟨fun h1 => b_X0_passHour_146 hn hP (judge 1 ⟨fun z => absurd z (by decide), fun z => absurd (Or.inl h1) z⟩), fun h1 => ⟨fun h2 => judge 0 ⟨fun _ z => by rcases z with z | z; exact h1 z; exact h2 z, fun _ => rfl⟩, fun h2 => b_X0_passHour_146 hn hP (judge 1 ⟨fun z => absurd z (by decide), fun z => absurd (Or.inr h2) z⟩)⟩⟩
end Cpass2
