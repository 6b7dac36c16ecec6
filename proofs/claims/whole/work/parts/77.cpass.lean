/-! the class: one hour -/
def cHeard (N : Int → Int) : Int → Int := up (up N 6 (N 6 + 1)) 7 (x_or (N 7) (x_shl 1 (N 0)))
def cRel (N : Int → Int) (c w : Int) : Int → Int := up (up (up (up (up N (10 + c) w) 5 (-1)) 6 0) 7 0) 8 0
def cClose (N : Int → Int) (c w gb s : Int) : Int → Int := up (up (up (cRel N c w) (18 + c) s) (34 + N 9) (((N 3 * 8 + c) * 2 + gb) * 1000 + s)) 9 (N 9 + 1)
def cTurn (ρ : Option xTx) (N : Int → Int) (x : Int) : Int → Int := up (up (up (up N 3 (N 3 + 1)) 0 (tq ρ (N 3 + 1) (N 0) (N 1) x)) 1 (tf ρ (N 3 + 1) (N 0) (N 1) x)) 2 (tg ρ (N 3 + 1) (N 0) (N 1) x)
abbrev cFd (ρ : Option xTx) (N K : Int → Int) (c : Int) : Prop := jf ρ (N 3) (N 0) (N 1) (N 2) (K (4 * c)) (K (4 * c + 1)) (N 6) (K (4 * c + 3)) (N 7)
def cSe (ρ : Option xTx) (N K : Int → Int) (c : Int) : Int := sent ρ (up (cn (N 3) (N 0) (N 1) (K (4 * c)) (K (4 * c + 1)) (N 6)) 7 (popc (N 7)))
def cDraw (N : Int → Int) : Int → Int := up N 4 ((N 4 * 331 + 223) % 30389)
theorem hq_congr {ρ : Option xTx} (hR : okR ρ) {q : Int} (h : 0 ≤ q ∧ q < 4) {nm nm' : Int → Int} (h0 : nm 0 = nm' 0) (h2 : nm 2 = nm' 2) (h4 : nm 4 = nm' 4) (h5 : nm 5 = nm' 5) (h6 : nm 6 = nm' 6) (fs laws : Int) : hq ρ nm fs laws q ↔ hq ρ nm' fs laws q := by
  have e : gui ρ q (up nm 1 q) fs = gui ρ q (up nm' 1 q) fs := by
    apply gui_congr hR h
    · rw [up_ne (by decide), up_ne (by decide)]; exact h0
    · rw [up_at, up_at]
    · rw [up_ne (by decide), up_ne (by decide)]; exact h2
    · rw [up_ne (by decide), up_ne (by decide)]; exact h4
    · rw [up_ne (by decide), up_ne (by decide)]; exact h5
    · rw [up_ne (by decide), up_ne (by decide)]; exact h6
  unfold hq
  rw [e]
theorem fd_congr {ρ : Option xTx} (hR : okR ρ) {nm nm' : Int → Int} (h0 : nm 0 = nm' 0) (h2 : nm 2 = nm' 2) (h4 : nm 4 = nm' 4) (h5 : nm 5 = nm' 5) (h6 : nm 6 = nm' 6) (fs laws : Int) : fd ρ nm fs laws ↔ fd ρ nm' fs laws := by
  unfold fd
  rw [hq_congr hR (by omega) h0 h2 h4 h5 h6, hq_congr hR (by omega) h0 h2 h4 h5 h6, hq_congr hR (by omega) h0 h2 h4 h5 h6, hq_congr hR (by omega) h0 h2 h4 h5 h6]
theorem Lw_set {M : xM} {nm st : Int → Int} {fs : Int} {c : Nat} {B : Int → Int} (h1 : c ≠ 12) (h2 : c ≠ 13) (h3 : c ≠ 14) : setA (Lw M nm st fs) c B = Lw (setA M c B) nm st fs := by
  unfold Lw
  rw [x_upd_set_ne (fun z => h1 z.symm), setA_comm (b := 14) (c := c) (fun z => h3 z.symm), setA_comm (b := 13) (c := c) (fun z => h2 z.symm)]
section Cpass
variable {d n : Nat} {P : xP} {M : xM} {F : xM → Int → Prop} {G : xM → Prop}
theorem c_X0_close (hn : 82 ≤ n) (hP : x_PP P) {N nm st : Int → Int} {fs c se : Int} (h8 : M 4 1 ≤ 8) (hc : 0 ≤ c ∧ c < M 4 1) (h9 : 0 ≤ N 9 ∧ N 9 < 30) (h3 : 0 ≤ N 3 ∧ N 3 ≤ 9999) (hs : -1 ≤ se ∧ se ≤ 999)
    (H0 : se = -1 → G (Lw (setA M 2 (cClose N c 2 0 0)) nm st fs)) (H1 : se ≠ -1 → G (Lw (setA M 2 (cClose N c 3 1 se)) nm st fs)) : xCV Y_X0_close none (d + 2) [vR (some 1), vI c, vI se] n P (Lw (setA M 2 N) nm st fs) G := by
  have e2 : ∀ (B : Int → Int), Lw (setA M 2 B) nm st fs 2 = B := fun B => by rw [Lw_ne (by decide) (by decide) (by decide), setA_at]
  have eu : ∀ (B : Int → Int) i v, x_upd (Lw (setA M 2 B) nm st fs) 2 i v = Lw (setA M 2 (up B i v)) nm st fs := fun B i v => by rw [Lw_u (by decide) (by decide) (by decide), x_upd_up2]
  have e4 : ∀ (B : Int → Int), Lw (setA M 2 B) nm st fs 4 = M 4 := fun B => by rw [Lw_ne (by decide) (by decide) (by decide), setA_ne (by decide)]
  have go : ∀ (b w s : Int), (b = 0 ∨ b = 1) → (b = 0 → w = 2 ∧ s = 0 ∧ se = -1) → (¬ b = 0 → w = 3 ∧ s = se ∧ se ≠ -1) → xW Y_X0_close none (d + 2) 0 0 22 [(0, vR (some 1)), (1, vI c), (2, vI se), (3, vI b)] [vI w, vI c, vR (some 1)] (0, 0) (n, P, Lw (setA M 2 N) nm st fs) (kV n P G) := by
    intro b w s hb hb0 hb1
    have sr : 0 ≤ s ∧ s ≤ 999 := by
      rcases hb with h | h
      · have := hb0 h; omega
      · have := hb1 (by omega); omega
    have tail : ∀ s', s' = s → xW Y_X0_close none (d + 2) 0 0 42 [(0, vR (some 1)), (1, vI c), (3, vI b)] [vI s', vI (18 + c), vR (some 2)] (0, 0) (n, P, Lw (setA M 2 (cRel N c w)) nm st fs) (kV n P G) := by
      intro s' hs'
      subst hs'
      have r9 : cRel N c w 9 = N 9 := by unfold cRel; rw [up_ne (by omega), up_ne (by omega), up_ne (by omega), up_ne (by omega), up_ne (by omega)]
      have r3 : cRel N c w 3 = N 3 := by unfold cRel; rw [up_ne (by omega), up_ne (by omega), up_ne (by omega), up_ne (by omega), up_ne (by omega)]
      refine b_X0_close_42 hn hP ⟨by omega, ?_⟩
      rw [eu, e2, up_ne (by omega), r9]
      refine ⟨fun _ => b_X0_close_81 hn hP ?_, fun h => absurd h9.2 h⟩
      rw [e2, up_ne (by omega), r3]
      have fin : ∀ gb, (b = 0 → gb = 0) → (¬ b = 0 → gb = 1) → xW Y_X0_close none (d + 2) 0 0 103 [(0, vR (some 1)), (1, vI c)] [vI gb, vI ((N 3 * 8 + c) * 2)] (0, 0) (n, P, Lw (setA M 2 (up (cRel N c w) (18 + c) s')) nm st fs) (kV n P G) := by
        intro gb g0 g1
        have gr : gb = 0 ∨ gb = 1 := by
          rcases hb with h | h
          · exact Or.inl (g0 h)
          · exact Or.inr (g1 (by omega))
        refine b_X0_close_103 hn hP ?_
        rw [e2, up_ne (show (9 : Int) ≠ 18 + c by omega), r9, up_at, eu, e2, up_ne (show (9 : Int) ≠ 34 + N 9 by omega), up_ne (show (9 : Int) ≠ 18 + c by omega), r9, eu]
        refine ⟨by unfold inR; omega, by unfold inR; omega, by unfold inR; omega, by unfold inR; omega, by omega, by unfold inR; omega, by omega, by unfold inR; omega, ?_⟩
        show G (Lw (setA M 2 (cClose N c w gb s')) nm st fs)
        rcases hb with h | h
        · obtain ⟨w0, s0, se0⟩ := hb0 h
          rw [w0, s0, g0 h]
          exact H0 se0
        · obtain ⟨w0, s0, se0⟩ := hb1 (by omega)
          rw [w0, s0, g1 (by omega)]
          exact H1 se0
      exact ⟨by unfold inR; omega, by unfold inR; omega, by unfold inR; omega, fun h => fin 0 (fun _ => rfl) (fun z => absurd h z), fun h => fin 1 (fun z => absurd z h) (fun _ => rfl)⟩
    refine b_X0_close_22 hn hP (c_X0_release hn hP (by rw [e4]; exact h8) (by rw [e4]; exact hc) ?_)
    rw [eu, eu, eu, eu, eu]
    exact ⟨by unfold inR; omega, fun h => tail 0 (hb0 h).2.1.symm, fun h => tail se (hb1 h).2.1.symm⟩
  refine b_X0_close hn hP ⟨fun h => b_X0_close_10 hn hP ⟨fun _ => go 0 2 0 (Or.inl rfl) (fun _ => ⟨rfl, rfl, h⟩) (fun z => absurd rfl z), fun z => absurd rfl z⟩, fun h => b_X0_close_10 hn hP ⟨fun z => absurd z (by decide), fun _ => go 1 3 se (Or.inr rfl) (fun z => absurd z (by decide)) (fun _ => ⟨rfl, rfl, h⟩)⟩⟩
end Cpass
