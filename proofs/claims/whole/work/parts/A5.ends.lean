/-! the end of a case heard from some hour on -/
def lws (ρ : Option xTx) (A : Int → Int) (s : Nat) : Nat → Int
  | 0 => 0
  | k + 1 => x_or (lws ρ A s k) (x_shl 1 (wI ρ A (s + k) 0))
theorem lws_r {ρ : Option xTx} (hR : okR ρ) {A : Int → Int} (h : oka A) (s : Nat) : ∀ k : Nat, s + k ≤ 100 → 0 ≤ lws ρ A s k ∧ lws ρ A s k < 16
  | 0, _ => ⟨Int.le_refl _, by show (0 : Int) < 16; decide⟩
  | k + 1, hk => laws_r (lws_r hR h s k (by omega)) (wI_ok hR h (s + k) (by omega)).1
abbrev vJ1 (ρ : Option xTx) (A : Int → Int) (c s hd : Int) : Prop := jf ρ (A 11 + (s + hd - 1)) (wI ρ A (s + hd - 1).toNat 0) (wI ρ A (s + hd - 1).toNat 1) (wI ρ A (s + hd - 1).toNat 2) (A (20 + 7 * c + 0)) (A (20 + 7 * c + 1)) hd (A (20 + 7 * c + 3)) (lws ρ A s.toNat hd.toNat)
def vS1 (ρ : Option xTx) (A : Int → Int) (c s hd : Int) : Int := sent ρ (up (cn (A 11 + (s + hd - 1)) (wI ρ A (s + hd - 1).toNat 0) (wI ρ A (s + hd - 1).toNat 1) (A (20 + 7 * c + 0)) (A (20 + 7 * c + 1)) hd) 7 (popc (lws ρ A s.toNat hd.toNat)))
/-- its sentence; -1: acquitted -/
def vd (ρ : Option xTx) (A : Int → Int) (c s hd : Int) : Int := if vJ1 ρ A c s hd then vS1 ρ A c s hd else -1
theorem vS1_r {ρ : Option xTx} {A : Int → Int} {c s hd : Int} (hy : 0 ≤ A (20 + 7 * c + 1) ∧ A (20 + 7 * c + 1) ≤ 9) (hh : 0 ≤ hd ∧ hd ≤ 100) : 0 ≤ vS1 ρ A c s hd ∧ vS1 ρ A c s hd ≤ 999 := by
  unfold vS1
  exact sent_r ρ (by rw [up_ne (by decide)]; exact hy) (by rw [up_ne (by decide)]; exact hh)
theorem vd_r {ρ : Option xTx} {A : Int → Int} {c s hd : Int} (hy : 0 ≤ A (20 + 7 * c + 1) ∧ A (20 + 7 * c + 1) ≤ 9) (hh : 0 ≤ hd ∧ hd ≤ 100) : -1 ≤ vd ρ A c s hd ∧ vd ρ A c s hd ≤ 999 := by
  have := vS1_r (ρ := ρ) (s := s) hy hh
  unfold vd
  by_cases h : vJ1 ρ A c s hd
  · rw [if_pos h]; omega
  · rw [if_neg h]; omega
theorem oka_told {A : Int → Int} (h : oka A) {c : Int} (hc : 0 ≤ c ∧ c < A 0) : (0 ≤ c ∧ c < 8) ∧ (0 ≤ A (20 + 7 * c + 0) ∧ A (20 + 7 * c + 0) ≤ 5) ∧ (1 ≤ A (20 + 7 * c + 1) ∧ A (20 + 7 * c + 1) ≤ 9) ∧ (1 ≤ A (20 + 7 * c + 2) ∧ A (20 + 7 * c + 2) ≤ 9) ∧ (0 ≤ A (20 + 7 * c + 3) ∧ A (20 + 7 * c + 3) < 256) := by
  obtain ⟨K, hI⟩ := oka_inv h
  have hm := hI.1
  obtain ⟨t, r⟩ := hI.2.2.2.1 c hc.1 hc.2
  have r0 := r 0 (by omega) (by omega)
  have r1 := r 1 (by omega) (by omega)
  have r2 := r 2 (by omega) (by omega)
  have r3 := r 3 (by omega) (by omega)
  obtain ⟨t0, t1, t2, t3⟩ := t
  refine ⟨by omega, by omega, by omega, by omega, by omega⟩
theorem relC_told {A : Int → Int} {M : xM} (h : relC A (CC M)) {c : Int} (hc : 0 ≤ c ∧ c < A 0) : A (20 + 7 * c + 0) = M 5 (4 * c) ∧ A (20 + 7 * c + 1) = M 5 (4 * c + 1) ∧ A (20 + 7 * c + 2) = M 5 (4 * c + 2) ∧ A (20 + 7 * c + 3) = M 5 (4 * c + 3) := by
  obtain ⟨_, r⟩ := h.2.2.2.1.2.2.2.1 c hc.1 hc.2
  have r0 := r 0 (by omega) (by omega)
  rw [Int.add_zero (4 * c)] at r0
  exact ⟨r0, r 1 (by omega) (by omega), r 2 (by omega) (by omega), r 3 (by omega) (by omega)⟩
section Ends
variable {g : Option Nat} {d n : Nat} {P : xP} {M : xM} {F : xM → Int → Prop} {G : xM → Prop}
/-- seen and judged, whatever stood in the law's cells -/
theorem k_judge (hn : 82 ≤ n) (hP : x_PP P) {A : Int → Int} {o : Option Nat} {ρ : Option xTx} {c hd H0 q f laws : Int} (h : relC A (CC M)) (hR : clR n P M o ρ) (hc : 0 ≤ c ∧ c < A 0) (hh : 0 ≤ hd ∧ hd ≤ 100) (hH : 0 ≤ H0 ∧ H0 ≤ 30000) (hq : 0 ≤ q ∧ q < 4) (hf : 0 ≤ f ∧ f ≤ 9) (hl : 0 ≤ laws ∧ laws < 16) {G2 : xM → Prop}
    (H : ∀ M', offW M M' → (∀ (cm : Int) (F : xM → Int → Prop), (∀ M'', offW M M'' → F M'' (if cm = 0 ∧ fd ρ (cn H0 q f (A (20 + 7 * c + 0)) (A (20 + 7 * c + 1)) hd) (A (20 + 7 * c + 3)) laws then sent ρ (up (cn H0 q f (A (20 + 7 * c + 0)) (A (20 + 7 * c + 1)) hd) 7 (popc laws)) else -1)) → xCI Y_X2_judged g (d + 3) [vR (some 12), vR o, vI cm, vI laws] n P M' F) → G2 M') :
    xCV Y_X2_seeWind g (d + 3) [vR (some 12), vI H0, vI q, vI f] n P M (fun M1 => xCV Y_X2_seeCase g (d + 3) [vR (some 12), vR (some 4), vI c, vI hd] n P M1 G2) := by
  have okr := clR_ok hR
  have a0 : A 0 = M 4 1 := h.1.1
  have tk := oka_told ⟨_, h⟩ hc
  obtain ⟨k0, k1, k2, k3⟩ := relC_told h hc
  have hm := h.2.2.2.1.1
  have e : Lw M (M 13) (M 14) (M 12 1) = M := Lw_self M
  suffices S : xCV Y_X2_seeWind g (d + 3) [vR (some 12), vI H0, vI q, vI f] n P (Lw M (M 13) (M 14) (M 12 1)) (fun M1 => xCV Y_X2_seeCase g (d + 3) [vR (some 12), vR (some 4), vI c, vI hd] n P M1 G2) by
    rw [e] at S
    exact S
  refine c_X2_seeWind hn hP (c_X2_seeCase hn hP (x_rows4 hn hP) (by omega) (by omega) (by omega) ?_)
  rw [show M (4 + 1) (4 * c) = A (20 + 7 * c + 0) from k0.symm, show M (4 + 1) (4 * c + 1) = A (20 + 7 * c + 1) from k1.symm, show M (4 + 1) (4 * c + 3) = A (20 + 7 * c + 3) from k3.symm]
  generalize hnm : up (up (up (up (up (up (M 13) 0 H0) 1 q) 2 f) 4 (A (20 + 7 * c + 0))) 5 (A (20 + 7 * c + 1))) 6 hd = nc
  have c0 : nc 0 = H0 := by rw [← hnm]; rfl
  have c1 : nc 1 = q := by rw [← hnm]; rfl
  have c2 : nc 2 = f := by rw [← hnm]; rfl
  have c4 : nc 4 = A (20 + 7 * c + 0) := by rw [← hnm]; rfl
  have c5 : nc 5 = A (20 + 7 * c + 1) := by rw [← hnm]; rfl
  have c6 : nc 6 = hd := by rw [← hnm]; rfl
  refine H _ (offW_Lw (offW_refl M)) (fun cm F HF => ?_)
  have hp := popc_r laws
  have okq : ∀ q, 0 ≤ q → q < 4 → okN q (up nc 1 q) := fun q q0 q1 => okN_c q1 (by rw [up_ne (by decide)]; omega) (by rw [up_at]; omega) (by rw [up_ne (by decide)]; omega) (by rw [up_ne (by decide)]; omega) (by rw [up_ne (by decide)]; omega) (by rw [up_ne (by decide)]; omega)
  have ok7 : okN 7 (up nc 7 (popc laws)) := okN_s (by rw [up_ne (by decide)]; omega) (by rw [up_ne (by decide)]; omega) (by rw [up_ne (by decide)]; omega) (by rw [up_ne (by decide)]; omega) (by rw [up_ne (by decide)]; omega) (by rw [up_ne (by decide)]; omega) (by rw [up_at]; omega)
  have ef : fd ρ nc (A (20 + 7 * c + 3)) laws ↔ fd ρ (cn H0 q f (A (20 + 7 * c + 0)) (A (20 + 7 * c + 1)) hd) (A (20 + 7 * c + 3)) laws := by
    apply fd_congr okr
    · exact c0
    · exact c2
    · exact c4
    · exact c5
    · exact c6
  have es : sent ρ (up nc 7 (popc laws)) = sent ρ (up (cn H0 q f (A (20 + 7 * c + 0)) (A (20 + 7 * c + 1)) hd) 7 (popc laws)) := by
    apply sent_congr okr
    · rw [up_ne (by decide), up_ne (by decide)]; exact c0
    · rw [up_ne (by decide), up_ne (by decide)]; exact c1
    · rw [up_ne (by decide), up_ne (by decide)]; exact c2
    · rw [up_ne (by decide), up_ne (by decide)]; exact c4
    · rw [up_ne (by decide), up_ne (by decide)]; exact c5
    · rw [up_ne (by decide), up_ne (by decide)]; exact c6
    · rw [up_at, up_at]
  refine c_X2_judged hn hP hR (by omega) (by omega) (by omega) okq ok7 (fun nm' st' => ?_)
  have := HF _ (offW_Lw (nm := nm') (st := st') (fs := A (20 + 7 * c + 3)) (offW_refl M))
  by_cases hb : cm = 0 ∧ fd ρ nc (A (20 + 7 * c + 3)) laws
  · rw [if_pos hb, es]
    rwa [if_pos ⟨hb.1, ef.mp hb.2⟩] at this
  · rw [if_neg hb]
    rwa [if_neg (fun z => hb ⟨z.1, ef.mpr z.2⟩)] at this
theorem k_endOf (hn : 82 ≤ n) (hP : x_PP P) {A : Int → Int} {o : Option Nat} {ρ : Option xTx} {c s hd S : Int} (h : relC A (CC M)) (hR : clR n P M o ρ) (hw : wC ρ A S M) (h2 : M 15 2 = x_enc o) (hS : 0 ≤ S ∧ S ≤ 60) (hc : 0 ≤ c ∧ c < A 0) (hs : 0 ≤ s ∧ s ≤ 100) (hh : 1 ≤ hd ∧ hd ≤ 20) (H : ∀ M', offW M M' → F M' (if s + hd ≤ S then vd ρ A c s hd else -2)) : xCI Y_X1_endOf g (d + 4) [vR (some 15), vI c, vI s, vI hd] n P M F := by
  have okr := clR_ok hR
  have ok : oka A := ⟨_, h⟩
  have h11 := h.2.2.2.1.2.1.2.2.2.1
  have e11 : A 11 = M 2 3 := rel_at h.2.2.1 (by omega) rfl
  have w3 := hw.1
  refine b_X1_endOf hn hP ⟨fun z => absurd z (by omega), fun _ => ⟨fun z => absurd z (by omega), fun _ => ⟨by unfold inR; omega, fun hl => ⟨by unfold inR; omega, by unfold inR; omega, ?_⟩, fun hl => ?_⟩⟩⟩
  · rw [w3] at hl
    rw [if_pos hl] at H
    have loop : ∀ (m k : Nat), (k : Int) + m = hd → xW Y_X1_endOf g (d + 4) 0 0 35 [(0, vR (some 15)), (1, vI c), (3, vI hd), (4, vI (s + hd - 1)), (5, vI (lws ρ A s.toNat k)), (6, vI (s + k))] [] (0, 0) (n, P, M) (kI n P F) := by
      intro m
      induction m with
      | zero =>
        intro k hk
        rw [show k = hd.toNat by omega]
        have lr := lws_r okr ok s.toNat hd.toNat (by omega)
        obtain ⟨o0, o1, o2, o3, o4⟩ := wI_ok okr ok (s + hd - 1).toNat (by omega)
        obtain ⟨q0, q1, q2⟩ := hw.2 (s + hd - 1) (by omega) (by omega)
        refine b_X1_endOf_35 hn hP ⟨fun _ => ⟨by unfold inR; omega, by omega, by omega, ?_⟩, fun z => absurd z (by omega)⟩
        rw [q0, q1, ← e11]
        refine k_judge hn hP h hR hc (by omega) (by omega) o0 o1 lr (fun M1 o1' J => ?_)
        have j15 := o1' 15 (by omega)
        have j17 := o1' 17 (by omega)
        have j18 := o1' 18 (by omega)
        rw [j15, h2, x_dec_enc]
        refine b_X1_isCalm hn hP ⟨fun z => absurd z (by omega), fun _ => ⟨fun z => absurd z (by omega), fun _ => ⟨by omega, ?_⟩⟩⟩
        rw [j17, j18, q1, q2]
        have fin : ∀ cm : Int, (cm = 0 ↔ ¬ (wI ρ A (s + hd - 1).toNat 1 = 0 ∨ wI ρ A (s + hd - 1).toNat 2 = 1)) → xCI Y_X2_judged g (d + 3) [vR (some 12), vR o, vI cm, vI (lws ρ A s.toNat hd.toNat)] n P M1 (fun M7 z7 => F M7 z7) := fun cm hcm => J cm _ (fun M2 o2' => by
          have HH := H M2 o2'
          unfold vd at HH
          by_cases hb : vJ1 ρ A c s hd
          · rw [if_pos hb] at HH
            rw [if_pos ⟨hcm.mpr hb.2, hb.1⟩]
            exact HH
          · rw [if_neg hb] at HH
            rw [if_neg (fun z => hb ⟨z.2, hcm.mp z.1⟩)]
            exact HH)
        exact ⟨fun hz => fin 1 ⟨fun z => absurd z (by decide), fun z => absurd (Or.inl hz) z⟩, fun hz => ⟨by omega, fun hy => fin 0 ⟨fun _ z => by rcases z with z | z; exact hz z; exact hy z, fun _ => rfl⟩, fun hy => fin 1 ⟨fun z => absurd z (by decide), fun z => absurd (Or.inr hy) z⟩⟩⟩
      | succ m ih =>
        intro k hk
        obtain ⟨q0, q1, q2⟩ := hw.2 (s + k) (by omega) (by omega)
        refine b_X1_endOf_35 hn hP ⟨fun z => absurd z (by omega), fun _ => ⟨by omega, by unfold inR; omega, ?_⟩⟩
        rw [q0, show (s + (k : Int)).toNat = s.toNat + k by omega, show s + (k : Int) + 1 = s + ((k + 1 : Nat) : Int) by omega]
        exact ih (k + 1) (by omega)
    have := loop hd.toNat 0 (by omega)
    rw [show s + ((0 : Nat) : Int) = s by omega] at this
    exact this
  · rw [w3] at hl
    rw [if_neg hl] at H
    exact H M (offW_refl M)
end Ends
