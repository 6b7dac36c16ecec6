/-! codes, sure, toBring, hired -/
theorem setC_off {M : xM} {f : Int → Int} : offC M (setA M 63 f) := offC_set (offC_refl M) (by omega)
theorem setC_k {M : xM} {f : Int → Int} : ∀ c, 1 ≤ c → c < 12 → setA M 63 f c = M c := fun c c0 c1 => setA_ne (by omega)
/-- found and nearest among the first k cases -/
def tbF (all : Int) (w : Nat → Int) : Nat → Int × Int
  | 0 => (-1, 256)
  | k + 1 => if (0 < w k ∧ w k < all) ∧ (if 0 ≤ 2 * w k - all then 2 * w k - all else -(2 * w k - all)) < (tbF all w k).2 then ((k : Int), if 0 ≤ 2 * w k - all then 2 * w k - all else -(2 * w k - all)) else tbF all w k
theorem tbF_r (all : Int) (w : Nat → Int) (h : 0 ≤ all ∧ all ≤ 256) : ∀ k, ((tbF all w k).1 = -1 ∧ (tbF all w k).2 = 256) ∨ (0 ≤ (tbF all w k).1 ∧ (tbF all w k).2 < 256)
  | 0 => Or.inl ⟨rfl, rfl⟩
  | k + 1 => by
    have ih := tbF_r all w h k
    have e : tbF all w (k + 1) = if (0 < w k ∧ w k < all) ∧ (if 0 ≤ 2 * w k - all then 2 * w k - all else -(2 * w k - all)) < (tbF all w k).2 then ((k : Int), if 0 ≤ 2 * w k - all then 2 * w k - all else -(2 * w k - all)) else tbF all w k := rfl
    rw [e]
    by_cases hc : (0 < w k ∧ w k < all) ∧ (if 0 ≤ 2 * w k - all then 2 * w k - all else -(2 * w k - all)) < (tbF all w k).2
    · rw [if_pos hc]
      right
      refine ⟨by show (0 : Int) ≤ k; omega, ?_⟩
      show (if 0 ≤ 2 * w k - all then 2 * w k - all else -(2 * w k - all)) < 256
      split <;> omega
    · rw [if_neg hc]; exact ih
section Codes2
variable {g : Option Nat} {d n : Nat} {P : xP} {M : xM} {F : xM → Int → Prop} {G : xM → Prop}
theorem op_codes (hn : 82 ≤ n) (hP : x_PP P) {i : Int} (h : Rel M) : op2 n P Y_X9_codes Y_X10_codes (d + 100) [vI i] M := by
  have ok := Rel_oka h
  have nl := nF_le (cdN (M 65)) 256
  -- the reference
  have ref : ∀ M1, offC M M1 → (∀ c, 1 ≤ c → c < 12 → M1 c = M c) → ∀ z, (i = -1 → z = ((nF (cdN (M 65)) 256 : Nat) : Int)) → (i ≠ -1 → (∀ s : Nat, s < 256 → cdN (M 65) s → ((nF (cdN (M 65)) s : Nat) : Int) = i → z = (s : Int)) ∧ ((∀ s : Nat, s < 256 → cdN (M 65) s → ((nF (cdN (M 65)) s : Nat) : Int) ≠ i) → z = -1)) → xCI Y_X10_codes none (d + 100) [vR (some 64), vI i] n P M1 (fun M2 z2 => z2 = z ∧ Rel M2) := by
    intro M1 o1 e1 z z1 z2
    have e65 := offC_65 o1
    have ok1 : oka (M1 65) := by rw [e65]; exact ok
    refine op_q h o1 e1 (fun F HF => b_X10_codes hn hP ⟨fun hi => ?_, fun hi => q_codesBy hn hP ok1 (Or.inl rfl) ?_⟩)
    · obtain ⟨z3, z4⟩ := z2 hi
      have loop : ∀ (m k : Nat), k + m = 256 → (∀ s : Nat, s < k → cdN (M 65) s → ((nF (cdN (M 65)) s : Nat) : Int) ≠ i) → xW Y_X10_codes none (d + 100) 0 0 15 [(0, vR (some 64)), (1, vI i), (2, vI ((nF (cdN (M 65)) k : Nat) : Int)), (3, vI (k : Int))] [] (0, 0) (n, P, M1) (kI n P F) := by
        intro m
        induction m with
        | zero =>
          intro k hk hno
          refine b_X10_codes_15 hn hP ⟨fun _ => ?_, fun z => absurd z (by omega)⟩
          rw [← z4 (fun s hs => hno s (by omega))]
          exact HF M1 (offR_refl M1) rfl
        | succ m ih =>
          intro k hk hno
          have nlk := nF_le (cdN (M 65)) k
          have e : nF (cdN (M 65)) (k + 1) = if cdN (M 65) k then nF (cdN (M 65)) k + 1 else nF (cdN (M 65)) k := rfl
          refine b_X10_codes_15 hn hP ⟨fun z => absurd z (by omega), fun _ => q_isCode hn hP ok1 ?_⟩
          rw [e65]
          refine ⟨fun hz => ⟨fun hne => ⟨by unfold inR; omega, b_X10_codes_43 hn hP ⟨by unfold inR; omega, ?_⟩⟩, fun heq => ?_⟩, fun hz => b_X10_codes_43 hn hP ⟨by unfold inR; omega, ?_⟩⟩
          · have hp := bi_n0.mp hz
            have := ih (k + 1) (by omega) (fun s hs hc => by
              by_cases hsk : s = k
              · subst hsk; exact hne
              · exact hno s (by omega) hc)
            rw [e, if_pos hp, show (((k + 1 : Nat) : Nat) : Int) = (k : Int) + 1 by omega, show (((nF (cdN (M 65)) k + 1 : Nat) : Nat) : Int) = ((nF (cdN (M 65)) k : Nat) : Int) + 1 by omega] at this
            exact this
          · have hp := bi_n0.mp hz
            rw [← z3 k (by omega) hp heq]
            exact HF M1 (offR_refl M1) rfl
          · have hp := bi_0.mp hz
            have := ih (k + 1) (by omega) (fun s hs hc => by
              by_cases hsk : s = k
              · subst hsk; exact absurd hc hp
              · exact hno s (by omega) hc)
            rw [e, if_neg hp, show (((k + 1 : Nat) : Nat) : Int) = (k : Int) + 1 by omega] at this
            exact this
      exact loop 256 0 (by omega) (fun s hs => absurd hs (by omega))
    · rw [e65, nF_none, ← z1 hi]
      exact HF M1 (offR_refl M1) rfl
  refine b_X9_codes hn hP (k_gather hn hP h.1 (fun f hf => ?_))
  have r := ref (setA M 63 f) setC_off setC_k
  refine ⟨fun hi => ⟨by unfold inR; omega, c_X9_within hn ⟨fun hz => r (-1) (fun z => absurd z hi) (fun _ => ⟨fun s hs hc he => ?_, fun _ => rfl⟩), fun hz => ?_⟩⟩, fun hi => r _ (fun _ => rfl) (fun z => absurd hi z)⟩
  · have := nF_lt (cdN (M 65)) hc hs
    exact absurd (show 0 ≤ i ∧ i ≤ ((nF (cdN (M 65)) 256 : Nat) : Int) - 1 by omega) (bi_0.mp hz)
  · have hr := bi_n0.mp hz
    obtain ⟨s, s1, s2, s3⟩ := nF_surj (cdN (M 65)) (i := i.toNat) (k := 256) (by omega)
    refine ⟨by omega, r _ (fun z => absurd z hi) (fun _ => ⟨fun s' hs' hc' he' => ?_, fun hno => absurd (show ((nF (cdN (M 65)) s : Nat) : Int) = i by omega) (hno s s1 s2)⟩)⟩
    have hfs := hf s s1 s2
    rw [setA_at, show i = ((nF (cdN (M 65)) s : Nat) : Int) by omega, hfs]
    by_cases hlt : s < s'
    · have := nF_lt (cdN (M 65)) s2 hlt; omega
    · by_cases hgt : s' < s
      · have := nF_lt (cdN (M 65)) hc' hgt; omega
      · omega
theorem op_sure (hn : 82 ≤ n) (hP : x_PP P) {c : Int} (h : Rel M) : op2 n P Y_X9_sure Y_X10_sure (d + 100) [vI c] M := by
  have ok := Rel_oka h
  have nl := nF_le (cdN (M 65)) 256
  have a0 : M 65 0 = M 4 1 := h.1.1.1
  have hm := h.1.2.2.2.1.1
  have ref : ∀ M1, offC M M1 → (∀ c, 1 ≤ c → c < 12 → M1 c = M c) → ∀ z, (¬ (0 ≤ c ∧ c < M 65 0) → z = -1) → ((0 ≤ c ∧ c < M 65 0) → z = if nF (cdN (M 65)) 256 = 0 then -1 else if nF (fun s => cdN (M 65) s ∧ byP (M 65) (s : Int) c) 256 = nF (cdN (M 65)) 256 then 1 else if nF (fun s => cdN (M 65) s ∧ byP (M 65) (s : Int) c) 256 = 0 then 0 else -1) → xCI Y_X10_sure none (d + 100) [vR (some 64), vI c] n P M1 (fun M2 z2 => z2 = z ∧ Rel M2) := by
    intro M1 o1 e1 z z1 z2
    have e65 := offC_65 o1
    have ok1 : oka (M1 65) := by rw [e65]; exact ok
    refine op_q h o1 e1 (fun F HF => b_X10_sure hn hP (c_X10_isCase hn hP (by rw [e65]; exact hm) ?_))
    rw [e65]
    refine ⟨fun hz => q_codesBy hn hP ok1 (Or.inl rfl) (q_codesBy hn hP ok1 (Or.inr (by rw [e65]; exact bi_n0.mp hz)) ?_), fun hz => by rw [← z1 (bi_0.mp hz)]; exact HF M1 (offR_refl M1) rfl⟩
    have hc := bi_n0.mp hz
    rw [e65, nF_none, nF_by (M 65) (show c ≠ -1 by omega)]
    have zz := z2 hc
    have HH := HF M1 (offR_refl M1) rfl
    rw [zz] at HH
    refine ⟨fun q0 => ⟨fun q1 => ⟨fun q2 => ?_, fun q2 => ?_⟩, fun q1 => ?_⟩, fun q0 => ?_⟩
    · rwa [if_neg (by omega), if_neg (by omega), if_neg (by omega)] at HH
    · rwa [if_neg (by omega), if_neg (by omega), if_pos (by omega)] at HH
    · rwa [if_neg (by omega), if_pos (by omega)] at HH
    · rwa [if_pos (by omega)] at HH
  refine b_X9_sure hn hP (k_gather hn hP h.1 (fun f hf => ?_))
  have r := ref (setA M 63 f) setC_off setC_k
  have m4 : setA M 63 f 4 = M 4 := setC_k 4 (by omega) (by omega)
  have m5 : setA M 63 f (4 + 1) = M 5 := setC_k 5 (by omega) (by omega)
  refine c_X5_has hn hP (x_rows4 hn hP) (by rw [m4]; omega) ?_
  rw [m4, ← a0]
  refine ⟨fun hz => r (-1) (fun _ => rfl) (fun q => absurd q (bi_0.mp hz)), fun hz => ?_⟩
  have hc := bi_n0.mp hz
  obtain ⟨k0, k1, k2, k3⟩ := relC_told h.1 hc
  refine ⟨fun q0 => c_X5_at hn hP (x_rows4 hn hP) (by rw [m4]; omega) (by rw [m4]; omega) (by omega) ?_, fun q0 => r (-1) (fun _ => rfl) (fun _ => by rw [if_pos (by omega)])⟩
  rw [m5, show M 5 (4 * c + 3) = M 65 (20 + 7 * c + 3) from k3.symm]
  refine k_gathered hn hP nl ?_
  rw [setA_at, gF_eq (cdN (M 65)) (fun s => x_and (M 65 (20 + 7 * c + 3)) s = s) f (K := 256) hf 256 (by omega)]
  have eb : nF (fun s => cdN (M 65) s ∧ x_and (M 65 (20 + 7 * c + 3)) (s : Int) = (s : Int)) 256 = nF (fun s => cdN (M 65) s ∧ byP (M 65) (s : Int) c) 256 := rfl
  rw [eb]
  have e : ∀ z, z = (if nF (cdN (M 65)) 256 = 0 then -1 else if nF (fun s => cdN (M 65) s ∧ byP (M 65) (s : Int) c) 256 = nF (cdN (M 65)) 256 then 1 else if nF (fun s => cdN (M 65) s ∧ byP (M 65) (s : Int) c) 256 = 0 then 0 else -1 : Int) → xCI Y_X10_sure none (d + 100) [vR (some 64), vI c] n P (setA M 63 f) (fun M2 z2 => z2 = z ∧ Rel M2) := fun z hz' => r z (fun q => absurd hc q) (fun _ => hz')
  refine ⟨fun q1 => ⟨fun q2 => e _ ?_, fun q2 => e _ ?_⟩, fun q1 => e _ ?_⟩
  · rw [if_neg (by omega), if_neg (by omega), if_neg (by omega)]
  · rw [if_neg (by omega), if_neg (by omega), if_pos (by omega)]
  · rw [if_neg (by omega), if_pos (by omega)]
theorem op_toBring (hn : 82 ≤ n) (hP : x_PP P) (h : Rel M) : op2 n P Y_X9_toBring Y_X10_toBring (d + 100) [] M := by
  have ok := Rel_oka h
  have nl := nF_le (cdN (M 65)) 256
  have a0 : M 65 0 = M 4 1 := h.1.1.1
  have hm := h.1.2.2.2.1.1
  let all : Int := ((nF (cdN (M 65)) 256 : Nat) : Int)
  let w : Nat → Int := fun k => ((nF (fun s => cdN (M 65) s ∧ byP (M 65) (s : Int) (k : Int)) 256 : Nat) : Int)
  have wr : ∀ k, 0 ≤ w k ∧ w k ≤ all := fun k => by
    have := nF_and (cdN (M 65)) (fun s => byP (M 65) (s : Int) (k : Int)) 256
    show (0 : Int) ≤ ((nF (fun s => cdN (M 65) s ∧ byP (M 65) (s : Int) (k : Int)) 256 : Nat) : Int) ∧ ((nF (fun s => cdN (M 65) s ∧ byP (M 65) (s : Int) (k : Int)) 256 : Nat) : Int) ≤ ((nF (cdN (M 65)) 256 : Nat) : Int)
    omega
  have hall : 0 ≤ all ∧ all ≤ 256 := by show (0 : Int) ≤ ((nF (cdN (M 65)) 256 : Nat) : Int) ∧ ((nF (cdN (M 65)) 256 : Nat) : Int) ≤ 256; omega
  have te : ∀ k, tbF all w (k + 1) = if (0 < w k ∧ w k < all) ∧ (if 0 ≤ 2 * w k - all then 2 * w k - all else -(2 * w k - all)) < (tbF all w k).2 then ((k : Int), if 0 ≤ 2 * w k - all then 2 * w k - all else -(2 * w k - all)) else tbF all w k := fun k => rfl
  have ref : ∀ M1, offC M M1 → (∀ c, 1 ≤ c → c < 12 → M1 c = M c) → xCI Y_X10_toBring none (d + 100) [vR (some 64)] n P M1 (fun M2 z2 => z2 = (tbF all w (M 65 0).toNat).1 ∧ Rel M2) := by
    intro M1 o1 e1
    have e65 := offC_65 o1
    have ok1 : oka (M1 65) := by rw [e65]; exact ok
    refine op_q h o1 e1 (fun F HF => ?_)
    have loop : ∀ (m k : Nat), (k : Int) + m = M 65 0 → ∀ x3, (((tbF all w k).1 = -1 ∧ x3 = 1000000000) ∨ (0 ≤ (tbF all w k).1 ∧ x3 = (tbF all w k).2)) → xW Y_X10_toBring none (d + 100) 0 0 15 [(0, vR (some 64)), (1, vI all), (2, vI (tbF all w k).1), (3, vI x3), (4, vI (k : Int))] [] (0, 0) (n, P, M1) (kI n P F) := by
      intro m
      induction m with
      | zero =>
        intro k hk x3 h3
        refine b_X10_toBring_15 hn hP ⟨fun _ => ?_, fun z => absurd z (by rw [e65]; omega)⟩
        rw [show k = (M 65 0).toNat by omega]
        exact HF M1 (offR_refl M1) rfl
      | succ m ih =>
        intro k hk x3 h3
        have wk := wr k
        have tr := tbF_r all w hall k
        refine b_X10_toBring_15 hn hP ⟨fun z => absurd z (by rw [e65]; omega), fun _ => q_codesBy hn hP ok1 (Or.inr (by rw [e65]; omega)) ?_⟩
        rw [e65, nF_by (M 65) (show (k : Int) ≠ -1 by omega)]
        have go : ∀ s0, s0 = (if 0 ≤ 2 * w k - all then 2 * w k - all else -(2 * w k - all)) → xW Y_X10_toBring none (d + 100) 0 0 57 [(0, vR (some 64)), (1, vI all), (2, vI (tbF all w k).1), (3, vI x3), (4, vI (k : Int)), (5, vI (w k))] [vI s0] (0, 0) (n, P, M1) (kI n P F) := by
          intro s0 hs
          have sr : 0 ≤ s0 ∧ ((0 < w k ∧ w k < all) → s0 < 256) := by
            rw [hs]
            split <;> omega
          have e := te k
          rw [← hs] at e
          have skip : ¬ ((0 < w k ∧ w k < all) ∧ s0 < (tbF all w k).2) → xW Y_X10_toBring none (d + 100) 0 0 85 [(0, vR (some 64)), (1, vI all), (2, vI (tbF all w k).1), (3, vI x3), (4, vI (k : Int))] [] (0, 0) (n, P, M1) (kI n P F) := fun hh => by
            rw [if_neg hh] at e
            have := ih (k + 1) (by omega) x3 (by rw [e]; exact h3)
            rw [e, show (((k + 1 : Nat) : Nat) : Int) = (k : Int) + 1 by omega] at this
            exact b_X10_toBring_85 hn hP ⟨by unfold inR; omega, this⟩
          refine b_X10_toBring_57 hn hP ⟨fun q => skip (by omega), fun q => ⟨fun q2 => skip (by omega), fun q2 => ⟨fun q3 => ?_, fun q3 => skip (by omega)⟩⟩⟩
          have hh : (0 < w k ∧ w k < all) ∧ s0 < (tbF all w k).2 := by
            have := sr.2 (by omega)
            omega
          rw [if_pos hh] at e
          have := ih (k + 1) (by omega) s0 (by rw [e]; exact Or.inr ⟨by show (0 : Int) ≤ k; omega, rfl⟩)
          rw [e, show (((k + 1 : Nat) : Nat) : Int) = (k : Int) + 1 by omega] at this
          exact b_X10_toBring_85 hn hP ⟨by unfold inR; omega, this⟩
        show inR (2 * w k) ∧ ((2 * w k ≤ all → inR (2 * w k) ∧ inR (all - 2 * w k) ∧ _) ∧ (¬ 2 * w k ≤ all → inR (2 * w k) ∧ inR (2 * w k - all) ∧ _))
        refine ⟨by unfold inR; omega, fun hl => ⟨by unfold inR; omega, by unfold inR; omega, go (all - 2 * w k) ?_⟩, fun hl => ⟨by unfold inR; omega, by unfold inR; omega, go (2 * w k - all) ?_⟩⟩
        · split <;> omega
        · split <;> omega
    refine b_X10_toBring hn hP (q_codesBy hn hP ok1 (Or.inl rfl) ?_)
    rw [e65, nF_none]
    exact loop (M 65 0).toNat 0 (by omega) 1000000000 (Or.inl ⟨rfl, rfl⟩)
  refine b_X9_toBring hn hP (k_gather hn hP h.1 (fun f hf => ?_))
  have r := ref (setA M 63 f) setC_off setC_k
  have m4 : setA M 63 f 4 = M 4 := setC_k 4 (by omega) (by omega)
  have m5 : setA M 63 f (4 + 1) = M 5 := setC_k 5 (by omega) (by omega)
  have loop : ∀ (m k : Nat), (k : Int) + m = M 65 0 → xW Y_X9_toBring none (d + 100) 0 0 14 [(0, vR (some 0)), (1, vI all), (2, vI (tbF all w k).1), (3, vI (tbF all w k).2), (4, vI (k : Int))] [] (0, 0) (n, P, setA M 63 f) (kI n P (fun M1 z1 => xCI Y_X10_toBring none (d + 100) [vR (some 64)] n P M1 (fun M2 z2 => z2 = z1 ∧ Rel M2))) := by
    intro m
    induction m with
    | zero =>
      intro k hk
      refine b_X9_toBring_14 hn hP ⟨fun _ => ?_, fun z => absurd z (by rw [m4]; omega)⟩
      rw [show k = (M 65 0).toNat by omega]
      exact r
    | succ m ih =>
      intro k hk
      have wk := wr k
      obtain ⟨k0, k1, k2, k3⟩ := relC_told h.1 (c := (k : Int)) (by omega)
      have e := te k
      have nx := ih (k + 1) (by omega)
      rw [e, show (((k + 1 : Nat) : Nat) : Int) = (k : Int) + 1 by omega] at nx
      refine b_X9_toBring_14 hn hP ⟨fun z => absurd z (by rw [m4]; omega), fun _ => c_X5_at hn hP (x_rows4 hn hP) (by rw [m4]; omega) (by rw [m4]; omega) (by omega) ?_⟩
      rw [m5, show M 5 (4 * (k : Int) + 3) = M 65 (20 + 7 * (k : Int) + 3) from k3.symm]
      refine k_gathered hn hP nl ?_
      rw [setA_at, gF_eq (cdN (M 65)) (fun s => x_and (M 65 (20 + 7 * (k : Int) + 3)) s = s) f (K := 256) hf 256 (by omega)]
      show inR (2 * w k) ∧ inR (2 * w k - all) ∧ _
      refine ⟨by unfold inR; omega, by unfold inR; omega, ?_⟩
      have go : ∀ z4, z4 = (if 0 ≤ 2 * w k - all then 2 * w k - all else -(2 * w k - all)) → ((w k ≤ 0 → xW Y_X9_toBring none (d + 100) 0 0 83 [(0, vR (some 0)), (1, vI all), (2, vI (tbF all w k).1), (3, vI (tbF all w k).2), (4, vI (k : Int))] [] (0, 0) (n, P, setA M 63 f) (kI n P (fun M1 z1 => xCI Y_X10_toBring none (d + 100) [vR (some 64)] n P M1 (fun M2 z2 => z2 = z1 ∧ Rel M2)))) ∧ (¬ w k ≤ 0 → ((all ≤ w k → xW Y_X9_toBring none (d + 100) 0 0 83 [(0, vR (some 0)), (1, vI all), (2, vI (tbF all w k).1), (3, vI (tbF all w k).2), (4, vI (k : Int))] [] (0, 0) (n, P, setA M 63 f) (kI n P (fun M1 z1 => xCI Y_X10_toBring none (d + 100) [vR (some 64)] n P M1 (fun M2 z2 => z2 = z1 ∧ Rel M2)))) ∧ (¬ all ≤ w k → (((tbF all w k).2 ≤ z4 → xW Y_X9_toBring none (d + 100) 0 0 83 [(0, vR (some 0)), (1, vI all), (2, vI (tbF all w k).1), (3, vI (tbF all w k).2), (4, vI (k : Int))] [] (0, 0) (n, P, setA M 63 f) (kI n P (fun M1 z1 => xCI Y_X10_toBring none (d + 100) [vR (some 64)] n P M1 (fun M2 z2 => z2 = z1 ∧ Rel M2)))) ∧ (¬ (tbF all w k).2 ≤ z4 → xW Y_X9_toBring none (d + 100) 0 0 83 [(0, vR (some 0)), (1, vI all), (2, vI (k : Int)), (3, vI z4), (4, vI (k : Int))] [] (0, 0) (n, P, setA M 63 f) (kI n P (fun M1 z1 => xCI Y_X10_toBring none (d + 100) [vR (some 64)] n P M1 (fun M2 z2 => z2 = z1 ∧ Rel M2))))))))) := by
        intro z4 hz4
        rw [← hz4] at nx
        refine ⟨fun q => b_X9_toBring_83 hn hP ⟨by unfold inR; omega, ?_⟩, fun q => ⟨fun q2 => b_X9_toBring_83 hn hP ⟨by unfold inR; omega, ?_⟩, fun q2 => ⟨fun q3 => b_X9_toBring_83 hn hP ⟨by unfold inR; omega, ?_⟩, fun q3 => b_X9_toBring_83 hn hP ⟨by unfold inR; omega, ?_⟩⟩⟩⟩
        · rwa [if_neg (by omega)] at nx
        · rwa [if_neg (by omega)] at nx
        · rwa [if_neg (by omega)] at nx
        · rwa [if_pos (by omega)] at nx
      refine b_J9_abs_0f7a4 hn ⟨fun hl => go _ (by rw [if_pos hl]), fun hl => ⟨by unfold inR; omega, go _ (by rw [if_neg hl])⟩⟩
  exact loop (M 65 0).toNat 0 (by omega)
end Codes2
