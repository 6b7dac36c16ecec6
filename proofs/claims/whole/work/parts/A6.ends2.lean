/-! the end of a case: the reference -/
def offE (M M' : xM) : Prop := (∀ c, c ≠ 64 → c ≠ 77 → ¬ (71 ≤ c ∧ c < 74) → M' c = M c) ∧ ∀ j, j ≠ 26 → j ≠ 34 → j ≠ 35 → M' 64 j = M 64 j
theorem offE_refl (M : xM) : offE M M := ⟨fun _ _ _ _ => rfl, fun _ _ _ _ => rfl⟩
theorem offE_trans {M M' M'' : xM} (h : offE M M') (h' : offE M' M'') : offE M M'' := ⟨fun c h1 h2 h3 => (h'.1 c h1 h2 h3).trans (h.1 c h1 h2 h3), fun j h1 h2 h3 => (h'.2 j h1 h2 h3).trans (h.2 j h1 h2 h3)⟩
theorem offE_R {M M' : xM} (h : offE M M') : offR M M' := ⟨fun c hc => h.1 c (by omega) (by omega) (by omega), fun j hj => h.2 j (by omega) (by omega) (by omega)⟩
theorem offE_65 {M M' : xM} (h : offE M M') : M' 65 = M 65 := h.1 65 (by decide) (by decide) (by decide)
theorem wR_E {ρ : Option xTx} {A : Int → Int} {s : Int} {M M' : xM} (h : offE M M') (hw : wR ρ A s M) : wR ρ A s M' := fun k k0 k1 => by
  rw [h.1 74 (by decide) (by decide) (by decide), h.1 75 (by decide) (by decide) (by decide), h.1 76 (by decide) (by decide) (by decide)]
  exact hw k k0 k1
section Ends2
variable {g : Option Nat} {d n : Nat} {P : xP} {M : xM} {F : xM → Int → Prop} {G : xM → Prop}
theorem q_isFound (hn : 82 ≤ n) (hP : x_PP P) {c s laws : Int} {ρ : Option xTx} (hR : rfR M (M 65 2) ρ) (hc : 0 ≤ c ∧ c < 8) (hfa : 0 ≤ M 65 (20 + 7 * c + 3) ∧ M 65 (20 + 7 * c + 3) < 256) (hN : ∀ q, 0 ≤ q → q < 4 → okN q (cn (M 65 11) q (M 65 9) (M 65 (20 + 7 * c + 0)) (M 65 (20 + 7 * c + 1)) s))
    (H : ∀ M', offL M M' → F M' (bi (jf ρ (M 65 11) (M 65 8) (M 65 9) (M 65 10) (M 65 (20 + 7 * c + 0)) (M 65 (20 + 7 * c + 1)) s (M 65 (20 + 7 * c + 3)) laws))) : xCI Y_X10_isFound g (d + 4) [vR (some 64), vI c, vI s, vI laws] n P M F := by
  have := c_X10_isFound (g := g) (d := d) (F := F) (laws := laws) (nm := M 71) (f := M 72) (h := M 73) (fs := M 64 26) hn hP hR hc hfa hN (fun nm' f' h' fs' => H _ (offL_Rw (offL_refl M)))
  rw [Rw_self] at this
  exact this
theorem q_sentenceOf (hn : 82 ≤ n) (hP : x_PP P) {c s laws : Int} {ρ : Option xTx} (hR : rfR M (M 65 2) ρ) (hc : 0 ≤ c ∧ c < 8) (h5 : 0 ≤ M 65 (20 + 7 * c + 1) ∧ M 65 (20 + 7 * c + 1) ≤ 9) (h6 : 0 ≤ s ∧ s ≤ 1000) (hN : okN 7 (up (cn (M 65 11) (M 65 8) (M 65 9) (M 65 (20 + 7 * c + 0)) (M 65 (20 + 7 * c + 1)) s) 7 (popc laws)))
    (H : ∀ M', offL M M' → F M' (sent ρ (up (cn (M 65 11) (M 65 8) (M 65 9) (M 65 (20 + 7 * c + 0)) (M 65 (20 + 7 * c + 1)) s) 7 (popc laws)))) : xCI Y_X10_sentenceOf g (d + 4) [vR (some 64), vI c, vI s, vI laws] n P M F := by
  have := c_X10_sentenceOf (g := g) (d := d) (F := F) (laws := laws) (nm := M 71) (f := M 72) (h := M 73) (fs := M 64 26) hn hP hR hc h5 h6 hN (fun nm' f' h' => H _ (offL_Rw (offL_refl M)))
  rw [Rw_self] at this
  exact this
theorem okN_c2 {H0 q f k y s : Int} (hH : 0 ≤ H0 ∧ H0 ≤ 30000) (hf : 0 ≤ f ∧ f ≤ 9) (hk : 0 ≤ k ∧ k ≤ 9) (hy : 0 ≤ y ∧ y ≤ 9) (hs : 0 ≤ s ∧ s ≤ 1000) (q0 : 0 ≤ q) (q1 : q < 4) : okN q (cn H0 q f k y s) :=
  okN_c q1 (by show -1000000 ≤ H0 ∧ H0 ≤ 1000000; omega) (by show -1000000 ≤ q ∧ q ≤ 1000000; omega) (by show -1000000 ≤ f ∧ f ≤ 1000000; omega) (by show -1000000 ≤ k ∧ k ≤ 1000000; omega) (by show -1000000 ≤ y ∧ y ≤ 1000000; omega) (by show -1000000 ≤ s ∧ s ≤ 1000000; omega)
theorem okN_s2 {H0 q f k y s l : Int} (hH : 0 ≤ H0 ∧ H0 ≤ 30000) (hq : 0 ≤ q ∧ q < 4) (hf : 0 ≤ f ∧ f ≤ 9) (hk : 0 ≤ k ∧ k ≤ 9) (hy : 0 ≤ y ∧ y ≤ 9) (hs : 0 ≤ s ∧ s ≤ 1000) : okN 7 (up (cn H0 q f k y s) 7 (popc l)) := by
  have hp := popc_r l
  exact okN_s (by show -1000000 ≤ H0 ∧ H0 ≤ 1000000; omega) (by show -1000000 ≤ q ∧ q ≤ 1000000; omega) (by show -1000000 ≤ f ∧ f ≤ 1000000; omega) (by show -1000000 ≤ k ∧ k ≤ 1000000; omega) (by show -1000000 ≤ y ∧ y ≤ 1000000; omega) (by show -1000000 ≤ s ∧ s ≤ 1000000; omega) (by show -1000000 ≤ popc l ∧ popc l ≤ 1000000; omega)
theorem q_isEnding (hn : 82 ≤ n) (hP : x_PP P) {ρ : Option xTx} {c k e z : Int} (hρ : rho M (M 65 2) ρ) (h : oka (M 65)) (hw : wR ρ (M 65) z M) (hc : 0 ≤ c ∧ c < M 65 0) (hk : 0 ≤ k ∧ k ≤ 80) (he : 0 ≤ e ∧ e ≤ 3) (hz : M 65 11 + k + (M 65 (20 + 7 * c + 2) + e) ≤ 9999 → k + (M 65 (20 + 7 * c + 2) + e) ≤ z) (hz2 : z ≤ 61)
    (H0 : ¬ M 65 11 + k + (M 65 (20 + 7 * c + 2) + e) ≤ 9999 → F M 0)
    (H1 : M 65 11 + k + (M 65 (20 + 7 * c + 2) + e) ≤ 9999 → ∀ M', offE M M' → M' 64 34 = bi (vd ρ (M 65) c k (M 65 (20 + 7 * c + 2) + e) ≠ -1) → M' 64 35 = (if vd ρ (M 65) c k (M 65 (20 + 7 * c + 2) + e) = -1 then 0 else vd ρ (M 65) c k (M 65 (20 + 7 * c + 2) + e)) → F M' 1) : xCI Y_X10_isEnding g (d + 5) [vR (some 64), vI c, vI k, vI e] n P M F := by
  have okr := rho_okR hρ
  obtain ⟨K, hI⟩ := oka_inv h
  have h11 := hI.2.1.2.2.2.1
  obtain ⟨c8, t0, t1, t2, t3⟩ := oka_told h hc
  refine b_X10_isEnding hn hP (c_X10_get hn hP c8 (by omega) ⟨by unfold inR; omega, by unfold inR; omega, by unfold inR; omega, fun hl => ?_, fun hl => H0 hl⟩)
  have hz' := hz hl
  have H := H1 hl
  generalize hA : M 65 = A at *
  generalize hhd : A (20 + 7 * c + 2) + e = hd at *
  have loop : ∀ (m j : Nat), (j : Int) + m = hd → xW Y_X10_isEnding g (d + 5) 0 0 36 [(0, vR (some 64)), (1, vI c), (2, vI k), (4, vI hd), (5, vI (lws ρ A k.toNat j)), (6, vI (k + j))] [] (0, 0) (n, P, M) (kI n P F) := by
    intro m
    induction m with
    | succ m ih =>
      intro j hj
      obtain ⟨q0, q1, q2⟩ := hw (k + j) (by omega) (by omega)
      refine b_X10_isEnding_36 hn hP ⟨by unfold inR; omega, fun q => absurd q (by omega), fun _ => ⟨by omega, by unfold inR; omega, ?_⟩⟩
      rw [q0, show (k + (j : Int)).toNat = k.toNat + j by omega, show k + (j : Int) + 1 = k + ((j + 1 : Nat) : Int) by omega]
      exact ih (j + 1) (by omega)
    | zero =>
      intro j hj
      rw [show j = hd.toNat by omega]
      have lr := lws_r okr h k.toNat hd.toNat (by omega)
      obtain ⟨o0, o1, o2, o3, o4⟩ := wI_ok okr h (k + hd - 1).toNat (by omega)
      obtain ⟨q0, q1, q2⟩ := hw (k + hd - 1) (by omega) (by omega)
      refine b_X10_isEnding_36 hn hP ⟨by unfold inR; omega, fun _ => c_X10_begin hn hP ?_, fun q => absurd q (by omega)⟩
      rw [hA]
      have b65 : x_blk M 77 0 5 (fun j => A (8 + j)) 65 = A := by funext j; rw [x_blk_out (fun z => absurd z.1 (by decide)), hA]
      have bne : ∀ b, b ≠ 77 → x_blk M 77 0 5 (fun j => A (8 + j)) b = M b := fun b hb => by funext j; exact x_blk_out (fun z => hb z.1)
      have b77 : ∀ i, 0 ≤ i → i < 5 → x_blk M 77 0 5 (fun j => A (8 + j)) 77 i = A (8 + i) := fun i i0 i1 => x_blk_in i0 (by omega)
      generalize x_blk M 77 0 5 (fun j => A (8 + j)) = N at *
      rw [x_upd_up N, x_upd_up2, x_upd_up2, x_upd_up2, b65, bne 74 (by decide), bne 75 (by decide), bne 76 (by decide), q0, q1, q2]
      refine ⟨by unfold inR; omega, by unfold inR; omega, by unfold inR; omega, by unfold inR; omega, by unfold inR; omega, by omega, by unfold inR; omega, by unfold inR; omega, by omega, by unfold inR; omega, by unfold inR; omega, by omega, ?_⟩
      let w' : Int → Int := fun i => if i = 0 then wI ρ A (k + hd - 1).toNat 0 else if i = 1 then wI ρ A (k + hd - 1).toNat 1 else if i = 2 then wI ρ A (k + hd - 1).toNat 2 else if i = 3 then A 11 + (k + hd - 1) else A 12
      have eB : up (up (up (up A 11 (A 11 + (k + hd - 1))) 8 (wI ρ A (k + hd - 1).toNat 0)) 9 (wI ρ A (k + hd - 1).toNat 1)) 10 (wI ρ A (k + hd - 1).toNat 2) = wB A w' := by
        funext j
        by_cases h8 : j = 8
        · subst h8; rw [up_ne (by decide), up_ne (by decide), up_at, wB_8]; rfl
        by_cases h9 : j = 9
        · subst h9; rw [up_ne (by decide), up_at, wB_9]; rfl
        by_cases h10 : j = 10
        · subst h10; rw [up_at, wB_10]; rfl
        by_cases h11 : j = 11
        · subst h11; rw [up_ne (by decide), up_ne (by decide), up_ne (by decide), up_at, wB_11]; rfl
        rw [up_ne h10, up_ne h9, up_ne h8, up_ne h11]
        by_cases h12 : j = 12
        · subst h12; rw [wB_12]; rfl
        · rw [wB_out (by omega)]
      rw [eB]
      have s65 : setA N 65 (wB A w') 65 = wB A w' := setA_at _ _ _
      have v2 : wB A w' 2 = A 2 := wB_out (by omega)
      have v8 : wB A w' 8 = wI ρ A (k + hd - 1).toNat 0 := wB_8 A w'
      have v9 : wB A w' 9 = wI ρ A (k + hd - 1).toNat 1 := wB_9 A w'
      have v10 : wB A w' 10 = wI ρ A (k + hd - 1).toNat 2 := wB_10 A w'
      have v11 : wB A w' 11 = A 11 + (k + hd - 1) := wB_11 A w'
      have vc : ∀ j, 0 ≤ j → j < 4 → wB A w' (20 + 7 * c + j) = A (20 + 7 * c + j) := fun j j0 j1 => wB_out (by omega)
      have m67 : setA N 65 (wB A w') 67 = M 67 := by rw [setA_ne (by decide), bne 67 (by decide)]
      have hR1 : rfR (setA N 65 (wB A w')) (setA N 65 (wB A w') 65 2) ρ := by rw [s65, v2]; exact rfR_of m67 (rho_rf hρ)
      -- behind the judgment: put back
      have fin : ∀ (N' : xM) (s0 : Int), offL (x_upd (setA N 65 (wB A w')) 64 34 (N' 64 34)) N' → s0 = (if vd ρ A c k hd = -1 then 0 else vd ρ A c k hd) → N' 64 34 = bi (vd ρ A c k hd ≠ -1) → xW Y_X10_isEnding g (d + 5) 0 0 173 [(0, vR (some 64))] [vI s0, vR (some 64)] (0, 0) (n, P, N') (kI n P F) := by
        intro N' s0 oN es eg
        have ne' : ∀ b, b ≠ 64 → ¬ (71 ≤ b ∧ b < 74) → b ≠ 65 → N' b = N b := fun b h1 h2 h3 => by
          rw [oN.1 b h1 h2]
          funext j
          rw [x_upd_nb h1, setA_ne h3]
        have n65 : x_upd N' 64 35 s0 65 = wB A w' := by
          funext j
          rw [x_upd_nb (by decide), oN.1 65 (by decide) (by decide), x_upd_nb (by decide), setA_at]
        refine b_X10_isEnding_173 hn hP (q_putBack hn hP n65 (fun i i0 i1 => ?_) (H _ ⟨fun b h1 h2 h3 => ?_, fun j h1 h2 h3 => ?_⟩ ?_ ?_))
        · rw [x_upd_nb (by decide), ne' 77 (by decide) (by decide) (by decide)]
          exact b77 i i0 i1
        · by_cases hb : b = 65
          · subst hb
            rw [setA_at, hA]
          · rw [setA_ne hb, ← bne b h2]
            funext j
            rw [x_upd_nb h1, ne' b h1 h3 hb]
        · rw [setA_ne (by decide), x_upd_nj h3, oN.2 j h1, x_upd_nj h2, setA_ne (by decide), bne 64 (by decide)]
        · rw [setA_ne (by decide), x_upd_nj (by decide)]
          exact eg
        · rw [setA_ne (by decide), x_upd_at]
          exact es
      refine q_isFound hn hP hR1 c8 (by rw [s65, vc 3 (by omega) (by omega)]; exact t3) (fun q q0 q1 => ?_) (fun N3 o3' => ⟨bi_or _, ?_⟩)
      · rw [s65, v11, v9, vc 0 (by omega) (by omega), vc 1 (by omega) (by omega)]
        exact okN_c2 (by omega) o1 (by omega) (by omega) (by omega) q0 q1
      rw [s65, v11, v8, v9, v10, vc 0 (by omega) (by omega), vc 1 (by omega) (by omega), vc 3 (by omega) (by omega)]
      have vr := vS1_r (ρ := ρ) (A := A) (c := c) (s := k) (hd := hd) (by omega) (by omega)
      have oU : ∀ b, offL (x_upd (setA N 65 (wB A w')) 64 34 b) (x_upd N3 64 34 b) := fun b => ⟨fun x h1 h2 => by
        rw [show x_upd N3 64 34 b x = N3 x by funext j; exact x_upd_nb h1, o3'.1 x h1 h2]
        funext j
        exact (x_upd_nb h1).symm, fun j hj => by
        by_cases h34 : j = 34
        · rw [h34, x_upd_at, x_upd_at]
        · rw [x_upd_nj h34, x_upd_nj h34, o3'.2 j hj]⟩
      by_cases hb : vJ1 ρ A c k hd
      · have hv : vd ρ A c k hd = vS1 ρ A c k hd := if_pos hb
        rw [bi_t hb]
        refine ⟨fun q => absurd q (by decide), fun _ => ?_⟩
        have u65 : x_upd N3 64 34 1 65 = wB A w' := by
          funext j
          rw [x_upd_nb (by decide), o3'.1 65 (by decide) (by decide), setA_at]
        have u67 : x_upd N3 64 34 1 67 = M 67 := by
          rw [← m67, ← o3'.1 67 (by decide) (by decide)]
          funext j
          exact x_upd_nb (by decide)
        refine q_sentenceOf hn hP (ρ := ρ) (by rw [u65, v2]; exact rfR_of u67 (rho_rf hρ)) c8 (by rw [u65, vc 1 (by omega) (by omega)]; omega) (by omega) ?_ (fun N4 o4' => ?_)
        · rw [u65, v11, v8, v9, vc 0 (by omega) (by omega), vc 1 (by omega) (by omega)]
          exact okN_s2 (by omega) o0 o1 (by omega) (by omega) (by omega)
        · rw [u65, v11, v8, v9, vc 0 (by omega) (by omega), vc 1 (by omega) (by omega)]
          have g34 : N4 64 34 = 1 := by rw [o4'.2 34 (by decide), x_upd_at]
          refine fin N4 _ ?_ ?_ ?_
          · rw [g34]
            exact ⟨fun x h1 h2 => (o4'.1 x h1 h2).trans ((oU 1).1 x h1 h2), fun j hj => (o4'.2 j hj).trans ((oU 1).2 j hj)⟩
          · rw [hv, if_neg (by omega)]
            rfl
          · rw [g34, bi_t (by rw [hv]; omega)]
      · have hv : vd ρ A c k hd = -1 := if_neg hb
        rw [bi_f hb]
        refine ⟨fun _ => ?_, fun q => absurd rfl q⟩
        have g34 : x_upd N3 64 34 0 64 34 = 0 := x_upd_at _ _ _ _
        refine fin _ 0 ?_ ?_ ?_
        · rw [g34]; exact oU 0
        · rw [if_pos hv]
        · rw [g34, bi_f (fun z => z hv)]
  have := loop hd.toNat 0 (by omega)
  rw [show k + ((0 : Nat) : Int) = k by omega] at this
  exact this
end Ends2
