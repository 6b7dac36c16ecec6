/-! games of delays -/
def gW (ρ : Option xTx) (A : Int → Int) (c : Int) : Int → Int := fun e => if eO ρ A c 0 e < 0 then 0 else 100000 + eO ρ A c 0 e
def gB (a : Int) (w : Int → Int) (e : Int) : Int := if a = 0 then (if w e ≤ w (e + 1) then 0 else 1) else (if w (e + 1) ≤ w e then 0 else 1)
def gr (a : Int) (w : Int → Int) : Int → Int := fun e => if (0 ≤ e ∧ e < 3) ∧ ¬ gB a w e = 0 then w (e + 1) else w e
def gA (a : Int) (i : Nat) : Int := if (if (i + 1) % 2 = 0 then (1 : Int) else 0) = a then 1 else 0
def gR (a : Int) (w : Int → Int) : Nat → Int → Int
  | 0 => w
  | i + 1 => gr (gA a i) (gR a w i)
theorem gW_r {ρ : Option xTx} {A : Int → Int} (h : oka A) {c : Int} (hc : 0 ≤ c ∧ c < A 0) (e : Int) (he : 0 ≤ e ∧ e ≤ 3) : 0 ≤ gW ρ A c e ∧ gW ρ A c e ≤ 200000 := by
  have := eO_r (ρ := ρ) h hc (k := 0) he
  unfold gW
  split <;> omega
theorem gR_r {a : Int} {w : Int → Int} (hw : ∀ e, 0 ≤ e → e ≤ 3 → 0 ≤ w e ∧ w e ≤ 200000) : ∀ (i : Nat) (e : Int), 0 ≤ e → e ≤ 3 → 0 ≤ gR a w i e ∧ gR a w i e ≤ 200000
  | 0, e, e0, e1 => hw e e0 e1
  | i + 1, e, e0, e1 => by
    show 0 ≤ gr (gA a i) (gR a w i) e ∧ gr (gA a i) (gR a w i) e ≤ 200000
    unfold gr
    split
    · next hh => exact gR_r hw i (e + 1) (by omega) (by omega)
    · exact gR_r hw i e e0 e1
theorem gB_or (a : Int) (w : Int → Int) (e : Int) : gB a w e = 0 ∨ gB a w e = 1 := by
  unfold gB
  split <;> split <;> first | exact Or.inl rfl | exact Or.inr rfl
theorem gA_or (a : Int) (i : Nat) : gA a i = 0 ∨ gA a i = 1 := by
  unfold gA
  by_cases h : (if (i + 1) % 2 = 0 then (1 : Int) else 0) = a
  · rw [if_pos h]; exact Or.inr rfl
  · rw [if_neg h]; exact Or.inl rfl
section Game
variable {g : Option Nat} {d n : Nat} {P : xP} {M : xM} {F : xM → Int → Prop} {G : xM → Prop}
theorem k_duel (hn : 82 ≤ n) (hP : x_PP P) {A : Int → Int} {o : Option Nat} {ρ : Option xTx} {c a : Int} (h : relC A (CC M)) (hR : clR n P M o ρ) (hw : wC ρ A (ls A (A (20 + 7 * c + 2) + 3)) M) (h2 : M 15 2 = x_enc o) (hc : 0 ≤ c ∧ c < A 0) (H : ∀ M', offC M M' → (∀ c, 1 ≤ c → c < 12 → M' c = M c) → F M' (2 * gR a (gW ρ A c) 6 0 + gB (gA a 5) (gR a (gW ρ A c) 5) 0)) : xCI Y_X1_duel g (d + 5) [vR (some 15), vI c, vI a] n P M F := by
  have a0 : A 0 = M 4 1 := h.1.1
  have hm := h.2.2.2.1.1
  have ok : oka A := ⟨_, h⟩
  obtain ⟨c8, t0, t1, t2, t3⟩ := oka_told ok hc
  obtain ⟨k0, k1, k2, k3⟩ := relC_told h hc
  have gr0 : ∀ (i : Nat) (e : Int), 0 ≤ e → e ≤ 3 → _ := fun i e e0 e1 => gR_r (a := a) (w := gW ρ A c) (fun e e0 e1 => gW_r ok hc e ⟨e0, e1⟩) i e e0 e1
  generalize hw0 : gW ρ A c = w at *
  -- all but the cell of worths stands
  let st : xM → Prop := fun N => ∀ b, b < 12 ∨ 14 < b → b ≠ 23 → N b = M b
  have stC : ∀ N, st N → offC M N := fun N s b h1 h2 => s b (by omega) (by omega)
  have stk : ∀ N, st N → (∀ c, 1 ≤ c → c < 12 → N c = M c) := fun N s b b0 b1 => s b (by omega) (by omega)
  -- the turns
  have turn : ∀ (i : Nat), i < 6 → (∀ N, st N → (∀ e, 0 ≤ e → e < 4 → N 23 e = gR a w (i + 1) e) → xW Y_X1_duel g (d + 5) 0 0 60 [(0, vR (some 15)), (2, vI a), (3, vI (gB (gA a i) (gR a w i) 0)), (4, vI (5 - ((i + 1 : Nat) : Int)))] [] (0, 0) (n, P, N) (kI n P F)) → ∀ (x5 : Int), x5 = gA a i → ∀ (m : Nat) (e : Int), 0 ≤ e → e + m = 3 → ∀ N x3, st N → (∀ j, 0 ≤ j → j < 4 → N 23 j = if j < e then gR a w (i + 1) j else gR a w i j) → (e ≠ 0 → x3 = gB (gA a i) (gR a w i) 0) → xW Y_X1_duel g (d + 5) 0 0 91 [(0, vR (some 15)), (2, vI a), (3, vI x3), (4, vI (5 - (i : Int))), (5, vI x5), (6, vI e)] [] (0, 0) (n, P, N) (kI n P F) := by
    intro i hi nx x5 h5 m
    induction m with
    | zero =>
      intro e e0 he N x3 sN hN hx
      rw [hx (by omega)]
      refine b_X1_duel_91 hn hP ⟨fun _ => ⟨by unfold inR; omega, ?_⟩, fun z => absurd z (by omega)⟩
      rw [show 5 - (i : Int) + -1 = 5 - ((i + 1 : Nat) : Int) by omega]
      refine nx N sN (fun j j0 j1 => ?_)
      rw [hN j j0 j1]
      by_cases hj : j < e
      · rw [if_pos hj]
      · rw [if_neg hj]
        show gR a w i j = gr (gA a i) (gR a w i) j
        unfold gr
        rw [if_neg (by omega)]
    | succ m ih =>
      intro e e0 he N x3 sN hN hx
      have v0 : N 23 e = gR a w i e := by rw [hN e e0 (by omega), if_neg (by omega)]
      have v1 : N 23 (e + 1) = gR a w i (e + 1) := by rw [hN (e + 1) (by omega) (by omega), if_neg (by omega)]
      -- the choice being made
      have next : ∀ b, b = gB (gA a i) (gR a w i) e → xW Y_X1_duel g (d + 5) 0 0 153 [(0, vR (some 15)), (2, vI a), (3, vI x3), (4, vI (5 - (i : Int))), (5, vI x5), (6, vI e)] [vI b] (0, 0) (n, P, N) (kI n P F) := by
        intro b hb
        have w197 : ∀ s0 v, v = gR a w (i + 1) e → s0 = gB (gA a i) (gR a w i) 0 → xW Y_X1_duel g (d + 5) 0 0 197 [(0, vR (some 15)), (2, vI a), (3, vI s0), (4, vI (5 - (i : Int))), (5, vI x5), (6, vI e)] [vI v, vI e, vR (some 23)] (0, 0) (n, P, N) (kI n P F) := by
          intro s0 v hv hs
          refine b_X1_duel_197 hn hP ⟨by omega, by unfold inR; omega, ih (e + 1) (by omega) (by omega) _ s0 (fun b' hb' h23 => ?_) (fun j j0 j1 => ?_) (fun _ => hs)⟩
          · rw [← sN b' hb' h23]
            funext j
            exact x_upd_nb h23
          · by_cases hj : j = e
            · rw [hj, x_upd_at, if_pos (by omega), hv]
            · rw [x_upd_nj hj, hN j j0 j1]
              by_cases hl : j < e
              · rw [if_pos hl, if_pos (by omega)]
              · rw [if_neg hl, if_neg (by omega)]
        have w166 : ∀ s0, s0 = gB (gA a i) (gR a w i) 0 → xW Y_X1_duel g (d + 5) 0 0 166 [(0, vR (some 15)), (2, vI a), (4, vI (5 - (i : Int))), (5, vI x5), (6, vI e), (7, vI b)] [vI s0] (0, 0) (n, P, N) (kI n P F) := by
          intro s0 hs
          refine b_X1_duel_166 hn hP ⟨fun hz => ⟨by omega, w197 s0 _ ?_ hs⟩, fun hz => ⟨by unfold inR; omega, by omega, w197 s0 _ ?_ hs⟩⟩
          · rw [v0]
            show _ = gr (gA a i) (gR a w i) e
            unfold gr
            rw [if_neg (fun z => z.2 (hb.symm.trans hz))]
          · rw [v1]
            show _ = gr (gA a i) (gR a w i) e
            unfold gr
            rw [if_pos ⟨by omega, fun z => hz (hb.trans z)⟩]
        exact b_X1_duel_153 hn hP ⟨fun hz => w166 x3 (hx hz), fun hz => w166 b (by rw [hb, hz])⟩
      have ga := gA_or a i
      refine b_X1_duel_91 hn hP ⟨fun z => absurd z (by omega), fun _ => ⟨fun hz => ⟨by unfold inR; omega, by omega, by omega, ?_⟩, fun hz => ⟨by unfold inR; omega, by omega, by omega, ?_⟩⟩⟩
      · rw [v0, v1]
        refine ⟨fun hl => next 0 ?_, fun hl => next 1 ?_⟩
        · unfold gB; rw [if_pos (h5.symm.trans hz), if_pos hl]
        · unfold gB; rw [if_pos (h5.symm.trans hz), if_neg hl]
      · rw [v0, v1]
        refine ⟨fun hl => next 0 ?_, fun hl => next 1 ?_⟩
        · unfold gB; rw [if_neg (fun q => hz (h5.trans q)), if_pos hl]
        · unfold gB; rw [if_neg (fun q => hz (h5.trans q)), if_neg hl]
  have turns : ∀ (m i : Nat), i + m = 6 → ∀ N x3, st N → (∀ e, 0 ≤ e → e < 4 → N 23 e = gR a w i e) → (i = 6 → x3 = gB (gA a 5) (gR a w 5) 0) → xW Y_X1_duel g (d + 5) 0 0 60 [(0, vR (some 15)), (2, vI a), (3, vI x3), (4, vI (5 - (i : Int)))] [] (0, 0) (n, P, N) (kI n P F) := by
    intro m
    induction m with
    | zero =>
      intro i hi N x3 sN hN hx
      have hi6 : i = 6 := by omega
      subst hi6
      have r6 := gr0 6 0 (by omega) (by omega)
      have bo := gB_or (gA a 5) (gR a w 5) 0
      have HH := H N (stC N sN) (stk N sN)
      rw [← hx rfl] at HH bo
      refine b_X1_duel_60 hn hP ⟨fun _ => ?_, fun z => absurd z (by omega)⟩
      rw [hN 0 (by omega) (by omega)]
      refine ⟨by unfold inR; omega, fun hz => ⟨by unfold inR; omega, ?_⟩, fun hz => ⟨by unfold inR; omega, ?_⟩⟩
      · rwa [hz] at HH
      · rwa [show x3 = 1 by omega] at HH
    | succ m ih =>
      intro i hi N x3 sN hN hx
      have nx : ∀ N, st N → (∀ e, 0 ≤ e → e < 4 → N 23 e = gR a w (i + 1) e) → xW Y_X1_duel g (d + 5) 0 0 60 [(0, vR (some 15)), (2, vI a), (3, vI (gB (gA a i) (gR a w i) 0)), (4, vI (5 - ((i + 1 : Nat) : Int)))] [] (0, 0) (n, P, N) (kI n P F) := fun N sN hN => ih (i + 1) (by omega) N _ sN hN (fun q => by rw [show i = 5 by omega])
      have tm : (5 - (i : Int)).tmod 2 = (5 - (i : Int)) % 2 := Int.tmod_eq_emod_of_nonneg (by omega)
      have go : ∀ s0, s0 = (if (i + 1) % 2 = 0 then (1 : Int) else 0) → xW Y_X1_duel g (d + 5) 0 0 77 [(0, vR (some 15)), (2, vI a), (3, vI x3), (4, vI (5 - (i : Int)))] [vI s0] (0, 0) (n, P, N) (kI n P F) := by
        intro s0 hs
        have start : ∀ x5, x5 = gA a i → xW Y_X1_duel g (d + 5) 0 0 86 [(0, vR (some 15)), (2, vI a), (3, vI x3), (4, vI (5 - (i : Int)))] [vI x5] (0, 0) (n, P, N) (kI n P F) := fun x5 h5 => b_X1_duel_86 hn hP (turn i (by omega) nx x5 h5 3 0 (by omega) (by omega) N x3 sN (fun j j0 j1 => by rw [if_neg (by omega)]; exact hN j j0 j1) (fun z => absurd rfl z))
        refine b_X1_duel_77 hn hP ⟨fun hz => start 0 ?_, fun hz => start 1 ?_⟩
        · unfold gA; rw [← hs, if_neg hz]
        · unfold gA; rw [← hs, if_pos hz]
      refine b_X1_duel_60 hn hP ⟨fun z => absurd z (by omega), fun _ => ?_⟩
      rw [tm]
      refine ⟨fun hz => go 0 ?_, fun hz => go 1 ?_⟩
      · rw [if_neg (by omega)]
      · rw [if_pos (by omega)]
  -- the worths
  have fill : ∀ (m : Nat) (e : Int), 0 ≤ e → e + m = 4 → ∀ N, st N → (∀ j, 0 ≤ j → j < e → N 23 j = w j) → xW Y_X1_duel g (d + 5) 0 0 2 [(0, vR (some 15)), (1, vI c), (2, vI a), (3, vI e)] [] (0, 0) (n, P, N) (kI n P F) := by
    intro m
    induction m with
    | zero =>
      intro e e0 he N sN hN
      exact b_X1_duel_2 hn hP ⟨fun _ => turns 6 0 (by omega) N 0 sN (fun j j0 j1 => hN j j0 (by omega)) (fun q => absurd q (by decide)), fun z => absurd z (by omega)⟩
    | succ m ih =>
      intro e e0 he N sN hN
      have rN := relC_same h (stk N sN)
      have n0 : N 4 1 = M 4 1 := by rw [sN 4 (by omega) (by omega)]
      have n5 : N (4 + 1) (4 * c + 2) = A (20 + 7 * c + 2) := by rw [sN (4 + 1) (by omega) (by omega)]; exact k2.symm
      refine b_X1_duel_2 hn hP ⟨fun z => absurd z (by omega), fun _ => c_X5_at hn hP (x_rows4 hn hP) (by omega) (by omega) (by omega) ?_⟩
      rw [n5]
      have hwN : wC ρ A (ls A (A (20 + 7 * c + 2) + 3)) N := by
        unfold wC at *
        rw [sN 15 (by omega) (by omega), sN 16 (by omega) (by omega), sN 17 (by omega) (by omega), sN 18 (by omega) (by omega)]
        exact hw
      refine ⟨by unfold inR; omega, k_eO hn hP rN (clR_C (stC N sN) hR) hwN (by rw [sN 15 (by omega) (by omega)]; exact h2) (by omega) hc (by omega) (by omega) (fun N2 o2 => ?_)⟩
      have s2 : st N2 := fun b hb h23 => (o2 b hb).trans (sN b hb h23)
      have er := eO_r (ρ := ρ) ok hc (k := 0) (e := e) (by omega)
      have store : ∀ v, v = w e → xW Y_X1_duel g (d + 5) 0 0 48 [(0, vR (some 15)), (1, vI c), (2, vI a), (3, vI e)] [vI v, vI e, vR (some 23)] (0, 0) (n, P, N2) (kI n P F) := by
        intro v hv
        refine b_X1_duel_48 hn hP ⟨by omega, by unfold inR; omega, ih (e + 1) (by omega) (by omega) _ (fun b hb h23 => ?_) (fun j j0 j1 => ?_)⟩
        · rw [← s2 b hb h23]
          funext j
          exact x_upd_nb h23
        · by_cases hj : j = e
          · rw [hj, x_upd_at, hv]
          · rw [x_upd_nj hj, o2 23 (by omega)]
            exact hN j j0 (by omega)
      refine ⟨fun hz => store 0 ?_, fun hz => ⟨by unfold inR; omega, store _ ?_⟩⟩
      · rw [← hw0]; unfold gW; rw [if_pos hz]
      · rw [← hw0]; unfold gW; rw [if_neg hz]
  exact b_X1_duel hn hP (fill 4 0 (by omega) (by omega) M (fun _ _ _ => rfl) (fun j j0 j1 => absurd j1 (by omega)))
theorem q_game (hn : 82 ≤ n) (hP : x_PP P) {ρ : Option xTx} {c a b : Int} (ha : a = 0 ∨ a = 1) (hρ : rho M (M 65 2) ρ) (h : oka (M 65)) (H0 : ¬ wt (M 65) c → F M (-1)) (H1 : wt (M 65) c → ∀ M', offR M M' → M' 65 = M 65 → F M' (if b = 0 then gR a (gW ρ (M 65) c) 6 0 else gB (gA a 5) (gR a (gW ρ (M 65) c) 5) 0)) : xCI Y_X10_game g (d + 6) [vR (some 64), vI c, vI a, vI b] n P M F := by
  refine b_X10_game hn hP (q_isWaiting hn hP h ⟨fun hz => ?_, fun hz => H0 (bi_0.mp hz)⟩)
  have hc := bi_n0.mp hz
  refine q_layWinds hn hP hρ h (by omega) (fun M1 o1 e1 w1 => ?_)
  have H := H1 hc
  generalize hA : M 65 = A at *
  obtain ⟨c8, t0, t1, t2, t3⟩ := oka_told h hc.1
  have gr0 : ∀ (i : Nat) (e : Int), 0 ≤ e → e ≤ 3 → _ := fun i e e0 e1 => gR_r (a := a) (w := gW ρ A c) (fun e e0 e1 => gW_r h hc.1 e ⟨e0, e1⟩) i e e0 e1
  generalize hw0 : gW ρ A c = w at *
  let st : xM → Prop := fun N => offR M N ∧ N 65 = A ∧ wR ρ A (lz A 40) N
  have stU : ∀ N i v, st N → st (x_upd N 78 i v) := fun N i v s => ⟨offR_upd s.1 (by omega), by rw [← s.2.1]; funext j; exact x_upd_nb (by decide), fun k k0 k1 => by rw [x_upd_nb (by decide), x_upd_nb (by decide), x_upd_nb (by decide)]; exact s.2.2 k k0 k1⟩
  -- a row from the one before it
  have row : ∀ (i : Nat), i < 6 → (∀ N, st N → (∀ r : Nat, r ≤ i + 1 → ∀ e, 0 ≤ e → e < 4 → N 78 (4 * r + e) = gR a w r e) → xW Y_X10_game g (d + 6) 0 0 72 [(0, vR (some 64)), (2, vI a), (3, vI b), (4, vI ((i + 1 : Nat) + 1 : Int))] [] (0, 0) (n, P, N) (kI n P F)) → ∀ (m : Nat) (e : Int), 0 ≤ e → e + m = 4 → ∀ N, st N → (∀ r : Nat, r ≤ i → ∀ e, 0 ≤ e → e < 4 → N 78 (4 * r + e) = gR a w r e) → (∀ j, 0 ≤ j → j < e → N 78 (4 * (i + 1 : Nat) + j) = gR a w (i + 1) j) → xW Y_X10_game g (d + 6) 0 0 105 [(0, vR (some 64)), (2, vI a), (3, vI b), (4, vI ((i + 1 : Nat) : Int)), (5, vI (gA a i)), (6, vI e)] [] (0, 0) (n, P, N) (kI n P F) := by
    intro i hi nx m
    induction m with
    | zero =>
      intro e e0 he N sN hN hR
      refine b_X10_game_105 hn hP ⟨fun _ => ⟨by unfold inR; omega, nx N sN (fun r hr j j0 j1 => ?_)⟩, fun z => absurd z (by omega)⟩
      by_cases hri : r = i + 1
      · subst hri
        exact hR j j0 (by omega)
      · exact hN r (by omega) j j0 j1
    | succ m ih =>
      intro e e0 he N sN hN hR
      have v0 : N 78 (4 * (((i + 1 : Nat) : Int) - 1) + e) = gR a w i e := by
        rw [show 4 * (((i + 1 : Nat) : Int) - 1) + e = 4 * (i : Int) + e by omega]
        exact hN i (by omega) e e0 (by omega)
      have store : ∀ v, v = gR a w (i + 1) e → xW Y_X10_game g (d + 6) 0 0 213 [(0, vR (some 64)), (2, vI a), (3, vI b), (4, vI ((i + 1 : Nat) : Int)), (5, vI (gA a i)), (6, vI e)] [vI v, vI (4 * ((i + 1 : Nat) : Int) + e), vR (some 78)] (0, 0) (n, P, N) (kI n P F) := by
        intro v hv
        refine b_X10_game_213 hn hP ⟨by omega, by unfold inR; omega, ih (e + 1) (by omega) (by omega) _ (stU N _ _ sN) (fun r hr j j0 j1 => ?_) (fun j j0 j1 => ?_)⟩
        · rw [x_upd_nj (by omega)]
          exact hN r hr j j0 j1
        · by_cases hj : j = e
          · rw [hj, x_upd_at, hv]
          · rw [x_upd_nj (by omega)]
            exact hR j j0 (by omega)
      have pick : ∀ s0 t, (e = 3 → t = gR a w i e) → (e < 3 → t = gR a w i (e + 1)) → s0 = (if gA a i = 0 then (if gR a w i e ≤ t then 0 else 1) else (if t ≤ gR a w i e then 0 else 1)) → xW Y_X10_game g (d + 6) 0 0 188 [(0, vR (some 64)), (2, vI a), (3, vI b), (4, vI ((i + 1 : Nat) : Int)), (5, vI (gA a i)), (6, vI e), (7, vI (gR a w i e)), (8, vI t)] [vI s0] (0, 0) (n, P, N) (kI n P F) := by
        intro s0 t ht1 ht2 hs
        refine b_X10_game_188 hn hP ⟨by unfold inR; omega, by unfold inR; omega, fun hz => store _ ?_, fun hz => store _ ?_⟩
        · show _ = gr (gA a i) (gR a w i) e
          unfold gr
          by_cases h3 : e < 3
          · rw [if_neg]
            intro z
            apply z.2
            unfold gB
            rw [← ht2 h3, ← hs, hz]
          · rw [if_neg (fun z => h3 z.1.2)]
        · show _ = gr (gA a i) (gR a w i) e
          unfold gr
          by_cases h3 : e < 3
          · rw [if_pos, ht2 h3]
            refine ⟨⟨e0, h3⟩, fun z => hz ?_⟩
            unfold gB at z
            rw [hs, ht2 h3, z]
          · exfalso
            apply hz
            rw [hs, ht1 (by omega)]
            split <;> rw [if_pos (Int.le_refl _)]
      have ga := gA_or a i
      have w154 : ∀ t, (e = 3 → t = gR a w i e) → (e < 3 → t = gR a w i (e + 1)) → xW Y_X10_game g (d + 6) 0 0 154 [(0, vR (some 64)), (2, vI a), (3, vI b), (4, vI ((i + 1 : Nat) : Int)), (5, vI (gA a i)), (6, vI e), (7, vI (gR a w i e))] [vI t] (0, 0) (n, P, N) (kI n P F) := fun t ht1 ht2 => b_X10_game_154 hn hP ⟨fun hz => ⟨fun hl => pick 0 t ht1 ht2 (by rw [if_pos hz, if_pos hl]), fun hl => pick 1 t ht1 ht2 (by rw [if_pos hz, if_neg hl])⟩, fun hz => ⟨fun hl => pick 0 t ht1 ht2 (by rw [if_neg hz, if_pos hl]), fun hl => pick 1 t ht1 ht2 (by rw [if_neg hz, if_neg hl])⟩⟩
      refine b_X10_game_105 hn hP ⟨fun z => absurd z (by omega), fun _ => ⟨by unfold inR; omega, by unfold inR; omega, by unfold inR; omega, by omega, ?_⟩⟩
      rw [v0]
      refine ⟨fun h3 => w154 _ (fun _ => rfl) (fun z => absurd z (by omega)), fun h3 => ⟨by unfold inR; omega, by unfold inR; omega, by unfold inR; omega, by unfold inR; omega, by omega, w154 _ (fun z => absurd z (by omega)) (fun _ => ?_)⟩⟩
      rw [show 4 * (((i + 1 : Nat) : Int) - 1) + e + 1 = 4 * (i : Int) + (e + 1) by omega]
      exact hN i (by omega) (e + 1) (by omega) (by omega)
  have rows : ∀ (m i : Nat), i + m = 6 → ∀ N, st N → (∀ r : Nat, r ≤ i → ∀ e, 0 ≤ e → e < 4 → N 78 (4 * r + e) = gR a w r e) → xW Y_X10_game g (d + 6) 0 0 72 [(0, vR (some 64)), (2, vI a), (3, vI b), (4, vI ((i : Int) + 1))] [] (0, 0) (n, P, N) (kI n P F) := by
    intro m
    induction m with
    | zero =>
      intro i hi N sN hN
      have hi6 : i = 6 := by omega
      subst hi6
      have HH := H N sN.1 sN.2.1
      have v20 : N 78 20 = gR a w 5 0 := hN 5 (by omega) 0 (by omega) (by omega)
      have v21 : N 78 21 = gR a w 5 (0 + 1) := hN 5 (by omega) 1 (by omega) (by omega)
      have v24 : N 78 24 = gR a w 6 0 := hN 6 (by omega) 0 (by omega) (by omega)
      have ga : gA a 5 = a := by
        unfold gA
        rcases ha with rfl | rfl
        · decide
        · decide
      refine b_X10_game_72 hn hP ⟨fun _ => ?_, fun z => absurd z (by omega)⟩
      rw [v20, v21, v24]
      refine ⟨fun hb => ⟨fun h0 => ⟨fun hl => ?_, fun hl => ?_⟩, fun h0 => ⟨fun hl => ?_, fun hl => ?_⟩⟩, fun hb => ?_⟩
      · rw [if_neg hb, ga] at HH
        unfold gB at HH
        rwa [if_pos h0, if_pos hl] at HH
      · rw [if_neg hb, ga] at HH
        unfold gB at HH
        rwa [if_pos h0, if_neg hl] at HH
      · rw [if_neg hb, ga] at HH
        unfold gB at HH
        rwa [if_neg h0, if_pos hl] at HH
      · rw [if_neg hb, ga] at HH
        unfold gB at HH
        rwa [if_neg h0, if_neg hl] at HH
      · rwa [if_pos hb] at HH
    | succ m ih =>
      intro i hi N sN hN
      have start : ∀ x5, x5 = gA a i → xW Y_X10_game g (d + 6) 0 0 100 [(0, vR (some 64)), (2, vI a), (3, vI b), (4, vI ((i : Int) + 1))] [vI x5] (0, 0) (n, P, N) (kI n P F) := fun x5 h5 => by
        subst h5
        refine b_X10_game_100 hn hP ?_
        have := row i (by omega) (fun N s hN => ih (i + 1) (by omega) N s hN) 4 0 (by omega) (by omega) N sN hN (fun j j0 j1 => absurd j1 (by omega))
        rw [show (((i + 1 : Nat) : Nat) : Int) = (i : Int) + 1 by omega] at this
        exact this
      have tm : ((i : Int) + 1).tmod 2 = ((i : Int) + 1) % 2 := Int.tmod_eq_emod_of_nonneg (by omega)
      have go : ∀ s0, s0 = (if (i + 1) % 2 = 0 then (1 : Int) else 0) → xW Y_X10_game g (d + 6) 0 0 91 [(0, vR (some 64)), (2, vI a), (3, vI b), (4, vI ((i : Int) + 1))] [vI s0] (0, 0) (n, P, N) (kI n P F) := by
        intro s0 hs
        refine b_X10_game_91 hn hP ⟨fun hz => start 0 ?_, fun hz => start 1 ?_⟩
        · unfold gA; rw [← hs, if_neg hz]
        · unfold gA; rw [← hs, if_pos hz]
      refine b_X10_game_72 hn hP ⟨fun z => absurd z (by omega), fun _ => ?_⟩
      rw [tm]
      refine ⟨fun hz => go 0 ?_, fun hz => go 1 ?_⟩
      · rw [if_neg (by omega)]
      · rw [if_pos (by omega)]
  have fill : ∀ (m : Nat) (e : Int), 0 ≤ e → e + m = 4 → ∀ N, st N → (∀ j, 0 ≤ j → j < e → N 78 j = w j) → xW Y_X10_game g (d + 6) 0 0 20 [(0, vR (some 64)), (1, vI c), (2, vI a), (3, vI b), (4, vI e)] [] (0, 0) (n, P, N) (kI n P F) := by
    intro m
    induction m with
    | zero =>
      intro e e0 he N sN hN
      refine b_X10_game_20 hn hP ⟨fun _ => ?_, fun z => absurd z (by omega)⟩
      have := rows 6 0 (by omega) N sN (fun r hr j j0 j1 => by
        have : r = 0 := by omega
        subst this
        rw [show 4 * ((0 : Nat) : Int) + j = j by omega]
        exact hN j j0 (by omega))
      exact this
    | succ m ih =>
      intro e e0 he N sN hN
      have n65 := sN.2.1
      have store : ∀ N2 v, st N2 → N2 78 = N 78 → v = w e → xW Y_X10_game g (d + 6) 0 0 62 [(0, vR (some 64)), (1, vI c), (2, vI a), (3, vI b), (4, vI e)] [vI v, vI e, vR (some 78)] (0, 0) (n, P, N2) (kI n P F) := by
        intro N2 v s2 h78 hv
        refine b_X10_game_62 hn hP ⟨by omega, by unfold inR; omega, ih (e + 1) (by omega) (by omega) _ (stU N2 _ _ s2) (fun j j0 j1 => ?_)⟩
        by_cases hj : j = e
        · rw [hj, x_upd_at, hv]
        · rw [x_upd_nj hj, h78]
          exact hN j j0 (by omega)
      have er := eO_r (ρ := ρ) h hc.1 (k := 0) (e := e) (by omega)
      refine b_X10_game_20 hn hP ⟨fun z => absurd z (by omega), fun _ => ?_⟩
      have hwN : wR ρ (N 65) (lz (N 65) 40) N := by rw [n65]; exact sN.2.2
      refine q_eO hn hP (ρ := ρ) (by rw [n65]; exact rho_R sN.1 hρ) (by rw [n65]; exact h) hwN (by rw [n65]; exact hc.1) (by omega) (fun hq => ⟨fun _ => b_X10_game_61 hn hP (store N 0 sN rfl ?_), fun z => absurd rfl z⟩) (fun hq N2 o2 g1 g2 => ⟨fun z => absurd z (by decide), fun _ => ?_⟩)
      · rw [n65] at hq
        rw [← hw0]; unfold gW; rw [if_pos (by omega)]
      · rw [n65] at hq g1 g2
        have s2 : st N2 := ⟨offR_trans sN.1 (offE_R o2), (offE_65 o2).trans n65, wR_E o2 sN.2.2⟩
        have h78 := o2.1 78 (by decide) (by decide) (by decide)
        rw [g1, g2]
        refine ⟨fun hy => b_X10_game_61 hn hP (store N2 0 s2 h78 ?_), fun hy => ?_⟩
        · have : eO ρ A c 0 e = -1 := Decidable.not_not.mp (bi_0.mp hy)
          rw [← hw0]; unfold gW; rw [if_pos (by omega)]
        · have := bi_n0.mp hy
          rw [if_neg this]
          exact ⟨by unfold inR; omega, store N2 _ s2 h78 (by rw [← hw0]; unfold gW; rw [if_neg (by omega)])⟩
  exact fill 4 0 (by omega) (by omega) M1 ⟨o1, e1, w1⟩ (fun j j0 j1 => absurd j1 (by omega))
theorem op_game (hn : 82 ≤ n) (hP : x_PP P) {c a b : Int} (h : Rel M) (ha : a = 0 ∨ a = 1) : op2 n P Y_X9_game Y_X10_game (d + 100) [vI c, vI a, vI b] M := by
  obtain ⟨ρ, hρ⟩ := Rel_rul h
  have ok := Rel_oka h
  refine b_X9_game hn hP (k_isWaiting hn hP h.1 ⟨fun hz => ?_, fun hz => op_q h (offC_refl M) (fun _ _ _ => rfl) (fun F HF => q_game hn hP ha hρ ok (fun _ => HF M (offR_refl M) rfl) (fun z => absurd z (bi_0.mp hz)))⟩)
  have hc := bi_n0.mp hz
  have a0 : M 65 0 = M 4 1 := h.1.1.1
  have hm := h.1.2.2.2.1.1
  obtain ⟨c8, t0, t1, t2, t3⟩ := oka_told ok hc.1
  obtain ⟨k0, k1, k2, k3⟩ := relC_told h.1 hc.1
  refine k_ruling hn hP h.1 hρ (fun o ho => c_X5_at hn hP (x_rows4 hn hP) (by omega) (by omega) (by omega) ?_)
  rw [show M (4 + 1) (4 * c + 2) = M 65 (20 + 7 * c + 2) from k2.symm]
  refine ⟨by unfold inR; omega, k_look hn hP h.1 ho (by omega) (fun M1 o1 e1 q1 hw => k_duel hn hP (relC_same h.1 e1) (clR_C o1 ho) hw q1 hc.1 (fun M2 o2 e2 => ?_))⟩
  have o12 := offC_trans o1 o2
  have e65 := offC_65 o12
  have r6 := gR_r (a := a) (w := gW ρ (M 65) c) (fun e e0 e1 => gW_r ok hc.1 e ⟨e0, e1⟩) 6 0 (by omega) (by omega)
  have bo := gB_or (gA a 5) (gR a (gW ρ (M 65) c) 5) 0
  have ref : ∀ z, z = (if b = 0 then gR a (gW ρ (M 65) c) 6 0 else gB (gA a 5) (gR a (gW ρ (M 65) c) 5) 0) → xCI Y_X10_game none (d + 100) [vR (some 64), vI c, vI a, vI b] n P M2 (fun M2 z2 => z2 = z ∧ Rel M2) := fun z hz' => op_q h o12 (fun c c0 c1 => (e2 c c0 c1).trans (e1 c c0 c1)) (fun F HF => q_game (ρ := ρ) hn hP ha (by rw [e65]; exact rho_C o12 hρ) (by rw [e65]; exact ok) (fun q => absurd (by rw [e65]; exact hc) q) (fun _ M' o' e' => by rw [e65, ← hz']; exact HF M' o' e'))
  rw [Int.tdiv_eq_ediv_of_nonneg (by omega), Int.tmod_eq_emod_of_nonneg (by omega)]
  refine ⟨fun hb => ⟨by unfold inR; omega, ref _ ?_⟩, fun hb => ref _ ?_⟩
  · rw [if_pos hb]; omega
  · rw [if_neg hb]; omega
end Game
