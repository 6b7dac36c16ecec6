/-! the law that rules: a text's, or what is so without one -/
def cutI (z lo hi : Int) : Int := if z < lo then lo else if hi < z then hi else z
def lw (ρ : Option xTx) (κ : Int) (nm : Int → Int) (fs : Int) : Option Int := ρ.bind (fun T => evl T κ nm fs)
def okR (ρ : Option xTx) : Prop := ∀ T, ρ = some T → okT T
def up (nm : Int → Int) (i v : Int) : Int → Int := fun j => if j = i then v else nm j
theorem up_at (nm : Int → Int) (i v : Int) : up nm i v i = v := if_pos rfl
theorem up_ne {nm : Int → Int} {i j v : Int} (h : j ≠ i) : up nm i v j = nm j := if_neg h
def gui (ρ : Option xTx) (q : Int) (nm : Int → Int) (fs : Int) : Int := (lw ρ q nm fs).getD (bi (q < nm 5 ∧ x_and fs 1 = 1))
def veer (ρ : Option xTx) (nm : Int → Int) : Int := ((lw ρ 4 nm 0).map (fun z => cutI z (-3) 3)).getD (if nm 3 = 0 then 1 else if nm 3 = 1 then -1 else 0)
def blow (ρ : Option xTx) (nm : Int → Int) : Int := ((lw ρ 5 nm 0).map (fun z => cutI z 0 9)).getD (nm 3)
def fogg (ρ : Option xTx) (nm : Int → Int) : Int := (lw ρ 6 nm 0).getD (bi (nm 2 < 2 ∧ (nm 0).tmod 10 < 3))
def sent (ρ : Option xTx) (nm : Int → Int) : Int := ((lw ρ 7 nm 0).map (fun z => cutI z 0 999)).getD (nm 5 * nm 6)
theorem lw_some {T : xTx} {κ : Int} {nm : Int → Int} {fs : Int} : lw (some T) κ nm fs = evl T κ nm fs := Option.bind_some _ _
theorem lw_none {κ : Int} {nm : Int → Int} {fs : Int} : lw none κ nm fs = none := rfl
theorem lw_congr {ρ : Option xTx} (hR : okR ρ) {κ : Int} (hk : 0 ≤ κ ∧ κ < 8) {nm nm' : Int → Int} {fs fs' : Int} (h : ∀ v, al κ v → nm v = nm' v) (hf : κ < 4 → fs = fs') : lw ρ κ nm fs = lw ρ κ nm' fs' := by
  cases ρ with
  | none => rw [lw_none, lw_none]
  | some T => rw [lw_some, lw_some]; exact evl_congr (hR T rfl) hk h hf
theorem lw_truth {ρ : Option xTx} (hR : okR ρ) {κ : Int} (hk : 0 ≤ κ ∧ κ < 8) (hb : κ < 4 ∨ κ = 6) {nm : Int → Int} (hN : okN κ nm) {fs z : Int} (e : lw ρ κ nm fs = some z) : z = 0 ∨ z = 1 := by
  cases ρ with
  | none => cases e
  | some T => rw [lw_some] at e; exact evl_truth (hR T rfl) hk hb hN e
/-- the class's law cells: facts, names, stack -/
def Lw (M : xM) (nm st : Int → Int) (fs : Int) : xM := setA (setA (x_upd M 12 1 fs) 13 nm) 14 st
theorem Lw_13 (M : xM) (nm st : Int → Int) (fs : Int) : Lw M nm st fs 13 = nm := by
  unfold Lw
  rw [setA_ne (by decide), setA_at]
theorem Lw_12 (M : xM) (nm st : Int → Int) (fs : Int) : Lw M nm st fs 12 1 = fs := by
  unfold Lw
  rw [setA_ne (by decide), setA_ne (by decide), x_upd_at]
theorem Lw_ne {M : xM} {nm st : Int → Int} {fs : Int} {c : Nat} (h1 : c ≠ 12) (h2 : c ≠ 13) (h3 : c ≠ 14) : Lw M nm st fs c = M c := by
  unfold Lw
  rw [setA_ne h3, setA_ne h2]
  funext j
  exact x_upd_nb h1
theorem Lw_14 (M : xM) (nm st f : Int → Int) (fs : Int) : setA (Lw M nm st fs) 14 f = Lw M nm f fs := setA_setA _ _ _ _
theorem Lw_u13 (M : xM) (nm st : Int → Int) (fs i v : Int) : x_upd (Lw M nm st fs) 13 i v = Lw M (up nm i v) st fs := by
  funext c j
  unfold Lw setA x_upd up
  dsimp only
  by_cases h14 : c = 14
  · rw [if_neg (by omega), if_pos h14, if_pos h14]
  · rw [if_neg h14, if_neg h14]
    by_cases h13 : c = 13
    · rw [if_pos h13, if_pos h13]
      by_cases hj : j = i
      · rw [if_pos ⟨h13, hj⟩, if_pos hj]
      · rw [if_neg (fun z => hj z.2), if_neg hj]
    · rw [if_neg (fun z => h13 z.1), if_neg h13, if_neg h13]
theorem Lw_u12 (M : xM) (nm st : Int → Int) (fs v : Int) : x_upd (Lw M nm st fs) 12 1 v = Lw M nm st v := by
  funext c j
  unfold Lw setA x_upd
  dsimp only
  by_cases h14 : c = 14
  · rw [if_neg (by omega), if_pos h14, if_pos h14]
  by_cases h13 : c = 13
  · rw [if_neg (by omega), if_neg h14, if_pos h13, if_neg h14, if_pos h13]
  rw [if_neg h14, if_neg h13, if_neg h14, if_neg h13]
  by_cases h : c = 12 ∧ j = 1
  · rw [if_pos h, if_pos h]
  · rw [if_neg h, if_neg h, if_neg h]
theorem Lw_u {M : xM} {nm st : Int → Int} {fs : Int} {c : Nat} {i v : Int} (h1 : c ≠ 12) (h2 : c ≠ 13) (h3 : c ≠ 14) : x_upd (Lw M nm st fs) c i v = Lw (x_upd M c i v) nm st fs := by
  funext b j
  unfold Lw setA x_upd
  dsimp only
  by_cases h14 : b = 14
  · rw [if_neg (by omega), if_pos h14, if_pos h14]
  by_cases h13 : b = 13
  · rw [if_neg (by omega), if_neg h14, if_pos h13, if_neg h14, if_pos h13]
  rw [if_neg h14, if_neg h13, if_neg h14, if_neg h13]
  by_cases h : b = 12 ∧ j = 1
  · rw [if_pos h, if_pos h, if_neg (by omega)]
  · rw [if_neg h, if_neg h]
theorem Lw_self (M : xM) : Lw M (M 13) (M 14) (M 12 1) = M := by
  unfold Lw
  have h : x_upd M 12 1 (M 12 1) = M := by
    funext c j
    unfold x_upd
    by_cases h : c = 12 ∧ j = 1
    · rw [if_pos h, h.1, h.2]
    · rw [if_neg h]
  rw [h, setA_self, setA_self]
theorem clT_of {M M' : xM} {t : Nat} {T : xTx} (h : ∀ c, t ≤ c → c ≤ t + 3 → M' c = M c) (H : clT M t T) : clT M' t T := by
  unfold clT clP at *
  rw [h (t + 1) (by omega) (by omega), h (t + 2) (by omega) (by omega), h (t + 3) (by omega) (by omega)]
  exact H
def clR (n : Nat) (P : xP) (M : xM) (o : Option Nat) (ρ : Option xTx) : Prop := (ρ = none → o = none) ∧ ∀ T, ρ = some T → ∃ t, o = some t ∧ x_Text n P t ∧ (43 ≤ t ∧ t ≤ 58) ∧ okT T ∧ clT M t T
theorem clR_ok {n : Nat} {P : xP} {M : xM} {o : Option Nat} {ρ : Option xTx} (h : clR n P M o ρ) : okR ρ := fun T e => by
  obtain ⟨t, _, _, _, h4, _⟩ := h.2 T e
  exact h4
section Law2
variable {g : Option Nat} {d n : Nat} {P : xP} {M : xM} {F : xM → Int → Prop} {G : xM → Prop}
theorem clT_Lw {nm st : Int → Int} {fs : Int} {t : Nat} {T : xTx} (h : 43 ≤ t) (H : clT M t T) : clT (Lw M nm st fs) t T := clT_of (fun c h1 _ => Lw_ne (by omega) (by omega) (by omega)) H
theorem c_X2_seeWind (hn : 82 ≤ n) (hP : x_PP P) {nm st : Int → Int} {fs a b c : Int} (H : G (Lw M (up (up (up nm 0 a) 1 b) 2 c) st fs)) : xCV Y_X2_seeWind g d [vR (some 12), vI a, vI b, vI c] n P (Lw M nm st fs) G := by
  refine b_X2_seeWind hn hP ?_
  rwa [Lw_u13, Lw_u13, Lw_u13]
theorem c_X2_seeCase (hn : 82 ≤ n) (hP : x_PP P) {r : Nat} (hS : x_Rows n P r) (hr : r < 11 ∨ 14 < r) {nm st : Int → Int} {fs c s : Int} (h8 : M r 1 ≤ 8) (hc : 0 ≤ c ∧ c < M r 1) (H : G (Lw M (up (up (up nm 4 (M (r + 1) (4 * c))) 5 (M (r + 1) (4 * c + 1))) 6 s) st (M (r + 1) (4 * c + 3)))) : xCV Y_X2_seeCase g (d + 2) [vR (some 12), vR (some r), vI c, vI s] n P (Lw M nm st fs) G := by
  have e : ∀ nm' st' fs', Lw M nm' st' fs' r = M r := fun _ _ _ => Lw_ne (by omega) (by omega) (by omega)
  have e1 : ∀ nm' st' fs', Lw M nm' st' fs' (r + 1) = M (r + 1) := fun _ _ _ => Lw_ne (by omega) (by omega) (by omega)
  refine b_X2_seeCase hn hP hS ?_
  refine c_X5_at hn hP hS (by rw [e]; exact h8) (by rw [e]; exact hc) (by omega) ?_
  rw [Lw_u13, e1]
  refine c_X5_at hn hP hS (by rw [e]; exact h8) (by rw [e]; exact hc) (by omega) ?_
  rw [Lw_u13, Lw_u13, e1]
  refine c_X5_at hn hP hS (by rw [e]; exact h8) (by rw [e]; exact hc) (by omega) ?_
  rw [Lw_u12, e1, Int.add_zero]
  exact H
theorem c_X2_isGuiltyBy (hn : 82 ≤ n) (hP : x_PP P) {o : Option Nat} {ρ : Option xTx} (hR : clR n P M o ρ) {nm st : Int → Int} {fs q : Int} (hq : 0 ≤ q ∧ q < 4) (hN : okN q (up nm 1 q)) (H : ∀ st', F (Lw M (up nm 1 q) st' fs) (gui ρ q (up nm 1 q) fs)) : xCI Y_X2_isGuiltyBy g (d + 2) [vR (some 12), vR o, vI q] n P (Lw M nm st fs) F := by
  have dflt : lw ρ q (up nm 1 q) fs = none → (((Lw M (up nm 1 q) st fs) 13 5 ≤ q → F (Lw M (up nm 1 q) st fs) 0) ∧ (¬ (Lw M (up nm 1 q) st fs) 13 5 ≤ q → ((¬ (x_and ((Lw M (up nm 1 q) st fs) 12 1) 1) = 1 → F (Lw M (up nm 1 q) st fs) 0) ∧ ((x_and ((Lw M (up nm 1 q) st fs) 12 1) 1) = 1 → F (Lw M (up nm 1 q) st fs) 1)))) := by
    intro e
    have H := H st
    unfold gui at H
    rw [e, Option.getD_none] at H
    rw [Lw_13, Lw_12]
    refine ⟨fun h => ?_, fun h => ⟨fun h2 => ?_, fun h2 => ?_⟩⟩
    · rwa [bi_f (fun z => by omega)] at H
    · rwa [bi_f (fun z => h2 z.2)] at H
    · rwa [bi_t ⟨by omega, h2⟩] at H
  cases ρ with
  | none =>
    cases hR.1 rfl
    refine b_X2_isGuiltyByN hn hP ?_
    rw [Lw_u13]
    exact b_X2_isGuiltyByN_34 hn hP (dflt rfl)
  | some T =>
    obtain ⟨t, rfl, hX, ⟨h43, _⟩, hT, hc⟩ := hR.2 T rfl
    refine b_X2_isGuiltyByT hn hP hX ?_
    rw [Lw_u13]
    refine c_X7_has hn hP hX (by omega) ?_
    rw [Lw_ne (by omega) (by omega) (by omega), Lw_ne (by omega) (by omega) (by omega)]
    cases e : T.2 q with
    | none =>
      have h1 := (hc q (by omega) (by omega)).1 e
      exact ⟨fun _ => b_X2_isGuiltyByT_34 hn hP hX (dflt (lw_some.trans (evl_none e))), fun h => absurd h1 (by have := bi_n0.mp h; omega)⟩
    | some q1 =>
      obtain ⟨h1, h2, _⟩ := (hc q (by omega) (by omega)).2 q1 e
      have h3 := (hT q q1 (by omega) (by omega) e).1
      refine ⟨fun h => absurd (bi_0.mp h) (by omega), fun _ => ?_⟩
      obtain ⟨z, _, hz, _⟩ := evl_some (fs := fs) hT (by omega) hN e
      have hz2 := evl_truth hT (by omega) (Or.inl hq.2) hN hz
      refine c_X2_worth hn hP hX h43 hT (clT_Lw h43 hc) (by omega) (by rw [Lw_13]; exact hN) (by rw [Lw_13, Lw_12]; exact hz) (fun f => ?_)
      rw [Lw_14]
      have H := H f
      unfold gui at H
      rw [lw_some, hz, Option.getD_some] at H
      rcases hz2 with rfl | rfl
      · exact ⟨fun _ => H, fun h => absurd rfl h⟩
      · exact ⟨fun h => absurd h (by decide), fun _ => H⟩
theorem c_cut (hn : 82 ≤ n) {lo hi z : Int} (h : lo ≤ hi) (H : F M (cutI z lo hi)) : xCI Y_J9_min_7cf53 g d [vI hi, vI z] n P M (fun M1 z1 => xCI Y_J9_max_7cf53 g d [vI lo, vI z1] n P M1 F) := by
  unfold cutI at H
  refine b_J9_min_7cf53 hn ⟨fun h1 => b_J9_max_7cf53 hn ⟨fun h2 => ?_, fun h2 => ?_⟩, fun h1 => b_J9_max_7cf53 hn ⟨fun h2 => ?_, fun h2 => ?_⟩⟩
  · rwa [if_neg (by omega), if_neg (by omega)] at H
  · by_cases h3 : z < lo
    · rwa [if_pos h3] at H
    · rw [if_neg h3, if_neg (by omega)] at H
      rwa [show lo = z by omega]
  · by_cases h3 : hi < z
    · rwa [if_neg (by omega), if_pos h3] at H
    · rw [if_neg (by omega), if_neg h3] at H
      rwa [show hi = z by omega]
  · by_cases h3 : hi < z
    · rw [if_neg (by omega), if_pos h3] at H
      rwa [show lo = hi by omega]
    · by_cases h4 : z < lo
      · rwa [if_pos h4] at H
      · rw [if_neg h4, if_neg h3] at H
        rwa [show lo = z by omega]
end Law2
theorem clR_of {n : Nat} {P : xP} {M M' : xM} {o : Option Nat} {ρ : Option xTx} (h : ∀ c, 43 ≤ c → c < 63 → M' c = M c) (H : clR n P M o ρ) : clR n P M' o ρ := by
  refine ⟨H.1, fun T e => ?_⟩
  obtain ⟨t, h1, h2, h3, h4, h5⟩ := H.2 T e
  exact ⟨t, h1, h2, h3, h4, clT_of (fun c h6 h7 => h c (by omega) (by omega)) h5⟩
theorem clR_upd {n : Nat} {P : xP} {M : xM} {o : Option Nat} {ρ : Option xTx} {u : Nat} {i v : Int} (hu : u < 43) (H : clR n P M o ρ) : clR n P (x_upd M u i v) o ρ :=
  clR_of (fun c h1 _ => by funext j; exact x_upd_nb (by omega)) H
