/-! the class's law: wind and judgment -/
def wn (h q f x : Int) : Int → Int := fun v => if v = 0 then h else if v = 1 then q else if v = 2 then f else x
def tq (ρ : Option xTx) (h q f x : Int) : Int := (q + veer ρ (wn h q f x) + 4).tmod 4
def tf (ρ : Option xTx) (h q f x : Int) : Int := blow ρ (wn h (tq ρ h q f x) f x)
def tg (ρ : Option xTx) (h q f x : Int) : Int := fogg ρ (wn h (tq ρ h q f x) (tf ρ h q f x) x)
theorem al_w {κ v : Int} (hk : 4 ≤ κ ∧ κ < 7) (h : al κ v) : v = 0 ∨ v = 1 ∨ v = 2 ∨ v = 3 := by
  unfold al at h
  omega
theorem cutI_r {z lo hi : Int} (h : lo ≤ hi) : lo ≤ cutI z lo hi ∧ cutI z lo hi ≤ hi := by
  unfold cutI
  split
  · omega
  · split <;> omega
theorem veer_congr {ρ : Option xTx} (hR : okR ρ) {nm nm' : Int → Int} (h0 : nm 0 = nm' 0) (h1 : nm 1 = nm' 1) (h2 : nm 2 = nm' 2) (h3 : nm 3 = nm' 3) : veer ρ nm = veer ρ nm' := by
  unfold veer
  rw [lw_congr (fs' := 0) hR (by omega) (fun v hv => by rcases al_w (by omega) hv with rfl | rfl | rfl | rfl <;> assumption) (fun _ => rfl), h3]
theorem blow_congr {ρ : Option xTx} (hR : okR ρ) {nm nm' : Int → Int} (h0 : nm 0 = nm' 0) (h1 : nm 1 = nm' 1) (h2 : nm 2 = nm' 2) (h3 : nm 3 = nm' 3) : blow ρ nm = blow ρ nm' := by
  unfold blow
  rw [lw_congr (fs' := 0) hR (by omega) (fun v hv => by rcases al_w (by omega) hv with rfl | rfl | rfl | rfl <;> assumption) (fun _ => rfl), h3]
theorem fogg_congr {ρ : Option xTx} (hR : okR ρ) {nm nm' : Int → Int} (h0 : nm 0 = nm' 0) (h1 : nm 1 = nm' 1) (h2 : nm 2 = nm' 2) (h3 : nm 3 = nm' 3) : fogg ρ nm = fogg ρ nm' := by
  unfold fogg
  rw [lw_congr (fs' := 0) hR (by omega) (fun v hv => by rcases al_w (by omega) hv with rfl | rfl | rfl | rfl <;> assumption) (fun _ => rfl), h0, h2]
theorem veer_r (ρ : Option xTx) (nm : Int → Int) : -3 ≤ veer ρ nm ∧ veer ρ nm ≤ 3 := by
  unfold veer
  cases lw ρ 4 nm 0 with
  | none =>
    rw [Option.map_none, Option.getD_none]
    split
    · omega
    · split <;> omega
  | some z =>
    rw [Option.map_some, Option.getD_some]
    exact cutI_r (by omega)
theorem blow_r (ρ : Option xTx) {nm : Int → Int} (h : 0 ≤ nm 3 ∧ nm 3 ≤ 9) : 0 ≤ blow ρ nm ∧ blow ρ nm ≤ 9 := by
  unfold blow
  cases lw ρ 5 nm 0 with
  | none =>
    rw [Option.map_none, Option.getD_none]
    exact h
  | some z =>
    rw [Option.map_some, Option.getD_some]
    exact cutI_r (by omega)
theorem fogg_r {ρ : Option xTx} (hR : okR ρ) {nm : Int → Int} (hN : okN 6 nm) : fogg ρ nm = 0 ∨ fogg ρ nm = 1 := by
  unfold fogg
  cases e : lw ρ 6 nm 0 with
  | none =>
    rw [Option.getD_none]
    exact bi_or _
  | some z =>
    rw [Option.getD_some]
    exact lw_truth hR (by omega) (Or.inr rfl) hN e
theorem tq_r (ρ : Option xTx) {h q f x : Int} (hq : 0 ≤ q ∧ q < 4) : 0 ≤ tq ρ h q f x ∧ tq ρ h q f x < 4 := by
  unfold tq
  have := veer_r ρ (wn h q f x)
  rw [Int.tmod_eq_emod_of_nonneg (by omega)]
  omega
theorem okN_w {κ : Int} (hk : 4 ≤ κ ∧ κ < 7) {nm : Int → Int} (h0 : -1000000 ≤ nm 0 ∧ nm 0 ≤ 1000000) (h1 : 0 ≤ nm 1 ∧ nm 1 < 4) (h2 : 0 ≤ nm 2 ∧ nm 2 ≤ 9) (h3 : 0 ≤ nm 3 ∧ nm 3 ≤ 9) : okN κ nm := by
  intro v hv
  rcases al_w hk hv with rfl | rfl | rfl | rfl <;> omega
section Law3
variable {g : Option Nat} {d n : Nat} {P : xP} {M : xM} {F : xM → Int → Prop} {G : xM → Prop}
theorem c_X2_num (hn : 82 ≤ n) (hP : x_PP P) {t : Nat} (hX : x_Text n P t) (h43 : 43 ≤ t) {T : xTx} (hT : okT T) (hc : clT M t T) {κ : Int} (hk : 0 ≤ κ ∧ κ < 8) {nm st : Int → Int} {fs : Int} (hN : okN κ nm) {Q1 : Prop} {F2 : xM → Int → Prop} (H1 : evl T κ nm fs = none → Q1) (H2 : ∀ z st', evl T κ nm fs = some z → F2 (Lw M nm st' fs) z) : xCI Y_X7_has g (d + 1) [vR (some t), vI κ] n P (Lw M nm st fs) (fun M1 z1 => (z1 = 0 → M1 = Lw M nm st fs ∧ Q1) ∧ (¬ z1 = 0 → xCI Y_X2_worth g (d + 1) [vR (some 12), vR (some t), vI κ] n P M1 F2)) := by
  refine c_X7_has hn hP hX hk ?_
  rw [Lw_ne (by omega) (by omega) (by omega), Lw_ne (by omega) (by omega) (by omega)]
  cases e : T.2 κ with
  | none =>
    have h1 := (hc κ (by omega) (by omega)).1 e
    exact ⟨fun _ => ⟨rfl, H1 (evl_none e)⟩, fun h => absurd h1 (by have := bi_n0.mp h; omega)⟩
  | some q1 =>
    obtain ⟨h1, h2, _⟩ := (hc κ (by omega) (by omega)).2 q1 e
    have h3 := (hT κ q1 (by omega) (by omega) e).1
    refine ⟨fun h => absurd (bi_0.mp h) (by omega), fun _ => ?_⟩
    obtain ⟨z, _, hz, _⟩ := evl_some (fs := fs) hT (by omega) hN e
    refine c_X2_worth hn hP hX h43 hT (clT_Lw h43 hc) (by omega) (by rw [Lw_13]; exact hN) (by rw [Lw_13, Lw_12]; exact hz) (fun f => ?_)
    rw [Lw_14]
    exact H2 z f hz
theorem lw_fs {ρ : Option xTx} (hR : okR ρ) {κ : Int} (hk : 4 ≤ κ ∧ κ < 8) {nm : Int → Int} (fs : Int) : lw ρ κ nm fs = lw ρ κ nm 0 := lw_congr hR (by omega) (fun _ _ => rfl) (fun h => absurd h (by omega))
theorem c_X2_veered (hn : 82 ≤ n) (hP : x_PP P) {o : Option Nat} {ρ : Option xTx} (hR : clR n P M o ρ) {nm st : Int → Int} {fs : Int} (hN : okN 4 nm) (H : ∀ st', F (Lw M nm st' fs) (veer ρ nm)) : xCI Y_X2_veered g (d + 2) [vR (some 12), vR o] n P (Lw M nm st fs) F := by
  have dflt : lw ρ 4 nm fs = none → ((¬ (Lw M nm st fs 13 3) = 0 → ((¬ (Lw M nm st fs 13 3) = 1 → F (Lw M nm st fs) 0) ∧ ((Lw M nm st fs 13 3) = 1 → F (Lw M nm st fs) (-1)))) ∧ ((Lw M nm st fs 13 3) = 0 → F (Lw M nm st fs) 1)) := by
    intro e
    have H := H st
    unfold veer at H
    rw [← lw_fs (clR_ok hR) (by omega) fs, e, Option.map_none, Option.getD_none] at H
    rw [Lw_13]
    refine ⟨fun h => ⟨fun h2 => ?_, fun h2 => ?_⟩, fun h => ?_⟩
    · rwa [if_neg h, if_neg h2] at H
    · rwa [if_neg h, if_pos h2] at H
    · rwa [if_pos h] at H
  have okr := clR_ok hR
  cases ρ with
  | none =>
    cases hR.1 rfl
    exact b_X2_veeredN hn hP (b_X2_veeredN_28 hn hP (dflt rfl))
  | some T =>
    obtain ⟨t, rfl, hX, ⟨h43, _⟩, hT, hc⟩ := hR.2 T rfl
    refine b_X2_veeredT hn hP hX (xCI.mono (c_X2_num hn hP hX h43 hT hc (by omega) hN (F2 := fun M2 z2 => F M2 (cutI z2 (-3) 3)) (fun e => dflt (lw_some.trans e)) (fun z st' e => ?_)) ?_)
    case refine_2 =>
      intro M1 z1 h
      refine ⟨fun h1 => ?_, fun h1 => xCI.mono (h.2 h1) (fun M2 z2 h2 => c_cut hn (by omega) h2)⟩
      obtain ⟨rfl, h2⟩ := h.1 h1
      exact b_X2_veeredT_28 hn hP hX h2
    · have H := H st'
      unfold veer at H
      rw [← lw_fs okr (by omega) fs, lw_some, e, Option.map_some, Option.getD_some] at H
      exact H
theorem c_X2_blown (hn : 82 ≤ n) (hP : x_PP P) {o : Option Nat} {ρ : Option xTx} (hR : clR n P M o ρ) {nm st : Int → Int} {fs : Int} (hN : okN 5 nm) (H : ∀ st', F (Lw M nm st' fs) (blow ρ nm)) : xCI Y_X2_blown g (d + 2) [vR (some 12), vR o] n P (Lw M nm st fs) F := by
  have dflt : lw ρ 5 nm fs = none → F (Lw M nm st fs) (Lw M nm st fs 13 3) := by
    intro e
    have H := H st
    unfold blow at H
    rw [← lw_fs (clR_ok hR) (by omega) fs, e, Option.map_none, Option.getD_none] at H
    rwa [Lw_13]
  have okr := clR_ok hR
  cases ρ with
  | none =>
    cases hR.1 rfl
    exact b_X2_blownN hn hP (dflt rfl)
  | some T =>
    obtain ⟨t, rfl, hX, ⟨h43, _⟩, hT, hc⟩ := hR.2 T rfl
    refine b_X2_blownT hn hP hX (xCI.mono (c_X2_num hn hP hX h43 hT hc (by omega) hN (F2 := fun M2 z2 => F M2 (cutI z2 0 9)) (fun e => dflt (lw_some.trans e)) (fun z st' e => ?_)) ?_)
    case refine_2 =>
      intro M1 z1 h
      refine ⟨fun h1 => ?_, fun h1 => xCI.mono (h.2 h1) (fun M2 z2 h2 => c_cut hn (by omega) h2)⟩
      obtain ⟨rfl, h2⟩ := h.1 h1
      exact h2
    · have H := H st'
      unfold blow at H
      rw [← lw_fs okr (by omega) fs, lw_some, e, Option.map_some, Option.getD_some] at H
      exact H
theorem c_X2_isFoggy (hn : 82 ≤ n) (hP : x_PP P) {o : Option Nat} {ρ : Option xTx} (hR : clR n P M o ρ) {nm st : Int → Int} {fs : Int} (hN : okN 6 nm) (H : ∀ st', F (Lw M nm st' fs) (fogg ρ nm)) : xCI Y_X2_isFoggy g (d + 2) [vR (some 12), vR o] n P (Lw M nm st fs) F := by
  have dflt : lw ρ 6 nm fs = none → ((2 ≤ (Lw M nm st fs 13 2) → F (Lw M nm st fs) 0) ∧ (¬ 2 ≤ (Lw M nm st fs 13 2) → ((3 ≤ (Int.tmod (Lw M nm st fs 13 0) 10) → F (Lw M nm st fs) 0) ∧ (¬ 3 ≤ (Int.tmod (Lw M nm st fs 13 0) 10) → F (Lw M nm st fs) 1)))) := by
    intro e
    have H := H st
    unfold fogg at H
    rw [← lw_fs (clR_ok hR) (by omega) fs, e, Option.getD_none] at H
    rw [Lw_13]
    refine ⟨fun h => ?_, fun h => ⟨fun h2 => ?_, fun h2 => ?_⟩⟩
    · rwa [bi_f (fun z => by omega)] at H
    · rwa [bi_f (fun z => by omega)] at H
    · rwa [bi_t ⟨by omega, by omega⟩] at H
  have okr := clR_ok hR
  cases ρ with
  | none =>
    cases hR.1 rfl
    exact b_X2_isFoggyN hn hP (b_X2_isFoggyN_29 hn hP (dflt rfl))
  | some T =>
    obtain ⟨t, rfl, hX, ⟨h43, _⟩, hT, hc⟩ := hR.2 T rfl
    refine b_X2_isFoggyT hn hP hX (xCI.mono (c_X2_num hn hP hX h43 hT hc (by omega) hN (F2 := fun M2 z2 => (z2 = 0 → F M2 0) ∧ (¬ z2 = 0 → F M2 1)) (fun e => dflt (lw_some.trans e)) (fun z st' e => ?_)) ?_)
    case refine_2 =>
      intro M1 z1 h
      refine ⟨fun h1 => ?_, h.2⟩
      obtain ⟨rfl, h2⟩ := h.1 h1
      exact b_X2_isFoggyT_29 hn hP hX h2
    · have H := H st'
      unfold fogg at H
      rw [← lw_fs okr (by omega) fs, lw_some, e, Option.getD_some] at H
      rcases evl_truth hT (by omega) (Or.inr rfl) hN e with rfl | rfl
      · exact ⟨fun _ => H, fun h => absurd rfl h⟩
      · exact ⟨fun h => absurd h (by decide), fun _ => H⟩
theorem c_fm (hn : 82 ≤ n) {a : Int} (h : -3 ≤ a ∧ a ≤ 6) (H : F M ((a + 4).tmod 4)) : xCI Y_J9_floorMod_7cf53 g d [vI a, vI 4] n P M F := by
  have : a = -3 ∨ a = -2 ∨ a = -1 ∨ a = 0 ∨ a = 1 ∨ a = 2 ∨ a = 3 ∨ a = 4 ∨ a = 5 ∨ a = 6 := by omega
  rcases this with rfl | rfl | rfl | rfl | rfl | rfl | rfl | rfl | rfl | rfl
  · exact b_J9_floorMod_7cf53 hn ⟨by decide, fun h => absurd h (by decide), fun _ => ⟨fun h => absurd h (by decide), fun _ => ⟨by decide, H⟩⟩⟩
  · exact b_J9_floorMod_7cf53 hn ⟨by decide, fun h => absurd h (by decide), fun _ => ⟨fun h => absurd h (by decide), fun _ => ⟨by decide, H⟩⟩⟩
  · exact b_J9_floorMod_7cf53 hn ⟨by decide, fun h => absurd h (by decide), fun _ => ⟨fun h => absurd h (by decide), fun _ => ⟨by decide, H⟩⟩⟩
  · exact b_J9_floorMod_7cf53 hn ⟨by decide, fun _ => H, fun h => absurd (by decide) h⟩
  · exact b_J9_floorMod_7cf53 hn ⟨by decide, fun _ => H, fun h => absurd (by decide) h⟩
  · exact b_J9_floorMod_7cf53 hn ⟨by decide, fun _ => H, fun h => absurd (by decide) h⟩
  · exact b_J9_floorMod_7cf53 hn ⟨by decide, fun _ => H, fun h => absurd (by decide) h⟩
  · exact b_J9_floorMod_7cf53 hn ⟨by decide, fun _ => H, fun h => absurd (by decide) h⟩
  · exact b_J9_floorMod_7cf53 hn ⟨by decide, fun _ => H, fun h => absurd (by decide) h⟩
  · exact b_J9_floorMod_7cf53 hn ⟨by decide, fun _ => H, fun h => absurd (by decide) h⟩
end Law3
