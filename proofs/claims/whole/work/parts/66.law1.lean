/-! a text's laws: kinds 0..3 codes, 4 veers, 5 blows, 6 fogs, 7 sentence -/
abbrev xTx := (Int → Int × Int) × (Int → Option (Int × Int))
def al (κ v : Int) : Prop := (0 ≤ v ∧ v < 8) ∧ (v = 3 → 4 ≤ κ ∧ κ < 7) ∧ (v = 4 ∨ v = 5 ∨ v = 6 → κ < 4 ∨ κ = 7) ∧ (v = 7 → κ = 7)
def tyB (κ : Int) : Bool := decide (κ < 4 ∨ κ = 6)
def okJ (κ : Int) (p : Int × Int) : Prop := (0 ≤ p.1 ∧ p.1 < 128) ∧ (0 ≤ p.2 ∧ p.2 < 16384) ∧ (p.1 = 72 → p.2 ≤ 9999) ∧ (p.1 = 75 → al κ p.2) ∧ (p.1 = 24 → κ < 4 ∧ p.2 < 8)
def okT (T : xTx) : Prop := ∀ κ q, 0 ≤ κ → κ < 8 → T.2 κ = some q → (0 ≤ q.1 ∧ q.1 < q.2 ∧ q.2 ≤ 300) ∧ (∀ j, q.1 ≤ j → j < q.2 → okJ κ (T.1 j)) ∧ tyr T.1 (q.2 - q.1).toNat q.1 [] = some [tyB κ]
def okN (κ : Int) (nm : Int → Int) : Prop := ∀ v, al κ v → -1000000 ≤ nm v ∧ nm v ≤ 1000000
def evl (T : xTx) (κ : Int) (nm : Int → Int) (fs : Int) : Option Int := (T.2 κ).map (fun q => (ev1 T.1 nm fs (q.2 - q.1).toNat q.1 []).headD 0)
def clT (M : xM) (t : Nat) (T : xTx) : Prop := ∀ κ, 0 ≤ κ → κ < 8 → (T.2 κ = none → M (t + 3) κ ≤ M (t + 2) κ) ∧ (∀ q, T.2 κ = some q → M (t + 2) κ = q.1 ∧ M (t + 3) κ = q.2 ∧ clP M t T.1 q.1 q.2)
/-- reference: clause c of text τ is the law κ -/
def hit (M : xM) (τ κ c : Int) : Prop := M 67 (705 * τ + 1 + 4 * c) = (if κ < 4 then 4 else κ - 4) ∧ (κ < 4 → M 67 (705 * τ + 1 + 4 * c + 3) = κ)
def rfT (M : xM) (τ : Int) (T : xTx) : Prop := (0 ≤ M 67 (705 * τ) ∧ M 67 (705 * τ) ≤ 24) ∧ ∀ κ, 0 ≤ κ → κ < 8 → (T.2 κ = none → ∀ c, 0 ≤ c → c < M 67 (705 * τ) → ¬ hit M τ κ c) ∧ (∀ q, T.2 κ = some q → rfP M τ T.1 q.1 q.2 ∧ ∃ c, 0 ≤ c ∧ c < M 67 (705 * τ) ∧ hit M τ κ c ∧ (∀ c', 0 ≤ c' → c' < c → ¬ hit M τ κ c') ∧ M 67 (705 * τ + 1 + 4 * c + 1) = q.1 ∧ M 67 (705 * τ + 1 + 4 * c + 2) = q.2)
theorem evl_at {T : xTx} {κ : Int} {nm : Int → Int} {fs : Int} {q : Int × Int} (e : T.2 κ = some q) : evl T κ nm fs = some ((ev1 T.1 nm fs (q.2 - q.1).toNat q.1 []).headD 0) := by
  unfold evl
  rw [e, Option.map_some]
theorem evl_none {T : xTx} {κ : Int} {nm : Int → Int} {fs : Int} (e : T.2 κ = none) : evl T κ nm fs = none := by
  unfold evl
  rw [e, Option.map_none]
theorem st1_congr {o v : Int} {nm nm' : Int → Int} {fs fs' : Int} {s : List Int} (h1 : o = 75 → nm v = nm' v) (h2 : o = 24 → fs = fs') : st1 o v nm fs s = st1 o v nm' fs' s := by
  unfold st1
  by_cases a : o = 72
  · rw [if_pos a, if_pos a]
  rw [if_neg a, if_neg a]
  by_cases b : o = 75
  · rw [if_pos b, if_pos b, h1 b]
  rw [if_neg b, if_neg b]
  by_cases c : o = 24
  · rw [if_pos c, if_pos c, h2 c]
  rw [if_neg c, if_neg c]
theorem ev1_congr {pr : Int → Int × Int} {nm nm' : Int → Int} {fs fs' : Int} : ∀ (k : Nat) (i : Int) (s : List Int), (∀ j, i ≤ j → j < i + k → ((pr j).1 = 75 → nm (pr j).2 = nm' (pr j).2) ∧ ((pr j).1 = 24 → fs = fs')) → ev1 pr nm fs k i s = ev1 pr nm' fs' k i s
  | 0, i, s, _ => rfl
  | k + 1, i, s, h => by
    unfold ev1
    have h1 := h i (by omega) (by omega)
    rw [st1_congr h1.1 h1.2]
    exact ev1_congr k (i + 1) _ (fun j h2 h3 => h j (by omega) (by omega))
theorem ev1_ok {pr : Int → Int × Int} {nm : Int → Int} {fs : Int} {b : Bool} : ∀ (k : Nat) (i : Int) (s : List Int) (τ : List Bool), (∀ j, i ≤ j → j < i + k → okA (pr j).1 (pr j).2 nm) → okS s τ → tyr pr k i τ = some [b] → okS (ev1 pr nm fs k i s) [b]
  | 0, i, s, τ, _, h, e => by
    cases e
    exact h
  | k + 1, i, s, τ, ha, h, e => by
    unfold tyr at e
    cases h1 : ty1 (pr i).1 (pr i).2 τ with
    | none => rw [h1] at e; cases e
    | some τ' =>
      rw [h1] at e
      exact ev1_ok k (i + 1) _ τ' (fun j h2 h3 => ha j (by omega) (by omega)) (okS_step h (ha i (by omega) (by omega)) h1) e
theorem okJ_okA {κ : Int} {p : Int × Int} {nm : Int → Int} (h : okJ κ p) (hN : okN κ nm) : okA p.1 p.2 nm := by
  refine ⟨fun e => ⟨h.2.1.1, h.2.2.1 e⟩, fun e => ⟨(h.2.2.2.1 e).1, hN _ (h.2.2.2.1 e)⟩, fun e => ⟨h.2.1.1, (h.2.2.2.2 e).2⟩⟩
theorem evl_congr {T : xTx} (hT : okT T) {κ : Int} (hk : 0 ≤ κ ∧ κ < 8) {nm nm' : Int → Int} {fs fs' : Int} (h : ∀ v, al κ v → nm v = nm' v) (hf : κ < 4 → fs = fs') : evl T κ nm fs = evl T κ nm' fs' := by
  cases e : T.2 κ with
  | none => rw [evl_none e, evl_none e]
  | some q =>
    have h1 := hT κ q hk.1 hk.2 e
    rw [evl_at e, evl_at e, ev1_congr (q.2 - q.1).toNat q.1 [] (fun j h2 h3 => ⟨fun e => h _ ((h1.2.1 j h2 (by omega)).2.2.2.1 e), fun e => hf ((h1.2.1 j h2 (by omega)).2.2.2.2 e).1⟩)]
theorem evl_some {T : xTx} (hT : okT T) {κ : Int} (hk : 0 ≤ κ ∧ κ < 8) {nm : Int → Int} (hN : okN κ nm) {fs : Int} {q : Int × Int} (e : T.2 κ = some q) : ∃ z, ev1 T.1 nm fs (q.2 - q.1).toNat q.1 [] = [z] ∧ evl T κ nm fs = some z ∧ okS [z] [tyB κ] := by
  have h1 := hT κ q hk.1 hk.2 e
  have h2 := ev1_ok (fs := fs) (nm := nm) (q.2 - q.1).toNat q.1 [] [] (fun j h2 h3 => okJ_okA (h1.2.1 j h2 (by omega)) hN) trivial h1.2.2
  have h3 := okS_len h2
  match he : ev1 T.1 nm fs (q.2 - q.1).toNat q.1 [], h3 with
  | [z], _ =>
    rw [he] at h2
    refine ⟨z, rfl, ?_, h2⟩
    rw [evl_at e, he, List.headD_cons]
theorem evl_truth {T : xTx} (hT : okT T) {κ : Int} (hk : 0 ≤ κ ∧ κ < 8) (hb : κ < 4 ∨ κ = 6) {nm : Int → Int} (hN : okN κ nm) {fs z : Int} (e : evl T κ nm fs = some z) : z = 0 ∨ z = 1 := by
  cases h : T.2 κ with
  | none => rw [evl_none h] at e; cases e
  | some q =>
    obtain ⟨z', _, h2, h3⟩ := evl_some (fs := fs) hT hk hN h
    rw [h2] at e
    cases e
    have : tyB κ = true := decide_eq_true hb
    rw [this] at h3
    exact h3.1
section Law1
variable {g : Option Nat} {d n : Nat} {P : xP} {M : xM} {F : xM → Int → Prop} {G : xM → Prop}
theorem c_X2_worth (hn : 82 ≤ n) (hP : x_PP P) {t : Nat} (hX : x_Text n P t) (h43 : 43 ≤ t) {T : xTx} (hT : okT T) (hc : clT M t T) {κ : Int} (hk : 0 ≤ κ ∧ κ < 8) (hN : okN κ (M 13)) {z : Int} (hz : evl T κ (M 13) (M 12 1) = some z) (H : ∀ f, F (setA M 14 f) z) : xCI Y_X2_worth g (d + 1) [vR (some 12), vR (some t), vI κ] n P M F := by
  cases e : T.2 κ with
  | none => rw [evl_none e] at hz; cases hz
  | some q =>
    obtain ⟨z', h1, h2, h3⟩ := evl_some (fs := M 12 1) hT hk hN e
    rw [h2] at hz
    cases hz
    obtain ⟨⟨a1, a2, a3⟩, a4, a5⟩ := hT κ q hk.1 hk.2 e
    obtain ⟨b1, b2, b3⟩ := (hc κ hk.1 hk.2).2 q e
    refine b_X2_worthT hn hP hX (c_X7_has hn hP hX hk ⟨fun _ => ⟨hk, ?_⟩, fun h => absurd (bi_0.mp h) (by rw [b1, b2]; omega)⟩)
    rw [b1]
    have := worth_loop (g := g) (d := d) (F := F) hn hP hX h43 hk b2 (pr := T.1) a1 ⟨by omega, a3⟩ (fun j h4 h5 => ⟨(a4 j h4 h5).1, (a4 j h4 h5).2.1, okJ_okA (a4 j h4 h5) hN⟩) b3 (q.2 - q.1).toNat q.1 [] [] (M 14) (Int.le_refl _) (by omega) a5 trivial rfl (by show (0 : Int) ≤ _; omega) (fun f' z1 hz1 => by rw [h1] at hz1; cases hz1; exact H f')
    rw [setA_self] at this
    exact this
theorem c_X10_clauseOf (hn : 82 ≤ n) (hP : x_PP P) {τ κ k0 q0 : Int} (ht : 0 ≤ τ ∧ τ < 4) (hm : 0 ≤ M 67 (705 * τ) ∧ M 67 (705 * τ) ≤ 24) (hk0 : k0 = if κ < 4 then 4 else κ - 4) (hq : κ < 4 → q0 = κ) (hk : κ < 8)
    (H1 : (∀ c, 0 ≤ c → c < M 67 (705 * τ) → ¬ hit M τ κ c) → F M (-1)) (H2 : ∀ c, 0 ≤ c → c < M 67 (705 * τ) → hit M τ κ c → (∀ c', 0 ≤ c' → c' < c → ¬ hit M τ κ c') → F M c) :
    xCI Y_X10_clauseOf g d [vR (some 64), vI τ, vI k0, vI q0] n P M F := by
  refine b_X10_clauseOf hn hP ?_
  have loop : ∀ (m : Nat) (i : Int), 0 ≤ i → i + m = M 67 (705 * τ) → (∀ c', 0 ≤ c' → c' < i → ¬ hit M τ κ c') → xW Y_X10_clauseOf g d 0 0 3 [(0, vR (some 64)), (1, vI τ), (2, vI k0), (3, vI q0), (4, vI i)] [] (0, 0) (n, P, M) (kI n P F) := by
    intro m
    induction m with
    | zero =>
      intro i h1 h2 h3
      refine b_X10_clauseOf_3 hn hP ⟨fun h => absurd h (by omega), fun _ => ⟨by omega, by omega, fun _ => H1 (fun c h4 h5 => h3 c h4 (by omega)), fun h => absurd h (by omega)⟩⟩
    | succ m ih =>
      intro i h1 h2 h3
      have next : ¬ hit M τ κ i → xW Y_X10_clauseOf g d 0 0 68 [(0, vR (some 64)), (1, vI τ), (2, vI k0), (3, vI q0), (4, vI i)] [] (0, 0) (n, P, M) (kI n P F) := fun hh =>
        b_X10_clauseOf_68 hn hP ⟨by omega, ih (i + 1) (by omega) (by omega) (fun c' h4 h5 => by
          by_cases h6 : c' = i
          · rw [h6]; exact hh
          · exact h3 c' h4 (by omega))⟩
      refine b_X10_clauseOf_3 hn hP ⟨fun h => absurd h (by omega), fun _ => ⟨by omega, by omega, fun h => absurd h (by omega), fun _ => ⟨by omega, by omega, by omega, by omega, by omega, fun h => next (fun hh => h (hh.1.trans hk0.symm)), fun h => ⟨fun h4 => ?_, fun h4 => ⟨by omega, by omega, fun h5 => next (fun hh => ?_), fun h5 => ?_⟩⟩⟩⟩⟩
      · exact H2 i h1 (by omega) ⟨h.trans hk0, fun h5 => absurd (by rw [hk0, if_pos h5]) h4⟩ h3
      · have h6 : κ < 4 := by
          by_cases h6 : κ < 4
          · exact h6
          · rw [if_neg h6] at hk0; omega
        exact h5 ((hh.2 h6).trans (hq h6).symm)
      · refine H2 i h1 (by omega) ⟨h.trans hk0, fun h6 => h5.trans (hq h6)⟩ h3
  exact loop (M 67 (705 * τ)).toNat 0 (Int.le_refl _) (by omega) (fun c' h1 h2 => absurd h2 (by omega))
end Law1
