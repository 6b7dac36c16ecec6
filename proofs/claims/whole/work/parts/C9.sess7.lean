/-! session: class beside reference -/
theorem gS_nn (ρ : Option xTx) (A : Int → Int) : ∀ (l : List Int) (s : Int), 0 ≤ gS ρ A l s
  | [], _ => Int.le_refl _
  | c :: r, s => by
    have ih := gS_nn ρ A r (s + A (20 + 7 * c + 2))
    unfold gS
    split
    · exact Int.le_refl _
    · split <;> omega
theorem upB_le (b : Int × List Int) (z : Int) (o : List Int) : b.1 ≤ (upB b z o).1 ∧ z ≤ (upB b z o).1 := by
  unfold upB
  split
  · rename_i h; exact ⟨Int.le_refl _, h⟩
  · rename_i h
    show b.1 ≤ z ∧ z ≤ z
    omega
theorem fB_mono (ρ : Option xTx) (A : Int → Int) (pre : List Int) (sum s : Int) : ∀ (L : List (List Int)) (b : Int × List Int), b.1 ≤ (fB ρ A pre sum s L b).1
  | [], b => Int.le_refl _
  | q :: L, b => Int.le_trans (upB_le b (sum + gS ρ A q s) (pre ++ q)).1 (fB_mono ρ A pre sum s L _)
theorem fB_nn (ρ : Option xTx) (A : Int → Int) (L : List (List Int)) (hL : L ≠ []) (b : Int × List Int) : 0 ≤ (fB ρ A [] 0 0 L b).1 := by
  cases L with
  | nil => exact absurd rfl hL
  | cons q L =>
    have h1 := (upB_le b (0 + gS ρ A q 0) ([] ++ q)).2
    have h2 := fB_mono ρ A [] 0 0 L (upB b (0 + gS ρ A q 0) ([] ++ q))
    have h3 := gS_nn ρ A q 0
    show 0 ≤ (fB ρ A [] 0 0 L (upB b (0 + gS ρ A q 0) ([] ++ q))).1
    omega
theorem rws_ne (f : Nat) (r : List Int) : rws f r ≠ [] := by
  cases f with
  | zero => intro h; cases h
  | succ f =>
    show (match nxt r with | none => [r] | some q => r :: rws f q) ≠ []
    cases nxt r with
    | none => intro h; cases h
    | some q => intro h; cases h
section Sess7
variable {g : Option Nat} {d n : Nat} {P : xP} {M : xM} {F : xM → Int → Prop} {G : xM → Prop}
theorem k_arrAll (hn : 82 ≤ n) (hP : x_PP P) {A : Int → Int} {o : Option Nat} {ρ : Option xTx} {v : Int} (hv : in8 v) (hk : 1 ≤ popc v ∧ popc v ≤ 5) (hm : ∀ c, 0 ≤ c → c < 8 → bi1 v c → 0 ≤ c ∧ c < A 0) (hC : relC A (CC M)) (hR : clR n P M o ρ) (hw : wC ρ A (ls A (smv A v 8)) M) (h2 : M 15 2 = x_enc o) (H : ∀ M', offA M M' → bst M' (popc v).toNat (fB ρ A [] 0 0 (ords (popc v).toNat v) (-1, [])) → G M') : xCV Y_X1_arrangeAll none (d + 99) [vR (some 15), vI v] n P M G := by
  have ok : oka A := ⟨_, hC⟩
  have sr := smv_r ok hm 8 (by omega)
  have pl := popc_mem hv
  have o1 : offA M (x_upd M 15 11 (-1)) := ⟨fun c hc => by funext j; exact x_upd_nb (by omega), fun j hj => x_upd_nj hj⟩
  refine b_X1_arrangeAll (d := d + 93) hn hP ?_
  obtain ⟨k, hk'⟩ : ∃ k : Nat, popc v = (k : Int) := ⟨(popc v).toNat, by omega⟩
  rw [hk', Int.toNat_natCast] at H
  have main := fun dd => k_arr (d := dd) (o := o) (ρ := ρ) (A := A) (hrs := smv A v 8) hn hP ⟨sr.1, by omega⟩ k v [] 0 0 (-1, []) (x_upd M 15 11 (-1)) G hv hk' (by show 0 + k ≤ 5; omega) hm (relC_same hC (fun x x0 x1 => o1.1 x (by omega))) (clR_of (fun x x0 x1 => o1.1 x (by omega)) hR) (wC_A o1 hw) (by rw [o1.2 2 (by decide)]; exact h2) (Int.le_refl _) (Or.inr (by omega)) ⟨Int.le_refl _, by show (0 : Int) ≤ 999 * ((0 : Nat) : Int); omega⟩ (fun j hj => absurd hj (by show ¬ j < 0; omega)) ⟨x_upd_at _ _ _ _, by show (-1 : Int) ≤ -1; omega, by show (-1 : Int) ≤ 5000; omega, fun q => absurd rfl q⟩ (fun M' o' _ b' => H M' (offA_trans o1 o') (by
    have e : ([] : List Int).length + k = k := by show 0 + k = k; omega
    rw [e] at b'
    exact b'))
  have : k = 1 ∨ k = 2 ∨ k = 3 ∨ k = 4 ∨ k = 5 := by omega
  rcases this with rfl | rfl | rfl | rfl | rfl
  · exact main (d + 92)
  · exact main (d + 91)
  · exact main (d + 90)
  · exact main (d + 89)
  · exact main (d + 88)
theorem op_session (hn : 82 ≤ n) (hP : x_PP P) {v i : Int} (h : Rel M) : op2 n P Y_X9_session Y_X10_session (d + 100) [vI v, vI i] M := by
  obtain ⟨ρ, hρ⟩ := Rel_rul h
  have ok := Rel_oka h
  have no : ¬ vs (M 65) v i → xCI Y_X10_session none (d + 100) [vR (some 64), vI v, vI i] n P M (fun M2 z2 => z2 = -2 ∧ Rel M2) := fun q => op_q h (offC_refl M) (fun _ _ _ => rfl) (fun F HF => q_session hn hP hρ ok (fun _ M' o' e' => HF M' o' e') (fun z => absurd z q))
  refine b_X9_session (d := d + 93) hn hP (c_J6_bitAny hn (fun z1 hz1 => c_X9_within hn ⟨fun z => no (fun q => bi_0.mp z q.1), fun z => ?_⟩))
  have hv := bi_n0.mp z
  have v8 : in8 v := ⟨by omega, by omega⟩
  have e1 := hz1 v8
  have pr := popc_r v
  have pl := popc_mem v8
  have ne := memF_ne (v := v) (by omega)
  refine ⟨fun q => no (fun w => absurd w.2.1 (by omega)), fun q5 => ⟨by unfold inR; omega, c_X9_within hn ⟨fun zi => ?_, fun zi => no (fun w => bi_0.mp zi (by have := w.2.2.1; omega))⟩⟩⟩
  have hi := bi_n0.mp zi
  have a0 : M 65 0 = M 4 1 := h.1.1.1
  have m8 := h.1.2.2.2.1.1
  have loop : ∀ (m c : Nat), c + m = 8 → (∀ x, 0 ≤ x → x < (c : Int) → bi1 v x → wt (M 65) x) → xW Y_X9_session none (d + 100) 0 0 41 [(0, vR (some 0)), (1, vI v), (2, vI i), (4, vI (smv (M 65) v c)), (5, vI (c : Int))] [] (0, 0) (n, P, M) (kI n P (fun M1 z1 => xCI Y_X10_session none (d + 100) [vR (some 64), vI v, vI i] n P M1 (fun M2 z2 => z2 = z1 ∧ Rel M2))) := by
    intro m
    induction m with
    | zero =>
      intro c hc hwt
      have c8 : c = 8 := by omega
      subst c8
      have hval : vs (M 65) v i := ⟨by omega, by omega, by omega, fun x x0 x1 hb => hwt x x0 (by have : ((8 : Nat) : Int) = 8 := rfl; omega) hb⟩
      have hm : ∀ c, 0 ≤ c → c < 8 → bi1 v c → 0 ≤ c ∧ c < M 65 0 := fun x x0 x1 hb => (hval.2.2.2 x x0 x1 hb).1
      have sr := smv_r ok hm 8 (by omega)
      refine b_X9_session_41 (d := d + 93) hn hP ⟨fun _ => ?_, fun q => absurd (by have : ((8 : Nat) : Int) = 8 := rfl; omega) q⟩
      refine k_ruling hn hP h.1 hρ (fun o ho => k_look hn hP h.1 ho (by omega) (fun M1 o1 e1 q1 w1 => k_arrAll hn hP v8 (by omega) hm (relC_same h.1 e1) (clR_C o1 ho) w1 q1 (fun M2 o2 b2 => ?_)))
      have oC : offC M M2 := fun c hc h63 => by
        rw [o2.1 c (by omega)]
        exact o1 c hc h63
      have eK : ∀ c, 1 ≤ c → c < 12 → M2 c = M c := fun c c0 c1 => by
        rw [o2.1 c (by omega)]
        exact e1 c c0 c1
      have e65 := offC_65 oC
      generalize hB : fB ρ (M 65) [] 0 0 (ords (popc v).toNat v) (-1, []) = B at *
      have B0 : 0 ≤ B.1 := by
        rw [← hB]
        refine fB_nn ρ (M 65) _ ?_ _
        rw [ords_rws (v := v) (k := (popc v).toNat) (by omega) (by omega)]
        intro q
        exact rws_ne _ _ (List.map_eq_nil_iff.mp q)
      obtain ⟨g1, g2, g3, g4⟩ := b2
      obtain ⟨g5, g6⟩ := g4 (by omega)
      have ref : xCI Y_X10_session none (d + 100) [vR (some 64), vI v, vI i] n P M2 (fun M3 z2 => z2 = sAns i B ∧ Rel M3) := op_q h oC eK (fun F HF => q_session (ρ := ρ) hn hP (by rw [e65]; exact rho_C oC hρ) (by rw [e65]; exact ok) (fun z => absurd (by rw [e65]; exact hval) z) (fun _ M' o' e' => by rw [e65, hB]; exact HF M' o' e'))
      unfold sAns at ref
      refine ⟨fun z => ⟨by omega, ?_⟩, fun z => ?_⟩
      · rw [if_neg z] at ref
        have := g5 i.toNat (by omega)
        rw [show ((i.toNat : Nat) : Int) = i by omega] at this
        rw [this]
        exact ref
      · rw [if_pos z] at ref
        rw [g1]
        exact ref
    | succ m ih =>
      intro c hc hwt
      have es : smv (M 65) v (c + 1) = smv (M 65) v c + (if bi1 v c then M 65 (20 + 7 * c + 2) else 0) := rfl
      refine b_X9_session_41 (d := d + 93) hn hP ⟨fun q => absurd q (by omega), fun _ => ⟨fun nb => b_X9_session_91 (d := d + 93) hn hP ⟨by unfold inR; omega, ?_⟩, fun hb => k_isWaiting hn hP h.1 ⟨fun hw => ?_, fun hw => no (fun q => bi_0.mp hw (q.2.2.2 c (by omega) (by omega) hb))⟩⟩⟩
      · rw [if_neg nb, Int.add_zero] at es
        have := ih (c + 1) (by omega) (fun x x0 x1 hx => by
          by_cases xc : x = (c : Int)
          · subst xc; exact absurd hx nb
          · exact hwt x x0 (by omega) hx)
        rw [es, show ((c + 1 : Nat) : Int) = (c : Int) + 1 by omega] at this
        exact this
      · have hw' := bi_n0.mp hw
        rw [if_pos hb] at es
        have nx := ih (c + 1) (by omega) (fun x x0 x1 hx => by
          by_cases xc : x = (c : Int)
          · subst xc; exact hw'
          · exact hwt x x0 (by omega) hx)
        obtain ⟨k0, k1, k2, k3⟩ := relC_told h.1 hw'.1
        obtain ⟨c8, t0, t1, t2, t3⟩ := oka_told ok hw'.1
        have sb : 0 ≤ smv (M 65) v c ∧ smv (M 65) v c ≤ 72 := by
          have : ∀ j : Nat, j ≤ c → 0 ≤ smv (M 65) v j ∧ smv (M 65) v j ≤ 9 * j := by
            intro j
            induction j with
            | zero => intro _; exact ⟨Int.le_refl _, Int.le_refl _⟩
            | succ j ihj =>
              intro hj
              have q := ihj (by omega)
              show 0 ≤ smv (M 65) v j + (if bi1 v j then M 65 (20 + 7 * j + 2) else 0) ∧ smv (M 65) v j + (if bi1 v j then M 65 (20 + 7 * j + 2) else 0) ≤ _
              by_cases qb : bi1 v j
              · have := (oka_told ok (hwt j (by omega) (by omega) qb).1).2.2.2.1
                rw [if_pos qb]
                omega
              · rw [if_neg qb]
                omega
          have := this c (Nat.le_refl _)
          omega
        refine c_X5_at hn hP (x_rows4 hn hP) (by omega) (by omega) (by omega) ?_
        rw [show M (4 + 1) (4 * (c : Int) + 2) = M 65 (20 + 7 * (c : Int) + 2) from k2.symm]
        rw [es, show ((c + 1 : Nat) : Int) = (c : Int) + 1 by omega] at nx
        exact ⟨by unfold inR; omega, b_X9_session_91 (d := d + 93) hn hP ⟨by unfold inR; omega, nx⟩⟩
  exact loop 8 0 (by omega) (fun x x0 x1 => absurd x1 (by omega))
end Sess7
