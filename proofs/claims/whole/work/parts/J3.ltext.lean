/-! text() in the law: a cell more is left behind -/
def clP0 (P : xP) : xP := fun a j => if a = 82 then none else P a j
def clM0 (M : xM) : xM := fun a j => if a = 82 then 0 else M a j
def gLeft (G : xG) (k : Nat) : xG := (G.1, G.2.1, G.2.2.1, k, G.2.2.2.2)
theorem ad_low {G : xG} {k a : Nat} (h : a < 82) : x_ad (gLeft G k) a = x_ad G a := by
  have h1 : a < 1000 := by omega
  simp only [x_ad, gLeft, if_pos h1, if_pos h]
theorem low_PL : ∀ a, a < 82 → 5 ≤ x_sk a → ∀ j, j < x_sn a → x_ft (x_sk a - 5) j = 2 → (x_PL.any fun q => q.1 == a && q.2.1 == (j : Int) && Nat.blt q.2.2 82) = true := by decide +kernel
theorem low_P {P : xP} (hP : x_PP P) {a j : Nat} (h : (x_PL.any fun q => q.1 == a && q.2.1 == (j : Int) && Nat.blt q.2.2 82) = true) : ∃ k, P a j = some k ∧ k < 82 := by
  obtain ⟨q, hq, hb⟩ := List.any_eq_true.mp h
  simp only [Bool.and_eq_true, beq_iff_eq] at hb
  obtain ⟨⟨h1, h2⟩, h3⟩ := hb
  refine ⟨q.2.2, ?_, Nat.blt_eq.mp h3⟩
  rw [← h1, ← h2]
  exact hP q hq
theorem low_4 : ∀ a, a < 82 → 5 ≤ x_sk a → ∀ j, j < x_sn a → x_ft (x_sk a - 5) j = 4 → a = 15 ∧ j = 2 := by decide +kernel
theorem low_34 : ∀ a, a < 82 → (x_sk a = 3 ∨ x_sk a = 4) → ∀ j, j < x_sn a → (x_PL.any fun q => q.1 == a && q.2.1 == (j : Int) && Nat.blt q.2.2 82) = true := by decide +kernel
theorem arr_congr {cA : ClassId} {n : Nat} {f f' : Nat → Value} (h : ∀ j, j < n → f j = f' j) : arrV cA n f = arrV cA n f' := by
  unfold arrV
  have e : (Array.ofFn (n := n) fun j => f j.val) = Array.ofFn (n := n) fun j => f' j.val := congrArg Array.ofFn (funext fun j => h j.val j.isLt)
  rw [e]
theorem low_cw {G : xG} {k : Nat} {P : xP} {M : xM} {H : Heap} (hP : x_PP P) (h15 : M 15 2 < 82) (h : va_P G.1 vwCl (x_cw G (82, P, M)) H) : va_P (gLeft G k).1 vwCl (x_cw (gLeft G k) (82, clP0 P, clM0 M)) H := by
  intro a q hq
  obtain ⟨ha, rfl⟩ := x_cw_inv hq
  have ha' : a < 82 := ha
  have hat := h a _ (x_cw_get (G := G) (h := (82, P, M)) ha')
  have pE : ∀ j, clP0 P a j = P a j := fun j => if_neg (by omega)
  have mE : ∀ j, clM0 M a j = M a j := fun j => if_neg (by omega)
  have mp : ∀ o : Option Nat, (∀ z, o = some z → z < 82) → o.map (x_ad (gLeft G k)) = o.map (x_ad G) := fun o ho => by
    cases o with
    | none => rfl
    | some z =>
      show some (x_ad (gLeft G k) z) = some (x_ad G z)
      rw [ad_low (ho z rfl)]
  show va_at G.1 vwCl (x_ad (gLeft G k) a, x_ce G.2.1 (x_ad (gLeft G k)) (clP0 P) (clM0 M) a) H
  rw [ad_low ha']
  have hat' : va_at G.1 vwCl (x_ad G a, x_ce G.2.1 (x_ad G) P M a) H := hat
  have hsk : x_sk a = 0 ∨ x_sk a = 1 ∨ x_sk a = 2 ∨ x_sk a = 3 ∨ x_sk a = 4 ∨ 5 ≤ x_sk a := by omega
  rcases hsk with hs | hs | hs | hs | hs | hs
  · rw [x_ce0 hs] at hat' ⊢
    simp only [mE]
    exact hat'
  · rw [x_ce1 hs] at hat' ⊢
    simp only [mE]
    exact hat'
  · rw [x_ce2 hs] at hat' ⊢
    simp only [mE]
    exact hat'
  · rw [x_ce3 hs] at hat' ⊢
    have h1 : H[x_ad G a]? = some (vp_cell (G.2.1 3) (x_sn a, .inr (.inr (.inr (.inr (fun j : Nat => (P a j).map (x_ad G))))))) := hat'
    show H[x_ad G a]? = some (vp_cell (G.2.1 3) (x_sn a, .inr (.inr (.inr (.inr (fun j : Nat => (clP0 P a j).map (x_ad (gLeft G k))))))))
    rw [h1, vp_cell_q, vp_cell_q]
    refine congrArg some (arr_congr (fun j hj => ?_))
    obtain ⟨z, e1, e2⟩ := low_P hP (low_34 a ha' (Or.inl hs) j hj)
    rw [pE, mp _ (fun z' hz' => by rw [e1] at hz'; cases hz'; exact e2)]
  · rw [x_ce4 hs] at hat' ⊢
    have h1 : H[x_ad G a]? = some (vp_cell (G.2.1 4) (x_sn a, .inr (.inr (.inr (.inr (fun j : Nat => (P a j).map (x_ad G))))))) := hat'
    show H[x_ad G a]? = some (vp_cell (G.2.1 4) (x_sn a, .inr (.inr (.inr (.inr (fun j : Nat => (clP0 P a j).map (x_ad (gLeft G k))))))))
    rw [h1, vp_cell_q, vp_cell_q]
    refine congrArg some (arr_congr (fun j hj => ?_))
    obtain ⟨z, e1, e2⟩ := low_P hP (low_34 a ha' (Or.inr hs) j hj)
    rw [pE, mp _ (fun z' hz' => by rw [e1] at hz'; cases hz'; exact e2)]
  · have hs' : x_sk a = (x_sk a - 5) + 5 := by omega
    rw [x_ce_obj hs'] at hat' ⊢
    have eL : (List.range (x_sn a)).map (x_fv (x_ad (gLeft G k)) (clP0 P) (clM0 M) a (x_sk a - 5)) = (List.range (x_sn a)).map (x_fv (x_ad G) P M a (x_sk a - 5)) := by
      refine List.map_congr_left (fun j hj => ?_)
      have hj' : j < x_sn a := List.mem_range.mp hj
      unfold x_fv
      rw [pE, mE]
      by_cases t2 : x_ft (x_sk a - 5) j = 2
      · rw [if_pos t2, if_pos t2]
        obtain ⟨z, e1, e2⟩ := low_P hP (low_PL a ha' hs j hj' t2)
        rw [mp _ (fun z' hz' => by rw [e1] at hz'; cases hz'; exact e2)]
      · rw [if_neg t2, if_neg t2]
        by_cases t4 : x_ft (x_sk a - 5) j = 4
        · rw [if_pos t4, if_pos t4]
          obtain ⟨rfl, rfl⟩ := low_4 a ha' hs j hj' t4
          rw [mp _ (fun z' hz' => ?_)]
          have e3 : x_dec (M 15 2) = some z' := hz'
          unfold x_dec at e3
          by_cases w : M 15 2 < 0
          · rw [if_pos w] at e3; cases e3
          · rw [if_neg w] at e3
            cases e3
            omega
        · rw [if_neg t4, if_neg t4]
    rw [eL]
    exact hat'
section LawText
variable {p : Program} {l : Launch} {e : Env} {s : State} {m : MethodId} {below : List Frame} {meth : Method} {c : Code} {b Ln : Nat} {xs : Nat → Int32} {G : xG} {H : Heap} {locs : List Loc} {ls : Array Slot} {cells slots : Nat} {QQ : State → Prop} {i : Int} {P : xP} {M : xM} {g : Option Nat}
theorem C_left (C : x_C YL none G p s m #[Value.ref b] meth c H locs (82, P, M)) (hP : x_PP P) : ∃ k, x_C YL (some k) (gLeft G k) p s m #[Value.ref b] meth c H locs (82, clP0 P, clM0 M) := by
  obtain ⟨-, c1, c2, c3, c4, c5, c6, c7⟩ := C
  have hlt : x_ad G 81 < H.size := (c6.2.2 81 _ (x_cw_get (G := G) (h := (82, P, M)) (show 81 < 82 by decide))).lt
  have e81 : x_ad G 81 = G.2.2.1 + 81 := rfl
  refine ⟨H.size - G.2.2.1 - 82, trivial, c1, c2, c3, c4, c5, ⟨fun g1 hg => ?_, c6.2.1, low_cw hP c7.2 c6.2.2⟩, ⟨fun a j => ?_, ?_⟩⟩
  · cases hg
    refine ⟨rfl, ?_⟩
    show H.size = G.2.2.1 + 82 + (H.size - G.2.2.1 - 82)
    omega
  · show if x_lng a j = true then inL (clM0 M a j) else inR (clM0 M a j)
    unfold clM0
    by_cases h82 : a = 82
    · rw [if_pos h82]
      split <;> decide
    · rw [if_neg h82]; exact c7.1 a j
  · show clM0 M 15 2 < 82
    exact c7.2
theorem C_drop {n1 : Nat} (hn : 82 ≤ n1) (C : x_C YL g G p s m #[Value.ref b] meth c H locs (n1, P, M)) : x_C YL none G p s m #[Value.ref b] meth c H locs (82, P, M) := by
  obtain ⟨-, c1, c2, c3, c4, c5, c6, c7⟩ := C
  refine ⟨trivial, c1, c2, c3, c4, c5, ⟨fun g1 hg => (by cases hg), (by show (82 : Nat) < 1000; decide), fun k q hq => ?_⟩, c7⟩
  obtain ⟨hk, rfl⟩ := x_cw_inv hq
  have hk' : k < 82 := hk
  exact c6.2.2 k _ (x_cw_get (G := G) (h := (n1, P, M)) (show k < n1 by omega))
theorem law_text (C : x_C YL none G p s m #[Value.ref b] meth c H locs (82, P, M)) (X : LX s b Ln xs G) (hl : LL G b ls i) (hP : x_PP P) (hR : Rel M) (hc : cells ≤ 1000 ∧ slots ≤ 100000)
    (kend : ∀ G' H' locs' P' M', LX s b Ln xs G' → LL G' b ls i → x_C YL none G' p s m #[Value.ref b] meth c H' locs' (82, P', M') → x_PP P' → Rel M' → W p l e room_1 s m #[Value.ref b] below meth c H' locs' (cells + 1) (slots + 8) QQ (F0 m 1455 ls [])) : W p l e room_1 s m #[Value.ref b] below meth c H locs cells slots QQ (F0 m 355 ls []) := by
  obtain ⟨k, C0⟩ := C_left C hP
  have X' : LX s b Ln xs (gLeft G k) := X
  have hl' : LL (gLeft G k) b ls i := by
    have e0 : x_ad (gLeft G k) 0 = x_ad G 0 := ad_low (by decide)
    have e64 : x_ad (gLeft G k) 64 = x_ad G 64 := ad_low (by decide)
    unfold LL
    rw [e0, e64]
    exact hl
  have hP' : x_PP (clP0 P) := fun q hq => by
    have hne : q.1 ≠ 82 := (by decide : ∀ q ∈ x_PL, q.1 ≠ 82) q hq
    show (if q.1 = 82 then none else P q.1 q.2.1) = some q.2.2
    rw [if_neg hne]
    exact hP q hq
  have hb : x_b0 (clP0 P) (clM0 M) 82 := ⟨fun j => if_pos rfl, fun j => by
    rw [if_neg (fun w => absurd w.1 (by decide))]
    exact if_pos rfl⟩
  have hR' : Rel (clM0 M) := Rel_low hR (fun c hc => by
    funext j
    exact if_neg (by omega))
  refine lv_aload_n (cc := code) C0.2.1.1 C0.2.1.2.1 dL_law_355 rfl (lv_at hl' 1 rfl) ?_
  refine lawV (As := []) (rest := []) (a := 0) (mc' := 1) (ms' := 8) (d := 200) dL_law_356 mv_L_28 rfl (Nat.le_of_ble_eq_true rfl) rfl hl'.1 okNil (Nat.le_of_ble_eq_true rfl) (by omega) (Nat.le_of_ble_eq_true rfl) C0 (op_text (d := 100) hP' hb hR') (fun h1 r1 H1 locs1 q1 _ C1 => ?_)
  obtain ⟨n1, P1, M1, z1, rfl, hn1, rfl, hP1, q1⟩ := q1
  have C1' := C_drop hn1 C1
  refine lv_aload_n (cc := code) C1.2.1.1 C1.2.1.2.1 dL_law_359 rfl (lv_at hl' 2 rfl) ?_
  refine lawV (As := []) (rest := [.int (Int32.ofInt z1)]) (a := 64) (mc' := 0) (ms' := 0) (d := 200) dL_law_360 mv_L_32 rfl (Nat.le_of_ble_eq_true rfl) rfl hl'.1 okNil (Nat.le_of_ble_eq_true rfl) (by omega) (Nat.le_of_ble_eq_true rfl) C1' q1 (fun h2 r2 H2 locs2 q2 _ C2 => ?_)
  obtain ⟨M2, z2, rfl, rfl, rfl, R2⟩ := q2
  exact lv_icmp_eq (cc := code) (x := Int32.ofInt z2) (y := Int32.ofInt z2) (tgt := 1455) C2.2.1.1 C2.2.1.2.1 dL_law_363 (by decide) (fun _ => kend _ H2 locs2 P1 M2 X' hl' C2 hP1 R2) (fun w => absurd rfl w)
end LawText
