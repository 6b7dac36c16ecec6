/-! a text: what is read stays in order, clause by clause; the class's readAll -/
theorem sortK_law {w : Int} (h : 0 ≤ w ∧ w ≤ 4) : sortK w = if w = 0 then 4 else w - 1 := by
  have : w = 0 ∨ w = 1 ∨ w = 2 ∨ w = 3 ∨ w = 4 := by omega
  rcases this with e | e | e | e | e <;> (subst e; decide)
theorem sortK_deed {w : Int} (h : 5 ≤ w ∧ w ≤ 11) : sortK w = w := by
  have : w = 5 ∨ w = 6 ∨ w = 7 ∨ w = 8 ∨ w = 9 ∨ w = 10 ∨ w = 11 := by omega
  rcases this with e | e | e | e | e | e | e <;> (subst e; decide)
section Order
variable {K V : Nat → Int} {R : tR} {l : List (Int × Int)} {C : List tC} {j J fu : Nat} {κ : Int}
theorem cz_in {w : Int} {b : bR} (hC : inC R l C j) (h24 : ¬ 24 ≤ C.length) (hw : 0 ≤ w ∧ w ≤ 11) (hb : bdO J R l w (j + 1) b) (h0 : b.1 = 0) : inC b.2.2.1 b.2.2.2.1 (C ++ [(w, b.2.2.2.2)]) (b.2.1 + 1) := by
  obtain ⟨i1, i2, i3, i4, i5, i6⟩ := hC
  obtain ⟨b1, b2, b3⟩ := hb
  obtain ⟨b4, b5⟩ := b3 h0
  have lenC : (C ++ [(w, b.2.2.2.2)]).length = C.length + 1 := by rw [List.length_append]; rfl
  have mem : ∀ c ∈ C ++ [(w, b.2.2.2.2)], c ∈ C ∨ c = (w, b.2.2.2.2) := fun c hc => by
    rcases List.mem_append.mp hc with z | z
    · exact Or.inl z
    · exact Or.inr (List.mem_singleton.mp z)
  have olds : ∀ {l' : List (Int × Int)} {κ : Int} {q : Int × Int}, okC κ l' q → (∃ i : Nat, i < C.length ∧ htC κ (C.getD i (0, 0, 0, 0)) ∧ (∀ i' : Nat, i' < i → ¬ htC κ (C.getD i' (0, 0, 0, 0))) ∧ (C.getD i (0, 0, 0, 0)).2.1 = q.1 ∧ (C.getD i (0, 0, 0, 0)).2.2.1 = q.2) → okC κ l' q ∧ ∃ i : Nat, i < (C ++ [(w, b.2.2.2.2)]).length ∧ htC κ ((C ++ [(w, b.2.2.2.2)]).getD i (0, 0, 0, 0)) ∧ (∀ i' : Nat, i' < i → ¬ htC κ ((C ++ [(w, b.2.2.2.2)]).getD i' (0, 0, 0, 0))) ∧ ((C ++ [(w, b.2.2.2.2)]).getD i (0, 0, 0, 0)).2.1 = q.1 ∧ ((C ++ [(w, b.2.2.2.2)]).getD i (0, 0, 0, 0)).2.2.1 = q.2 := fun ok h => by
    obtain ⟨i, a1, a2, a3, a4⟩ := h
    refine ⟨ok, i, by omega, ?_, fun i' hi' => ?_, ?_⟩
    · rw [getD_app1 a1]; exact a2
    · rw [getD_app1 (by omega)]; exact a3 i' hi'
    · rw [getD_app1 a1]; exact a4
  rcases b5 with ⟨w5, e1, e2, e3⟩ | ⟨w4, κ, cs, hκ, hRn, w0, w1, e1, e2, e3, o1, o2, o3⟩
  · rw [e1, e2]
    refine ⟨by omega, by omega, by omega, i4, fun c hc => ?_, fun κ k0 k8 => ⟨fun hn c hc => ?_, fun q hq => olds ((i6 κ k0 k8).2 q hq).1 ((i6 κ k0 k8).2 q hq).2⟩⟩
    · rcases mem c hc with z | z
      · exact i5 c z
      · rw [z]; exact ⟨hw, e3⟩
    · rcases mem c hc with z | z
      · exact (i6 κ k0 k8).1 hn c z
      · rw [z]
        intro y
        have y1 : sortK w = (if κ < 4 then 4 else κ - 4) := y.1
        rw [sortK_deed (by omega)] at y1
        split at y1 <;> omega
  · have len : (l ++ cs).length = l.length + cs.length := List.length_append
    have new : ∀ κ', 0 ≤ κ' → κ' < 8 → (htC κ' (w, b.2.2.2.2) ↔ κ' = κ) := fun κ' k0 k8 => by
      have es : sortK w = if w = 0 then 4 else w - 1 := sortK_law (by omega)
      have e3' : (w, b.2.2.2.2).2.2.2 = κ := by rw [e3]
      show (sortK w = (if κ' < 4 then 4 else κ' - 4) ∧ (κ' < 4 → (w, b.2.2.2.2).2.2.2 = κ')) ↔ κ' = κ
      rw [es, e3']
      by_cases z : w = 0
      · have := w0 z
        rw [if_pos z]
        refine ⟨fun y => ?_, fun y => ⟨by rw [if_pos (by omega)], fun _ => y.symm⟩⟩
        by_cases k4 : κ' < 4
        · exact (y.2 k4).symm
        · have := y.1; rw [if_neg k4] at this; omega
      · have := w1 z
        rw [if_neg z]
        refine ⟨fun y => ?_, fun y => ⟨by rw [if_neg (by omega)]; omega, fun q => by omega⟩⟩
        by_cases k4 : κ' < 4
        · have := y.1; rw [if_pos k4] at this; omega
        · have := y.1; rw [if_neg k4] at this; omega
    rw [e1, e2]
    refine ⟨by omega, by omega, by omega, fun c hc h => ?_, fun c hc => ?_, fun κ' k0 k8 => ⟨fun hn c hc => ?_, fun q hq => ?_⟩⟩
    · rcases List.mem_append.mp hc with z | z
      · exact i4 c z h
      · have := o1 c z; exact ⟨this.2.1.1, (this.2.2.2.2 h).2⟩
    · rcases mem c hc with z | z
      · exact i5 c z
      · rw [z]; exact ⟨hw, fun y => absurd y (by show ¬ w = 11; omega)⟩
    · have hn' : (if κ' = κ then some _ else R κ') = none := hn
      by_cases q : κ' = κ
      · rw [if_pos q] at hn'; cases hn'
      · rw [if_neg q] at hn'
        rcases mem c hc with z | z
        · exact (i6 κ' k0 k8).1 hn' c z
        · rw [z]; exact fun y => q ((new κ' k0 k8).mp y)
    · have hq' : (if κ' = κ then some _ else R κ') = some q := hq
      by_cases z : κ' = κ
      · rw [if_pos z] at hq'
        cases hq'
        subst z
        refine ⟨okC_new o1 o2, C.length, by omega, ?_, fun i' hi' => ?_, ?_, ?_⟩
        · rw [getD_app2 (Nat.le_refl _), Nat.sub_self]; exact (new κ' k0 k8).mpr rfl
        · rw [getD_app1 hi']
          refine (i6 κ' k0 k8).1 hRn _ ?_
          rw [List.getD_eq_getElem?_getD, List.getElem?_eq_getElem hi']
          exact List.getElem_mem hi'
        · rw [getD_app2 (Nat.le_refl _), Nat.sub_self, e3]; rfl
        · rw [getD_app2 (Nat.le_refl _), Nat.sub_self, e3]; rfl
      · rw [if_neg z] at hq'
        exact olds (okC_app ((i6 κ' k0 k8).2 q hq').1) ((i6 κ' k0 k8).2 q hq').2
theorem cz_ok (hJ : ∀ j, j ≤ J → (K j = 73 ↔ j = J)) (hV : ∀ j, 0 ≤ V j ∧ V j ≤ 10000) (hf : 16 * J + 6 ≤ fu) (hj : j ≤ J) (hk : K j ≠ 73) (hC : inC R l C j) : (czS K V fu R l C j).1 ≠ -1 ∧ (czS K V fu R l C j).2.1 ≤ J ∧ ((czS K V fu R l C j).1 = 0 → j + 1 ≤ (czS K V fu R l C j).2.1 ∧ inC (czS K V fu R l C j).2.2.1 (czS K V fu R l C j).2.2.2.1 (czS K V fu R l C j).2.2.2.2 (czS K V fu R l C j).2.1) := by
  have lt : j + 1 ≤ J := by
    have : j ≠ J := fun e => hk ((hJ j hj).mpr e)
    omega
  unfold czS
  by_cases h1 : ¬ (0 ≤ K j ∧ K j ≤ 11)
  · rw [if_pos h1]; exact ⟨by show (1 : Int) ≠ -1; decide, hj, fun z => absurd z (by show ¬ (1 : Int) = 0; decide)⟩
  rw [if_neg h1]
  by_cases h2 : (1 ≤ K j ∧ K j ≤ 4) ∧ R (K j + 3) ≠ none
  · rw [if_pos h2]; exact ⟨by show (4 : Int) ≠ -1; decide, hj, fun z => absurd z (by show ¬ (4 : Int) = 0; decide)⟩
  rw [if_neg h2]
  by_cases h3 : 24 ≤ C.length
  · rw [if_pos h3]; exact ⟨by show (6 : Int) ≠ -1; decide, hj, fun z => absurd z (by show ¬ (6 : Int) = 0; decide)⟩
  rw [if_neg h3]
  have bo := bd_ok (l := l) (R := R) hJ hV hf (w := K j) (by omega) (fun q => by
    cases e : R (K j + 3) with
    | none => rfl
    | some y => exact absurd ⟨q, by rw [e]; exact fun z => by cases z⟩ h2) lt
  by_cases h4 : (bdS K V fu R l (K j) (j + 1)).1 ≠ 0
  · rw [if_pos h4]; exact ⟨bo.1, bo.2.1, fun z => absurd z h4⟩
  rw [if_neg h4]
  have h4' : (bdS K V fu R l (K j) (j + 1)).1 = 0 := by omega
  by_cases h5 : K (bdS K V fu R l (K j) (j + 1)).2.1 ≠ 59
  · rw [if_pos h5]; exact ⟨by show (1 : Int) ≠ -1; decide, bo.2.1, fun z => absurd z (by show ¬ (1 : Int) = 0; decide)⟩
  rw [if_neg h5]
  have l2 : (bdS K V fu R l (K j) (j + 1)).2.1 + 1 ≤ J := by
    have := bo.2.1
    have : (bdS K V fu R l (K j) (j + 1)).2.1 ≠ J := fun e => by have := (hJ _ bo.2.1).mpr e; omega
    omega
  refine ⟨by show (0 : Int) ≠ -1; decide, l2, fun _ => ⟨?_, cz_in hC h3 (by omega) bo h4'⟩⟩
  have := (bo.2.2 h4').1
  show j + 1 ≤ (bdS K V fu R l (K j) (j + 1)).2.1 + 1
  omega
theorem inC_0 : inC (fun _ => none) [] [] 0 := ⟨Nat.le_refl _, by decide, Nat.le_refl _, fun c h => (by cases h), fun c h => (by cases h), fun κ _ _ => ⟨fun _ c h => (by cases h), fun q h => (by cases h)⟩⟩
theorem inC_lt (h : inC R l C j) : ∀ κ q, 0 ≤ κ → κ < 8 → R κ = some q → q.1 < q.2 := fun κ q k0 k8 e => ((h.2.2.2.2.2 κ k0 k8).2 q e).1.1.2.1
end Order
section ReadAll
variable {g : Option Nat} {d n : Nat} {P : xP} {M M0 : xM} {F : xM → Int → Prop} {t J : Nat} {K V p : Nat → Int} {R : tR} {l : List (Int × Int)} {C : List tC} {j fu : Nat}
theorem k_clear (hn : 82 ≤ n) (hP : x_PP P) (hT : x_Text n P t) (ht : 43 ≤ t ∧ t ≤ 58) {G : xM → Prop} (H : ∀ N, offTx t M N → N 82 = M 82 → N t 1 = 0 → N t 5 = 0 → N t 6 = 0 → (∀ κ, 0 ≤ κ → κ < 8 → N (t + 2) κ = 0 ∧ N (t + 3) κ = 0) → G N) : xCV Y_X7_clear g d [vR (some t)] n P M G := by
  have loop : ∀ (m : Nat) (i : Int) (N : xM), i + m = 8 → 0 ≤ i → offTx t M N → N 82 = M 82 → N t 1 = 0 → N t 5 = 0 → N t 6 = 0 → (∀ κ, 0 ≤ κ → κ < i → N (t + 2) κ = 0 ∧ N (t + 3) κ = 0) → xW Y_X7_clear g d 0 0 17 [(0, vR (some t)), (1, vI i)] [] (0, 0) (n, P, N) (kV n P G) := by
    intro m
    induction m with
    | zero =>
      intro i N hi i0 o e82 e1 e5 e6 hz
      exact b_X7_clear_17 hn hP hT ⟨fun _ => H N o e82 e1 e5 e6 (fun κ k0 k8 => hz κ k0 (by omega)), fun z => absurd (by omega) z⟩
    | succ m ih =>
      intro i N hi i0 o e82 e1 e5 e6 hz
      refine b_X7_clear_17 hn hP hT ⟨fun z => absurd z (by omega), fun _ => ⟨by omega, by omega, by unfold inR; omega, ih (i + 1) _ (by omega) (by omega) (offTx_upd (offTx_upd o (by omega)) (by omega)) ?_ ?_ ?_ ?_ (fun κ k0 k1 => ?_)⟩⟩
      · funext q; rw [x_upd_nb (by omega), x_upd_nb (by omega), e82]
      · rw [x_upd_nb (by omega), x_upd_nb (by omega)]; exact e1
      · rw [x_upd_nb (by omega), x_upd_nb (by omega)]; exact e5
      · rw [x_upd_nb (by omega), x_upd_nb (by omega)]; exact e6
      · by_cases q : κ = i
        · subst q
          exact ⟨by rw [x_upd_nb (by omega), x_upd_at], x_upd_at _ _ _ _⟩
        · have h := hz κ k0 (by omega)
          exact ⟨by rw [x_upd_nb (by omega), x_upd_nj q]; exact h.1, by rw [x_upd_nj q, x_upd_nb (by omega)]; exact h.2⟩
  refine b_X7_clear hn hP hT (loop 8 0 _ (by decide) (by decide) (offTx_upd (offTx_upd (offTx_upd (fun _ _ _ => rfl) (by omega)) (by omega)) (by omega)) ?_ ?_ ?_ ?_ (fun κ k0 k1 => absurd k1 (by omega)))
  · funext q; rw [x_upd_nb (by omega), x_upd_nb (by omega), x_upd_nb (by omega)]
  · rw [x_upd_nj (by decide), x_upd_nj (by decide), x_upd_at]
  · rw [x_upd_nj (by decide), x_upd_at]
  · rw [x_upd_at]
theorem k_readAll (hn : 83 ≤ n) (hP : x_PP P) (hT : x_Text n P t) (hr0 : P 82 0 = some 37) (hr1 : P 82 1 = some t) (ht : 43 ≤ t ∧ t ≤ 58) (hJ : ∀ j, j ≤ J → (K j = 73 ↔ j = J)) (hV : ∀ j, 0 ≤ V j ∧ V j ≤ 10000) (hd : 52 ≤ d + 3) (hf : 16 * J + 6 ≤ fu) (hk : tokC J K V p M) (h2 : M 82 2 = -1) (h6 : M 82 6 = 0) (h7 : M 82 7 = -1)
    (H1 : (rdA K V fu 301 (fun _ => none) [] [] 0).1 = 0 → ∀ N, offTx t M N → cB t J K V p N (rdA K V fu 301 (fun _ => none) [] [] 0).2.2.1 (rdA K V fu 301 (fun _ => none) [] [] 0).2.2.2.1 (rdA K V fu 301 (fun _ => none) [] [] 0).2.2.2.2 (rdA K V fu 301 (fun _ => none) [] [] 0).2.1 → inC (rdA K V fu 301 (fun _ => none) [] [] 0).2.2.1 (rdA K V fu 301 (fun _ => none) [] [] 0).2.2.2.1 (rdA K V fu 301 (fun _ => none) [] [] 0).2.2.2.2 (rdA K V fu 301 (fun _ => none) [] [] 0).2.1 → F N 1)
    (H0 : (rdA K V fu 301 (fun _ => none) [] [] 0).1 ≠ 0 → ∀ N, offTx t M N → flt t J K V p N (rdA K V fu 301 (fun _ => none) [] [] 0).1 (rdA K V fu 301 (fun _ => none) [] [] 0).2.1 → F N 0) : xCI Y_X4_readAll g (d + 6) [vR (some 82)] n P M F := by
  have hn2 : 82 ≤ n := by omega
  have J300 := hk.2.1
  generalize hz : rdA K V fu 301 (fun _ => none) [] [] 0 = z at H1 H0
  have loop : ∀ (f : Nat) (R : tR) (l : List (Int × Int)) (C : List tC) (j : Nat) (i : Int) (N : xM), J - j < f → rdA K V fu f R l C j = z → j ≤ J → inC R l C j → offTx t M N → cB t J K V p N R l C j → (0 ≤ i ∧ i ≤ (j : Int)) → xW Y_X4_readAll g (d + 6) 0 0 15 [(0, vR (some 82)), (1, vI 1), (2, vI i)] [] (0, 0) (n, P, N) (kI n P F) := by
    intro f
    induction f with
    | zero => intro R l C j i N hf0; omega
    | succ f ih =>
      intro R l C j i N hf0 hr hj hC oN cN hi
      obtain ⟨κ, hc⟩ := cN.1
      have e3 := hc.2.1.2.1
      have er : rdA K V fu (f + 1) R l C j = if K j = 73 then (0, j, R, l, C) else if (czS K V fu R l C j).1 ≠ 0 then czS K V fu R l C j else rdA K V fu f (czS K V fu R l C j).2.2.1 (czS K V fu R l C j).2.2.2.1 (czS K V fu R l C j).2.2.2.2 (czS K V fu R l C j).2.1 := rfl
      rw [er] at hr
      refine b_X4_readAll_15 hn hP hT hr0 hr1 ⟨fun q => absurd q (by omega), fun _ => ⟨fun q => absurd q (by decide), fun _ => ⟨fun q => ⟨Or.inr rfl, ?_⟩, fun q => ?_⟩⟩⟩
      · rw [e3] at q
        rw [if_pos q] at hr
        subst hr
        exact H1 rfl N oN cN hC
      · rw [e3] at q
        rw [if_neg q] at hr
        have co := cz_ok hJ hV hf hj q hC
        refine k_clause hn hP hT hr0 hr1 ht hJ hV hd hf (inC_lt hC) hC.2.1 cN (fun e N1 o1 c1 => ⟨by unfold inR; omega, ?_⟩) (fun e N1 o1 f1 => ⟨by unfold inR; omega, ?_⟩)
        · rw [if_neg (fun w => w e)] at hr
          obtain ⟨q1, q2⟩ := co.2.2 e
          exact ih _ _ _ _ (i + 1) N1 (by omega) hr co.2.1 q2 (offTx_trans oN o1) c1 (by omega)
        · rw [if_pos e] at hr
          subst hr
          have fin := H0 e N1 (offTx_trans oN o1) f1
          exact b_X4_readAll_15 hn hP hT hr0 hr1 ⟨fun _ => ⟨Or.inl rfl, fin⟩, fun _ => ⟨fun _ => ⟨Or.inl rfl, fin⟩, fun w => absurd rfl w⟩⟩
  refine b_X4_readAll hn hP hT hr0 hr1 (k_clear hn2 hP hT ht (fun N o82 e82 e1 e5 e6 hz0 => ?_))
  have k0 := (hk.2.2 0 (Nat.zero_le _)).1
  have e37 : N 37 = M 37 := o82 37 (by decide) (by omega)
  have e39 : N 39 = M 39 := o82 39 (by decide) (by omega)
  have e40 : N 40 = M 40 := o82 40 (by decide) (by omega)
  have e41 : N 41 = M 41 := o82 41 (by decide) (by omega)
  have n2 : N 82 2 = -1 := by rw [e82]; exact h2
  have n5 : N 37 5 = (J : Int) + 1 := by rw [e37]; exact hk.1
  refine b_X4_advance hn hP hT hr0 hr1 ⟨by unfold inR; omega, fun q => absurd q (by omega), fun q => ⟨by unfold inR; omega, by omega, ?_⟩⟩
  rw [n2, show (-1 : Int) + 1 = 0 by decide, e39]
  have k0' : M 39 0 = K 0 := k0
  rw [k0']
  have o3 : offTx t M (x_upd (x_upd N 82 2 0) 82 3 (K 0)) := fun c c1 c2 => by
    rw [← o82 c c1 c2]
    funext q
    rw [x_upd_nb c1, x_upd_nb c1]
  refine loop 301 _ _ _ 0 0 _ (by omega) hz (Nat.zero_le _) inC_0 o3 ⟨⟨N 82 4, ⟨?_, ?_, ?_⟩, ⟨?_, ?_, Nat.zero_le _, ?_⟩, ⟨?_, fun i hi => absurd hi (Nat.not_lt_zero _), ?_, ?_, ?_⟩, Nat.le_refl _⟩, fun κ q0 q8 => ⟨fun _ => ?_, fun q e => (by cases e)⟩, ?_, fun i hi => absurd hi (Nat.not_lt_zero _)⟩ (by decide)
  · rw [x_upd_nb (by decide), x_upd_nb (by decide)]; exact n5
  · exact J300
  · intro q hq
    rw [x_upd_nb (by decide), x_upd_nb (by decide), x_upd_nb (by decide), x_upd_nb (by decide), x_upd_nb (by decide), x_upd_nb (by decide), e39, e40, e41]
    exact hk.2.2 q hq
  · rw [x_upd_nj (by decide), x_upd_at]; rfl
  · rw [x_upd_at]
  · rw [x_upd_nj (by decide), x_upd_nj (by decide)]
  · rw [x_upd_nb (by omega), x_upd_nb (by omega)]; exact e1
  · rw [x_upd_nb (by omega), x_upd_nb (by omega)]; exact e6
  · rw [x_upd_nj (by decide), x_upd_nj (by decide), e82]; exact h6
  · rw [x_upd_nj (by decide), x_upd_nj (by decide), e82]; exact h7
  · have h := hz0 κ q0 q8
    rw [x_upd_nb (by omega), x_upd_nb (by omega), x_upd_nb (by omega), x_upd_nb (by omega), h.1, h.2]
    exact Int.le_refl _
  · rw [x_upd_nb (by omega), x_upd_nb (by omega)]; exact e5
end ReadAll
