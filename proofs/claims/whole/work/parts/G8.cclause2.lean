/-! the class's Reader: laws, clauses, all -/
/-- the class's state between two clauses -/
def cB (t J : Nat) (K V p : Nat → Int) (M : xM) (R : tR) (l : List (Int × Int)) (C : List tC) (j : Nat) : Prop := (∃ κ, cl t J K V p κ M j l) ∧ lwC t M R ∧ M t 5 = (C.length : Int) ∧ ∀ i : Nat, i < C.length → crC t M i (C.getD i (0, 0, 0, 0))
section Cclause2
variable {g : Option Nat} {d n : Nat} {P : xP} {M M0 : xM} {F : xM → Int → Prop} {t J : Nat} {K V p : Nat → Int} {κ : Int} {R : tR} {l : List (Int × Int)} {C : List tC} {j m fu : Nat}
/-- a law's words, told of kind κ -/
theorem k_lwB (hn : 83 ≤ n) (hP : x_PP P) (hT : x_Text n P t) (hr0 : P 82 0 = some 37) (hr1 : P 82 1 = some t) (ht : 43 ≤ t ∧ t ≤ 58) (hJ : ∀ j, j ≤ J → (K j = 73 ↔ j = J)) (hV : ∀ j, 0 ≤ V j ∧ V j ≤ 10000) (hκ : 0 ≤ κ ∧ κ < 8) {s0 : Int} (hd : 52 ≤ d + 3) (hf : 16 * J + 6 ≤ fu) (hR : lwC t M R) (hc : cl t J K V p κ M j l)
    (H1 : (lwB K V fu R l κ s0 j).1 = 0 → ∀ N, offTx t M N → (∀ k, k ≠ 1 → k ≠ 6 → N t k = M t k) → N (t + 4) = M (t + 4) → cl t J K V p κ N (lwB K V fu R l κ s0 j).2.1 (lwB K V fu R l κ s0 j).2.2.2.1 → lwC t N (lwB K V fu R l κ s0 j).2.2.1 → F N 1)
    (H0 : (lwB K V fu R l κ s0 j).1 ≠ 0 → ∀ N, offTx t M N → flt t J K V p N (lwB K V fu R l κ s0 j).1 (lwB K V fu R l κ s0 j).2.1 → F N 0) : xW Y_X4_readLaw g (d + 4) 0 0 43 [(0, vR (some 82)), (2, vI (l.length : Int))] [vI s0] (0, 0) (n, P, M) (kI n P F) := by
  generalize hb : lwB K V fu R l κ s0 j = b at H1 H0
  unfold lwB at hb
  refine k_law43 hn hP hT hr0 hr1 ht hJ hV hκ (f := fu) hd (by omega) hc (fun e N oN cN => ?_) (fun e N oN fN => ?_)
  · rw [if_pos e] at hb
    subst hb
    have o1 : offTx t M (x_upd (x_upd N (t + 2) κ (l.length : Int)) (t + 3) κ ((l ++ (lwS K V κ fu s0 j).2.2).length : Int)) := offTx_upd (offTx_upd (offTx_X oN) (by omega)) (by omega)
    refine H1 rfl _ o1 (fun k k1 k6 => ?_) ?_ (cl_t4 ht (cl_t4 ht cN (c := 2) (by omega) _ _) (c := 3) (by omega) _ _) ?_
    · rw [x_upd_nb (by omega), x_upd_nb (by omega)]; exact oN.2 k k1 k6
    · funext q; rw [x_upd_nb (by omega), x_upd_nb (by omega), oN.1 (t + 4) (by omega) (by omega) (by omega)]
    · intro q q0 q8
      have e2 : N (t + 2) = M (t + 2) := oN.1 (t + 2) (by omega) (by omega) (by omega)
      have e3 : N (t + 3) = M (t + 3) := oN.1 (t + 3) (by omega) (by omega) (by omega)
      by_cases hq : q = κ
      · subst hq
        refine ⟨fun z => ?_, fun q' z => ?_⟩
        · have z' : (if q = q then some _ else R q) = none := z
          rw [if_pos rfl] at z'
          cases z'
        · have z' : (if q = q then some _ else R q) = some q' := z
          rw [if_pos rfl] at z'
          cases z'
          exact ⟨by rw [x_upd_nb (by omega), x_upd_at], x_upd_at _ _ _ _⟩
      · have er : updR R κ ((l.length : Int), ((l ++ (lwS K V κ fu s0 j).2.2).length : Int)) q = R q := if_neg hq
        have a3 : x_upd (x_upd N (t + 2) κ (l.length : Int)) (t + 3) κ ((l ++ (lwS K V κ fu s0 j).2.2).length : Int) (t + 3) q = M (t + 3) q := by rw [x_upd_nj hq, x_upd_nb (by omega), e3]
        have a2 : x_upd (x_upd N (t + 2) κ (l.length : Int)) (t + 3) κ ((l ++ (lwS K V κ fu s0 j).2.2).length : Int) (t + 2) q = M (t + 2) q := by rw [x_upd_nb (by omega), x_upd_nj hq, e2]
        rw [a3, a2]
        exact ⟨fun z => (hR q q0 q8).1 (er.symm.trans z), fun q' z => (hR q q0 q8).2 q' (er.symm.trans z)⟩
  · rw [if_neg e] at hb
    subst hb
    exact H0 e N (offTx_X oN) fN
theorem k_readLaw (hn : 83 ≤ n) (hP : x_PP P) (hT : x_Text n P t) (hr0 : P 82 0 = some 37) (hr1 : P 82 1 = some t) (ht : 43 ≤ t ∧ t ≤ 58) (hJ : ∀ j, j ≤ J → (K j = 73 ↔ j = J)) (hV : ∀ j, 0 ≤ V j ∧ V j ≤ 10000) {w : Int} (hw : 0 ≤ w ∧ w ≤ 4) (hd : 52 ≤ d + 3) (hf : 16 * J + 6 ≤ fu) (hR : lwC t M R) (hq : ∀ κ q, 0 ≤ κ → κ < 8 → R κ = some q → q.1 < q.2) (hc : cl t J K V p κ M j l)
    (H1 : (bdS K V fu R l w j).1 = 0 → ∀ N, offTx t M N → (∀ k, k ≠ 1 → k ≠ 6 → N t k = M t k) → N (t + 4) = M (t + 4) → (∃ κ, cl t J K V p κ N (bdS K V fu R l w j).2.1 (bdS K V fu R l w j).2.2.2.1) → lwC t N (bdS K V fu R l w j).2.2.1 → F N 1)
    (H0 : (bdS K V fu R l w j).1 ≠ 0 → ∀ N, offTx t M N → flt t J K V p N (bdS K V fu R l w j).1 (bdS K V fu R l w j).2.1 → F N 0) : xCI Y_X4_readLaw g (d + 4) [vR (some 82), vI w] n P M F := by
  obtain ⟨d', rfl⟩ : ∃ d', d = d' + 49 := ⟨d - 49, by omega⟩
  refine b_X4_readLaw hn hP hT hr0 hr1 (b_X4_lawOf hn hT hr0 hr1 ⟨by unfold inR; omega, by unfold inR; omega, fun n0 => ?_, fun y0 => ?_⟩)
  · obtain ⟨o1, c1⟩ := cl_kind ht hc (w - 1 + 4)
    have e3 : w - 1 + 4 = w + 3 := by omega
    rw [e3] at o1 c1 ⊢
    have eb : bdS K V fu R l w j = lwB K V fu R l (w + 3) (if w = 3 then 1 else 0) j := by
      unfold bdS
      rw [if_neg n0, if_pos (by omega)]
    rw [eb] at H1 H0
    have hR1 : lwC t (x_upd M 82 4 (w + 3)) R := lwC_of (o1.1 (t + 2) (by omega) (by omega) (by omega)) (o1.1 (t + 3) (by omega) (by omega) (by omega)) hR
    have sz := c1.2.2.1.1
    have fin : ∀ s0, s0 = (if w = 3 then 1 else 0) → xW Y_X4_readLaw g (d' + 49 + 4) 0 0 43 [(0, vR (some 82)), (2, vI (l.length : Int))] [vI s0] (0, 0) (n, P, x_upd M 82 4 (w + 3)) (kI n P F) := fun s0 hs => by
      subst hs
      exact k_lwB hn hP hT hr0 hr1 ht hJ hV (by omega) hd hf hR1 c1 (fun e N oN k1 k4 cN lN => H1 e N (offTx_trans (offTx_X o1) oN) (fun k q1 q6 => (k1 k q1 q6).trans (o1.2 k q1 q6)) (k4.trans (o1.1 (t + 4) (by omega) (by omega) (by omega))) ⟨_, cN⟩ lN) (fun e N oN fN => H0 e N (offTx_trans (offTx_X o1) oN) fN)
    refine b_X4_readLaw_21 hn hP hT hr0 hr1 ?_
    rw [sz]
    exact ⟨fun z => absurd z n0, fun _ => ⟨fun n3 => fin 0 (if_neg n3).symm, fun y3 => b_X4_readLaw_38 hn hP hT hr0 hr1 (fin 1 (if_pos y3).symm)⟩⟩
  · obtain ⟨o1, c1⟩ := cl_kind ht hc (w - 1 + 4)
    have eb : bdS K V fu R l w j = (if K j = 72 ∧ V j < 4 ∧ R (V j) ≠ none then no 4 j R l else if fgS K V 0 3 j ≠ 0 then no (fgS K V 0 3 j) j R l else if K (j + 1) ≠ 58 then no 1 (j + 1) R l else lwB K V fu R l (V j) 1 (j + 2)) := if_pos y0
    generalize hb : bdS K V fu R l w j = b at H1 H0 eb
    have v0 := hV j
    have e2 : x_upd M 82 4 (w - 1 + 4) (t + 2) = M (t + 2) := o1.1 (t + 2) (by omega) (by omega) (by omega)
    have e3 : x_upd M 82 4 (w - 1 + 4) (t + 3) = M (t + 3) := o1.1 (t + 3) (by omega) (by omega) (by omega)
    have hs : ∀ v, 0 ≤ v → v < 4 → (M (t + 2) v < M (t + 3) v ↔ R v ≠ none) := fun v v1 v2 => by
      have h := hR v v1 (by omega)
      cases e : R v with
      | none => have := h.1 e; exact ⟨fun z => absurd z (by omega), fun z => absurd rfl z⟩
      | some q => have := h.2 q e; have := hq v q v1 (by omega) e; exact ⟨fun _ z => (by cases z), fun _ => (by omega)⟩
    refine k_codeHead hn hP hT hr0 hr1 ht hJ hV c1 (fun k72 v4 has N oN fN => ⟨fun z => absurd rfl z, fun _ => ?_⟩) (fun k72 N oN fN => ⟨fun z => absurd rfl z, fun _ => ?_⟩) (fun k72 v3 N oN fN => ⟨fun z => absurd rfl z, fun _ => ?_⟩) (fun k72 v4 has k58 N oN fN => ⟨fun z => absurd rfl z, fun _ => ?_⟩) (fun k72 v4 has k58 N oN cN => ⟨fun _ => ?_, fun z => absurd z (by decide)⟩)
    · rw [e2, e3] at has
      rw [if_pos ⟨k72, v4, (hs _ v0.1 v4).mp has⟩] at eb
      subst eb
      exact H0 (by show (4 : Int) ≠ 0; decide) N (offTx_trans (offTx_X o1) (offTx_X oN)) fN
    · have e : fgS K V 0 3 j = 1 := by rcases fgS_r (K := K) (V := V) (lo := 0) (hi := 3) (j := j) with q | q | q <;> first | exact q.1 | (exfalso; omega)
      rw [if_neg (fun z => k72 z.1), e, if_pos (by decide)] at eb
      subst eb
      exact H0 (by show (1 : Int) ≠ 0; decide) N (offTx_trans (offTx_X o1) (offTx_X oN)) fN
    · have e : fgS K V 0 3 j = 2 := by rcases fgS_r (K := K) (V := V) (lo := 0) (hi := 3) (j := j) with q | q | q <;> first | exact q.1 | (exfalso; omega)
      rw [if_neg (fun z => by omega), e, if_pos (by decide)] at eb
      subst eb
      exact H0 (by show (2 : Int) ≠ 0; decide) N (offTx_trans (offTx_X o1) (offTx_X oN)) fN
    · rw [e2, e3] at has
      have e : fgS K V 0 3 j = 0 := by rcases fgS_r (K := K) (V := V) (lo := 0) (hi := 3) (j := j) with q | q | q <;> first | exact q.1 | (exfalso; omega)
      rw [if_neg (fun z => has ((hs _ v0.1 v4).mpr z.2.2)), e, if_neg (fun z => z rfl), if_pos k58] at eb
      subst eb
      exact H0 (by show (1 : Int) ≠ 0; decide) N (offTx_trans (offTx_X o1) (offTx_X oN)) fN
    · rw [e2, e3] at has
      have e : fgS K V 0 3 j = 0 := by rcases fgS_r (K := K) (V := V) (lo := 0) (hi := 3) (j := j) with q | q | q <;> first | exact q.1 | (exfalso; omega)
      rw [if_neg (fun z => has ((hs _ v0.1 v4).mpr z.2.2)), e, if_neg (fun z => z rfl), if_neg (fun z => z k58)] at eb
      subst eb
      have o2 := offX_trans o1 oN
      have sz := cN.2.2.1.1
      refine b_X4_readLaw_21 hn hP hT hr0 hr1 ⟨fun _ => b_X4_readLaw_38 hn hP hT hr0 hr1 ?_, fun z => absurd y0 z⟩
      rw [sz]
      exact k_lwB hn hP hT hr0 hr1 ht hJ hV (by omega) hd hf (lwC_of (o2.1 (t + 2) (by omega) (by omega) (by omega)) (o2.1 (t + 3) (by omega) (by omega) (by omega)) hR) cN (fun e N1 oN1 k1 k4 cN1 lN => H1 e N1 (offTx_trans (offTx_X o2) oN1) (fun k q1 q6 => (k1 k q1 q6).trans (o2.2 k q1 q6)) (k4.trans (o2.1 (t + 4) (by omega) (by omega) (by omega))) ⟨_, cN1⟩ lN) (fun e N1 oN1 fN => H0 e N1 (offTx_trans (offTx_X o2) oN1) fN)
/-- one clause -/
theorem k_clause (hn : 83 ≤ n) (hP : x_PP P) (hT : x_Text n P t) (hr0 : P 82 0 = some 37) (hr1 : P 82 1 = some t) (ht : 43 ≤ t ∧ t ≤ 58) (hJ : ∀ j, j ≤ J → (K j = 73 ↔ j = J)) (hV : ∀ j, 0 ≤ V j ∧ V j ≤ 10000) (hd : 52 ≤ d + 3) (hf : 16 * J + 6 ≤ fu) (hq : ∀ κ q, 0 ≤ κ → κ < 8 → R κ = some q → q.1 < q.2) (hC : C.length ≤ 24) (hB : cB t J K V p M R l C j)
    (H1 : (czS K V fu R l C j).1 = 0 → ∀ N, offTx t M N → cB t J K V p N (czS K V fu R l C j).2.2.1 (czS K V fu R l C j).2.2.2.1 (czS K V fu R l C j).2.2.2.2 (czS K V fu R l C j).2.1 → F N 1)
    (H0 : (czS K V fu R l C j).1 ≠ 0 → ∀ N, offTx t M N → flt t J K V p N (czS K V fu R l C j).1 (czS K V fu R l C j).2.1 → F N 0) : xCI Y_X4_readClause g (d + 5) [vR (some 82)] n P M F := by
  obtain ⟨⟨κ, hc⟩, hR, h5, hcr⟩ := hB
  have hn2 : 82 ≤ n := by omega
  have e3 := hc.2.1.2.1
  have jJ := hc.2.1.2.2.1
  generalize hz : czS K V fu R l C j = z at H1 H0
  unfold czS at hz
  have bad1 : ¬ (0 ≤ K j ∧ K j ≤ 11) → xW Y_X4_readClause g (d + 5) 0 0 15 [(0, vR (some 82))] [] (0, 0) (n, P, M) (kI n P F) := fun h => by
    rw [if_pos h] at hz
    subst hz
    exact b_X4_readClause_15 hn hP hT hr0 hr1 (k_refuse hn hP hT hr0 hr1 ht hc (fun N oN fN => ⟨Or.inl rfl, H0 (by show (1 : Int) ≠ 0; decide) N (offTx_X oN) fN⟩))
  have has : ∀ v, 0 ≤ v → v < 8 → (M (t + 2) v < M (t + 3) v ↔ R v ≠ none) := fun v v1 v2 => by
    have h := hR v v1 v2
    cases e : R v with
    | none => have := h.1 e; exact ⟨fun z => absurd z (by omega), fun z => absurd rfl z⟩
    | some q => have := h.2 q e; have := hq v q v1 v2 e; exact ⟨fun _ z => (by cases z), fun _ => (by omega)⟩
  -- the clause begins
  have at60 : ∀ x2, (0 ≤ K j ∧ K j ≤ 11) → ¬ ((1 ≤ K j ∧ K j ≤ 4) ∧ R (K j + 3) ≠ none) → (x2 = 0 ↔ 4 < K j) → xW Y_X4_readClause g (d + 5) 0 0 60 [(0, vR (some 82)), (1, vI (K j)), (2, vI x2)] [] (0, 0) (n, P, M) (kI n P F) := fun x2 hk hno hx => by
    rw [if_neg (fun z => z hk), if_neg hno] at hz
    refine b_X4_readClause_60 hn hP hT hr0 hr1 ⟨fun lt => ?_, fun ge => ?_⟩
    rotate_left
    · rw [if_pos (by omega)] at hz
      subst hz
      exact k_refuse hn hP hT hr0 hr1 ht hc (fun N oN fN => ⟨Or.inl rfl, H0 (by show (6 : Int) ≠ 0; decide) N (offTx_X oN) fN⟩)
    rw [if_neg (by omega)] at hz
    have jlt : j < J := by
      have : j ≠ J := fun e => by have := (hJ j jJ).mpr e; omega
      omega
    refine b_X7_startClause hn2 hP hT ⟨fun z => absurd z (by omega), fun _ => ⟨by unfold inR; omega, by omega, by rw [x_upd_nb (by omega)]; unfold inR; omega, ?_⟩⟩
    have e5 : x_upd M (t + 4) (M t 5 * 4) (K j) t 5 = M t 5 := x_upd_nb (by omega)
    rw [e5]
    have ei : M t 5 * 4 = 4 * (C.length : Int) := by omega
    rw [ei]
    generalize hN : x_upd (x_upd M (t + 4) (4 * (C.length : Int)) (K j)) t 5 (M t 5 + 1) = N1
    have c1 : cl t J K V p κ N1 j l := by
      have c0 := cl_t4 ht hc (c := 4) (by omega) (4 * (C.length : Int)) (K j)
      rw [← hN]
      obtain ⟨⟨k1, k2, k3⟩, ⟨h1, h2, h3, h4⟩, ⟨p1, p2, p3, h82⟩, h6⟩ := c0
      refine ⟨⟨?_, k2, fun q hq => ?_⟩, ⟨?_, ?_, h3, ?_⟩, ⟨?_, fun q hq => ?_, ?_⟩, h6⟩
      · rw [x_upd_nb (by omega)]; exact k1
      · exact ⟨by rw [x_upd_nb (by omega)]; exact (k3 q hq).1, by rw [x_upd_nb (by omega)]; exact (k3 q hq).2.1, by rw [x_upd_nb (by omega)]; exact (k3 q hq).2.2⟩
      · rw [x_upd_nb (by omega)]; exact h1
      · rw [x_upd_nb (by omega)]; exact h2
      · rw [x_upd_nb (by omega)]; exact h4
      · rw [x_upd_nj (by decide)]; exact p1
      · rw [x_upd_nb (by omega)]; exact p2 q hq
      · exact ⟨by rw [x_upd_nj (by decide)]; exact p3, by rw [x_upd_nb (by omega)]; exact h82.1, by rw [x_upd_nb (by omega)]; exact h82.2⟩
    have f5 : N1 t 5 = (C.length : Int) + 1 := by rw [← hN, x_upd_at, h5]
    have f4 : N1 (t + 4) (4 * (C.length : Int)) = K j := by rw [← hN, x_upd_nb (by omega), x_upd_at]
    have fo : ∀ i, i ≠ 4 * (C.length : Int) → N1 (t + 4) i = M (t + 4) i := fun i hi => by rw [← hN, x_upd_nb (by omega), x_upd_nj hi]
    have fA : offTx t M N1 := by rw [← hN]; exact offTx_upd (offTx_upd (fun _ _ _ => rfl) (by omega)) (by omega)
    have f2 : N1 (t + 2) = M (t + 2) := by rw [← hN]; funext q; rw [x_upd_nb (by omega), x_upd_nb (by omega)]
    have f3 : N1 (t + 3) = M (t + 3) := by rw [← hN]; funext q; rw [x_upd_nb (by omega), x_upd_nb (by omega)]
    refine k_advance hn hP hT hr0 hr1 ht c1 jlt (fun N2 o2 c2 _ => ?_)
    have g5 : N2 t 5 = (C.length : Int) + 1 := (o2.2 5 (by decide) (by decide)).trans f5
    have g4 : N2 (t + 4) = N1 (t + 4) := o2.1 (t + 4) (by omega) (by omega) (by omega)
    have gA : offTx t M N2 := offTx_trans fA (offTx_X o2)
    have gR : lwC t N2 R := lwC_of ((o2.1 (t + 2) (by omega) (by omega) (by omega)).trans f2) ((o2.1 (t + 3) (by omega) (by omega) (by omega)).trans f3) hR
    have lenC : ∀ c : tC, (C ++ [c]).length = C.length + 1 := fun c => by rw [List.length_append]; rfl
    -- the end of the clause
    have stop : ∀ N3, offTx t M N3 → (bdS K V fu R l (K j) (j + 1)).1 = 0 → (∃ κ, cl t J K V p κ N3 (bdS K V fu R l (K j) (j + 1)).2.1 (bdS K V fu R l (K j) (j + 1)).2.2.2.1) → lwC t N3 (bdS K V fu R l (K j) (j + 1)).2.2.1 → N3 t 5 = (C.length : Int) + 1 → (∀ i, i < 4 * (C.length : Int) → N3 (t + 4) i = M (t + 4) i) → crC t N3 C.length (K j, (bdS K V fu R l (K j) (j + 1)).2.2.2.2) → xW Y_X4_readClause g (d + 5) 0 0 108 [(0, vR (some 82))] [vI 1] (0, 0) (n, P, N3) (kI n P F) := fun N3 o3 b0 cN lN s5 s4 sc => by
      obtain ⟨κ', cN⟩ := cN
      rw [if_neg (fun z => z b0)] at hz
      refine b_X4_readClause_108 hn hP hT hr0 hr1 ⟨fun z => absurd z (by decide), fun _ => k_take hn hP hT hr0 hr1 ht hJ (by decide) cN (fun y N4 o4 c4 => ⟨fun z => absurd z (by decide), fun _ => ?_⟩) (fun y N4 o4 f4 => ⟨fun _ => ?_, fun z => absurd rfl z⟩)⟩
      · rw [if_neg (fun z => z y)] at hz
        subst hz
        have q4 : N4 (t + 4) = N3 (t + 4) := o4.1 (t + 4) (by omega) (by omega) (by omega)
        refine H1 rfl N4 (offTx_trans o3 (offTx_X o4)) ⟨⟨κ', c4⟩, lwC_of (o4.1 (t + 2) (by omega) (by omega) (by omega)) (o4.1 (t + 3) (by omega) (by omega) (by omega)) lN, ?_, fun i hi => ?_⟩
        · rw [o4.2 5 (by decide) (by decide), s5]
          show (C.length : Int) + 1 = ((C ++ [_]).length : Int)
          rw [lenC]; omega
        · have hi' : i < C.length + 1 := by rw [← lenC]; exact hi
          show crC t N4 i ((C ++ [(K j, (bdS K V fu R l (K j) (j + 1)).2.2.2.2)]).getD i (0, 0, 0, 0))
          by_cases q : i = C.length
          · subst q
            rw [getD_app2 (Nat.le_refl _), Nat.sub_self]
            unfold crC at sc ⊢
            rw [q4]
            exact sc
          · rw [getD_app1 (by omega)]
            have h := hcr i (by omega)
            unfold crC at h ⊢
            rw [q4, s4 _ (by omega), s4 _ (by omega), s4 _ (by omega), s4 _ (by omega)]
            exact h
      · rw [if_pos y] at hz
        subst hz
        exact H0 (by show (1 : Int) ≠ 0; decide) N4 (offTx_trans o3 (offTx_X o4)) f4
    have fault : ∀ N3, offTx t M N3 → (bdS K V fu R l (K j) (j + 1)).1 ≠ 0 → flt t J K V p N3 (bdS K V fu R l (K j) (j + 1)).1 (bdS K V fu R l (K j) (j + 1)).2.1 → xW Y_X4_readClause g (d + 5) 0 0 108 [(0, vR (some 82))] [vI 0] (0, 0) (n, P, N3) (kI n P F) := fun N3 o3 b1 fN => by
      rw [if_pos b1] at hz
      subst hz
      exact b_X4_readClause_108 hn hP hT hr0 hr1 ⟨fun _ => H0 b1 N3 o3 fN, fun z => absurd rfl z⟩
    refine ⟨fun z => ?_, fun z => ?_⟩
    · have k4 := hx.mp z
      refine k_deed (fu := fu) (R := R) hn hP hT hr0 hr1 ht hJ (w := K j) (by omega) (m := C.length) (by omega) g5 (by rw [g4]; exact f4) c2 (fun b0 N3 o3 c3 s5 sc eR => stop N3 (offTx_trans gA (offD_Tx o3)) b0 ⟨κ, by rw [eR.2]; exact c3⟩ (by rw [eR.1]; exact lwC_of (o3.1 (t + 2) (by omega) (by omega) (by omega) (by omega)) (o3.1 (t + 3) (by omega) (by omega) (by omega) (by omega)) gR) s5 (fun i hi => ?_) sc) (fun b1 N3 o3 fN => fault N3 (offTx_trans gA (offD_Tx o3)) b1 fN)
      rw [o3.2.2 i (by omega), g4]
      exact fo i (by omega)
    · have k4 : ¬ 4 < K j := fun q => z (hx.mpr q)
      refine k_readLaw hn hP hT hr0 hr1 ht hJ hV (w := K j) (by omega) hd hf gR hq c2 (fun b0 N3 o3 s1 s4 c3 l3 => stop N3 (offTx_trans gA o3) b0 c3 l3 (by rw [s1 5 (by decide) (by decide)]; exact g5) (fun i hi => ?_) ⟨by rw [s4, g4]; exact f4, fun _ _ q => absurd q (by show ¬ 5 ≤ K j; omega), fun q => absurd q (by show ¬ (K j = 5 ∨ K j = 9); omega), fun q => absurd q (by show ¬ K j = 5; omega)⟩) (fun b1 N3 o3 fN => fault N3 (offTx_trans gA o3) b1 fN)
      rw [s4, g4]
      exact fo i (by omega)
  have at31 : ∀ s0, (0 ≤ K j ∧ K j ≤ 11) → (s0 = 0 ↔ 4 < K j) → xW Y_X4_readClause g (d + 5) 0 0 31 [(0, vR (some 82)), (1, vI (K j))] [vI s0] (0, 0) (n, P, M) (kI n P F) := fun s0 hk hs => by
    refine b_X4_readClause_31 hn hP hT hr0 hr1 ⟨fun z => at60 s0 hk (fun q => by have := hs.mp z; omega) hs, fun z => ⟨fun y => at60 s0 hk (fun q => by omega) hs, fun y => b_X4_lawOf hn hT hr0 hr1 ⟨by unfold inR; omega, by unfold inR; omega, ?_⟩⟩⟩
    have k4 : ¬ 4 < K j := fun q => z (hs.mpr q)
    have e : K j - 1 + 4 = K j + 3 := by omega
    rw [e]
    refine c_X7_has hn2 hP hT (by omega) ⟨fun q => at60 s0 hk (fun w => (bi_0.mp q) ((has _ (by omega) (by omega)).mpr w.2)) hs, fun q => ?_⟩
    have hh := (has _ (by omega) (by omega)).mp (bi_n0.mp q)
    rw [if_neg (fun w => w hk), if_pos ⟨by omega, hh⟩] at hz
    subst hz
    exact k_refuse hn hP hT hr0 hr1 ht hc (fun N oN fN => ⟨Or.inl rfl, H0 (by show (4 : Int) ≠ 0; decide) N (offTx_X oN) fN⟩)
  refine b_X4_readClause hn hP hT hr0 hr1 ?_
  rw [e3]
  exact ⟨fun q => bad1 (by omega), fun q => ⟨fun q2 => ⟨fun q4 => at31 0 (by omega) ⟨fun _ => q4, fun _ => rfl⟩, fun q4 => at31 1 (by omega) ⟨fun w => absurd w (by decide), fun w => absurd w q4⟩⟩, fun q2 => bad1 (by omega)⟩⟩
end Cclause2
