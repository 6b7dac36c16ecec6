/-! class, then reference: one call each, the same answer, the relation again -/
def op2 (n : Nat) (P : xP) (Yc Yr : xY) (d : Nat) (as : List xV) (M : xM) : Prop := xCI Yc none d (vR (some 0) :: as) n P M (fun M1 z1 => xCI Yr none d (vR (some 64) :: as) n P M1 (fun M2 z2 => z2 = z1 ∧ Rel M2))
theorem offC_65 {M M' : xM} (h : offC M M') : M' 65 = M 65 := h 65 (by omega) (by omega)
theorem Rel_same {M M1 M2 : xM} (h : Rel M) (h1 : offC M M1) (h2 : ∀ c, 1 ≤ c → c < 12 → M1 c = M c) (h3 : offR M1 M2) (h4 : M2 65 = M1 65) : Rel M2 :=
  Rel_op h h1 (relC_same h.1 h2) h3 (h4.trans (offC_65 h1)) rfl
theorem Rel_set {M M1 : xM} {A' : Int → Int} (h : Rel M) (h1 : offC M M1) (h2 : relC A' (CC M1)) (h5 : A' 1 = M 65 1) : Rel (setA M1 65 A') := Rel_op h h1 h2 (offR_set (offR_refl M1) (by omega)) (setA_at _ _ _) h5
theorem Rel_oka {M : xM} (h : Rel M) : oka (M 65) := ⟨_, h.1⟩
def pt4 (f : Int → Int) (L v : Int) : Int → Int := fun j => if L ≤ j ∧ j < L + 4 then by4 v (j - L) else f j
def TP (L : Int) (f g : Int → Int) : Prop := ∀ i, 0 ≤ i → i < L → f i = g i ∧ 0 ≤ f i ∧ f i ≤ 255
theorem TP_4 {L v : Int} {f g : Int → Int} (h : TP L f g) : TP (L + 4) (pt4 f L v) (pt4 g L v) := fun i i0 i1 => by
  unfold pt4
  by_cases hi : L ≤ i ∧ i < L + 4
  · rw [if_pos hi, if_pos hi]
    exact ⟨rfl, x_and_255 _⟩
  · rw [if_neg hi, if_neg hi]
    exact h i i0 (by omega)
/-- four bytes more on the class's tape -/
def c4 (M : xM) (v : Int) : xM := x_upd (x_blk M 38 (M 37 1) 4 (fun j => by4 v (j - M 37 1))) 37 1 (M 37 1 + 4)
theorem c4_len (M : xM) (v : Int) : c4 M v 37 1 = M 37 1 + 4 := x_upd_at _ _ _ _
theorem c4_38 (M : xM) (v : Int) : c4 M v 38 = pt4 (M 38) (M 37 1) v := by
  funext j
  unfold c4 pt4
  rw [x_upd_nb (by decide)]
  by_cases h : M 37 1 ≤ j ∧ j < M 37 1 + 4
  · rw [if_pos h, x_blk_in h.1 h.2]
  · rw [if_neg h, x_blk_out (fun z => h z.2)]
theorem c4_ne {M : xM} {v : Int} {c : Nat} (h1 : c ≠ 37) (h2 : c ≠ 38) : c4 M v c = M c := by
  funext j
  unfold c4
  rw [x_upd_nb h1, x_blk_out (fun z => h2 z.1)]
theorem r4_68 (M : xM) (v : Int) : r4 M v 68 = pt4 (M 68) (M 64 4) v := by
  funext j
  unfold r4 pt4
  rw [x_upd_nb (by decide)]
  by_cases h : M 64 4 ≤ j ∧ j < M 64 4 + 4
  · rw [if_pos h, x_blk_in h.1 h.2]
  · rw [if_neg h, x_blk_out (fun z => h z.2)]
theorem r4_ne {M : xM} {v : Int} {c : Nat} (h1 : c ≠ 64) (h2 : c ≠ 68) : r4 M v c = M c := by
  funext j
  unfold r4
  rw [x_upd_nb h1, x_blk_out (fun z => h2 z.1)]
theorem r4_64 {M : xM} {v j : Int} (hj : j ≠ 4) : r4 M v 64 j = M 64 j := by
  unfold r4
  rw [x_upd_nj hj, x_blk_out (fun z => absurd z.1 (by decide))]
/-- only the tapes change -/
theorem Rel_tape {M M2 : xM} (h : Rel M) (e : ∀ c, c ≠ 37 → c ≠ 38 → c ≠ 64 → c ≠ 68 → M2 c = M c) (e64 : ∀ j, j ≠ 4 → M2 64 j = M 64 j) (ht : tpR M2) : Rel M2 := by
  obtain ⟨r1, r2, r3, r4, r5, r6⟩ := h
  have h14 := r1.2.1.1
  refine ⟨?_, ?_, ?_, fun τ t0 t1 => ?_, ht, ?_⟩
  · rw [e 65 (by decide) (by decide) (by decide) (by decide)]
    exact relC_same r1 (fun c c0 c1 => e c (by omega) (by omega) (by omega) (by omega))
  · rw [e 66 (by decide) (by decide) (by decide) (by decide)]
    have q : ∀ i, i < 11 → ∀ j, CK M2 i j = CK M i j := fun i hi j => by
      show M2 (26 + i) j = M (26 + i) j
      rw [e (26 + i) (by omega) (by omega) (by omega) (by omega)]
    exact relC_of r2 (fun _ _ _ => rfl) (q 0 (by omega) _) (q 0 (by omega) _) (q 0 (by omega) _) (q 0 (by omega) _) (fun j _ _ => q 1 (by omega) j) (fun j _ _ => q 2 (by omega) j) (q 3 (by omega) _) (fun j _ _ => q 4 (by omega) j) (q 5 (by omega) _) (fun j _ _ => q 6 (by omega) j) (q 7 (by omega) _) (fun j _ _ => q 8 (by omega) j) (q 9 (by omega) _) (fun j _ _ => q 10 (by omega) j)
  · rw [e 66 (by decide) (by decide) (by decide) (by decide), e 65 (by decide) (by decide) (by decide) (by decide)]
    exact r3
  · rw [e 65 (by decide) (by decide) (by decide) (by decide)] at t1
    obtain ⟨T, hT⟩ := r4 τ t0 t1
    exact ⟨T, txt_of ⟨t0, by omega⟩ (fun c c0 c1 => e c (by omega) (by omega) (by omega) (by omega)) (e 67 (by decide) (by decide) (by decide) (by decide)) hT⟩
  · rw [e 0 (by decide) (by decide) (by decide) (by decide), e64 5 (by decide), e64 6 (by decide)]
    exact r6
section Ops3
variable {g : Option Nat} {d n : Nat} {P : xP} {M : xM} {F : xM → Int → Prop} {G : xM → Prop}
theorem c_X6_put (hn : 82 ≤ n) (hP : x_PP P) {v : Int} (h0 : 0 ≤ M 37 1 ∧ M 37 1 ≤ 296) (H : G (c4 M v)) : xCV Y_X6_put g d [vR (some 37), vI v] n P M G := by
  unfold c4 at H
  generalize hT : M 37 1 = T at H h0
  have key := up_ind (p := fun i => xW Y_X6_put g d 0 0 3 [(0, vR (some 37)), (1, vI v), (2, vI (24 - 8 * i))] [] (0, 0) (n, P, x_upd (x_blk M 38 T i (fun j => by4 v (j - T))) 37 1 (T + i)) (kV n P G)) (lo := 0) (N := 4) ?_ ?_ 0 (by omega) (by omega)
  · rw [x_blk_0, Int.add_zero] at key
    have e : x_upd M 37 1 T = M := by rw [← hT]; exact x_upd_self M 37 1
    rw [e] at key
    exact b_X6_put hn hP key
  · exact b_X6_put_3 hn hP ⟨fun _ => H, fun h => absurd (by decide) h⟩
  · intro i h1 h2 h3
    refine b_X6_put_3 hn hP ⟨fun h => absurd h (by omega), fun _ => ?_⟩
    rw [x_upd_at]
    refine ⟨fun h => absurd h (by omega), fun _ => ⟨by omega, by unfold inR; omega, b_X6_put_43 hn hP ⟨by unfold inR; omega, ?_⟩⟩⟩
    have hk : 24 - 8 * i = 0 ∨ 24 - 8 * i = 8 ∨ 24 - 8 * i = 16 ∨ 24 - 8 * i = 24 := by omega
    rw [x_byte hk, x_upd_comm (a := 37) (b := 38) (by decide), x_upd_upd, x_blk_succ h1 rfl (by unfold by4; rw [show T + i - T = i by omega]), show 24 - 8 * i + (-8) = 24 - 8 * (i + 1) by omega, show T + i + 1 = T + (i + 1) by omega]
    exact h3
theorem c_X9_feed (hn : 82 ≤ n) (hP : x_PP P) {v1 v2 v3 v4 v5 : Int} (h0 : 0 ≤ M 37 1 ∧ M 37 1 ≤ 300) (H0 : ¬ M 37 1 + 20 ≤ 300 → F M (-1)) (H1 : M 37 1 + 20 ≤ 300 → F (c4 (c4 (c4 (c4 (c4 M v1) v2) v3) v4) v5) (M 37 1 + 20)) : xCI Y_X9_feed g (d + 1) [vR (some 0), vI v1, vI v2, vI v3, vI v4, vI v5] n P M F := by
  refine b_X9_feed hn hP (b_X6_hasRoom hn hP ⟨by unfold inR; omega, fun h => ⟨fun z => absurd rfl z, fun _ => H0 (by omega)⟩, fun h => ⟨fun _ => ?_, fun z => absurd z (by decide)⟩⟩)
  refine c_X6_put hn hP (by omega) (c_X6_put hn hP (by rw [c4_len]; omega) (c_X6_put hn hP (by rw [c4_len, c4_len]; omega) (c_X6_put hn hP (by rw [c4_len, c4_len, c4_len]; omega) (c_X6_put hn hP (by rw [c4_len, c4_len, c4_len, c4_len]; omega) ?_))))
  rw [c4_len, c4_len, c4_len, c4_len, c4_len, show M 37 1 + 4 + 4 + 4 + 4 + 4 = M 37 1 + 20 by omega]
  exact H1 (by omega)
theorem op_feed (hn : 82 ≤ n) (hP : x_PP P) {v1 v2 v3 v4 v5 : Int} (h : Rel M) : op2 n P Y_X9_feed Y_X10_feed (d + 100) [vI v1, vI v2, vI v3, vI v4, vI v5] M := by
  obtain ⟨t1, t2, t3⟩ := h.2.2.2.2.1
  refine c_X9_feed hn hP t2 (fun hz => c_X10_feed hn hP (by omega) (fun _ => ⟨rfl, h⟩) (fun z => absurd z (by omega))) (fun hz => ?_)
  have e64 : ∀ j, c4 (c4 (c4 (c4 (c4 M v1) v2) v3) v4) v5 64 j = M 64 j := fun j => by rw [c4_ne (by decide) (by decide), c4_ne (by decide) (by decide), c4_ne (by decide) (by decide), c4_ne (by decide) (by decide), c4_ne (by decide) (by decide)]
  have T5 : TP (M 37 1 + 4 + 4 + 4 + 4 + 4) (pt4 (pt4 (pt4 (pt4 (pt4 (M 38) (M 37 1) v1) (M 37 1 + 4) v2) (M 37 1 + 4 + 4) v3) (M 37 1 + 4 + 4 + 4) v4) (M 37 1 + 4 + 4 + 4 + 4) v5) (pt4 (pt4 (pt4 (pt4 (pt4 (M 68) (M 37 1) v1) (M 37 1 + 4) v2) (M 37 1 + 4 + 4) v3) (M 37 1 + 4 + 4 + 4) v4) (M 37 1 + 4 + 4 + 4 + 4) v5) := TP_4 (TP_4 (TP_4 (TP_4 (TP_4 t3))))
  have f38 : c4 (c4 (c4 (c4 (c4 M v1) v2) v3) v4) v5 38 = pt4 (pt4 (pt4 (pt4 (pt4 (M 38) (M 37 1) v1) (M 37 1 + 4) v2) (M 37 1 + 4 + 4) v3) (M 37 1 + 4 + 4 + 4) v4) (M 37 1 + 4 + 4 + 4 + 4) v5 := by
    simp only [c4_38, c4_len]
  have f37 : c4 (c4 (c4 (c4 (c4 M v1) v2) v3) v4) v5 37 1 = M 37 1 + 4 + 4 + 4 + 4 + 4 := by rw [c4_len, c4_len, c4_len, c4_len, c4_len]
  have fne : ∀ c, c ≠ 37 → c ≠ 38 → c4 (c4 (c4 (c4 (c4 M v1) v2) v3) v4) v5 c = M c := fun c h1 h2 => by rw [c4_ne h1 h2, c4_ne h1 h2, c4_ne h1 h2, c4_ne h1 h2, c4_ne h1 h2]
  generalize c4 (c4 (c4 (c4 (c4 M v1) v2) v3) v4) v5 = N at *
  have n64 : N 64 4 = M 37 1 := (e64 4).trans t1.symm
  refine c_X10_feed hn hP (by omega) (fun z => absurd hz (by omega)) (fun _ => ⟨by omega, ?_⟩)
  have g68 : r4 (r4 (r4 (r4 (r4 N v1) v2) v3) v4) v5 68 = pt4 (pt4 (pt4 (pt4 (pt4 (M 68) (M 37 1) v1) (M 37 1 + 4) v2) (M 37 1 + 4 + 4) v3) (M 37 1 + 4 + 4 + 4) v4) (M 37 1 + 4 + 4 + 4 + 4) v5 := by
    simp only [r4_68, r4_len, n64, fne 68 (by decide) (by decide)]
  have g64 : r4 (r4 (r4 (r4 (r4 N v1) v2) v3) v4) v5 64 4 = M 37 1 + 4 + 4 + 4 + 4 + 4 := by rw [r4_len, r4_len, r4_len, r4_len, r4_len, n64]
  have gne : ∀ c, c ≠ 64 → c ≠ 68 → r4 (r4 (r4 (r4 (r4 N v1) v2) v3) v4) v5 c = N c := fun c h1 h2 => by rw [r4_ne h1 h2, r4_ne h1 h2, r4_ne h1 h2, r4_ne h1 h2, r4_ne h1 h2]
  have gj : ∀ j, j ≠ 4 → r4 (r4 (r4 (r4 (r4 N v1) v2) v3) v4) v5 64 j = N 64 j := fun j hj => by rw [r4_64 hj, r4_64 hj, r4_64 hj, r4_64 hj, r4_64 hj]
  generalize r4 (r4 (r4 (r4 (r4 N v1) v2) v3) v4) v5 = N2 at *
  refine Rel_tape h (fun c h1 h2 h3 h4 => (gne c h3 h4).trans (fne c h1 h2)) (fun j hj => (gj j hj).trans (e64 j)) ?_
  have p37 : N2 37 1 = M 37 1 + 4 + 4 + 4 + 4 + 4 := by rw [gne 37 (by decide) (by decide)]; exact f37
  refine ⟨p37.trans g64.symm, by omega, fun i i0 i1 => ?_⟩
  rw [gne 38 (by decide) (by decide), f38, g68]
  exact T5 i i0 (by omega)
theorem op_end (hn : 82 ≤ n) (hP : x_PP P) {k : Int} (h : Rel M) : op2 n P Y_X9_end Y_X10_end (d + 100) [vI k] M := by
  obtain ⟨t1, t2, t3⟩ := h.2.2.2.2.1
  refine b_X9_end hn hP (c_X9_within hn ⟨fun hz => ?_, fun hz => ?_⟩)
  · have hk := bi_n0.mp hz
    have u64 : x_upd M 37 1 k 64 4 = M 64 4 := x_upd_nb (by decide)
    refine c_X10_end hn hP (fun z => absurd hk (by rw [u64] at z; omega)) (fun _ => ⟨rfl, ?_⟩)
    refine Rel_tape h (fun c h1 h2 h3 h4 => by funext j; rw [x_upd_nb h3, x_upd_nb h1]) (fun j hj => by rw [x_upd_nj hj, x_upd_nb (by decide)]) ?_
    unfold tpR
    rw [x_upd_nb (by decide), x_upd_at, x_upd_at]
    refine ⟨rfl, by omega, fun i i0 i1 => ?_⟩
    rw [x_upd_nb (by decide), x_upd_nb (by decide), x_upd_nb (by decide), x_upd_nb (by decide)]
    exact t3 i i0 (by omega)
  · have hk := bi_0.mp hz
    exact c_X10_end hn hP (fun _ => ⟨rfl, h⟩) (fun z => absurd z (by omega))
theorem op_newCase (hn : 82 ≤ n) (hP : x_PP P) {k r e s : Int} (h : Rel M) : op2 n P Y_X9_newCase Y_X10_newCase (d + 100) [vI k, vI r, vI e, vI s] M := by
  have hm := h.1.2.2.2.1.1
  refine k_newCase hn hP h.1 (fun hz => c_X10_newCase hn hP hm (fun _ => ⟨rfl, h⟩) (fun z => absurd z hz)) (fun hz M1 o1 r1 => ?_)
  have e65 := offC_65 o1
  refine c_X10_newCase hn hP (by rw [e65]; exact hm) (fun z => absurd (by rw [e65]; exact hz) z) (fun _ => ?_)
  rw [e65]
  refine ⟨rfl, Rel_set h o1 r1 ?_⟩
  unfold rCase
  rw [if_neg (by omega), if_neg (by omega), if_neg (by omega), if_neg (by omega), if_neg (by omega), if_neg (by omega)]
theorem op_fault (hn : 82 ≤ n) (hP : x_PP P) {w : Int} (h : Rel M) : op2 n P Y_X9_fault Y_X10_fault (d + 100) [vI w] M := by
  obtain ⟨f1, f2⟩ := h.2.2.2.2.2
  refine b_X9_fault hn hP ⟨fun h0 => ⟨fun h1 => c_X10_fault hn hP ?_, fun h1 => c_X10_fault hn hP ?_⟩, fun h0 => c_X10_fault hn hP ?_⟩
  · rw [if_neg h0, if_neg h1]; exact ⟨rfl, h⟩
  · rw [if_neg h0, if_pos h1]; exact ⟨f2.symm, h⟩
  · rw [if_pos h0]; exact ⟨f1.symm, h⟩
theorem op_by (hn : 82 ≤ n) (hP : x_PP P) {t : Int} (h : Rel M) : op2 n P Y_X9_by Y_X10_by (d + 100) [vI t] M := by
  have h1 := h.1.2.1.1
  refine k_by hn hP h.1 (fun hz => c_X10_by hn hP h1 (fun _ => ⟨rfl, h⟩) (fun z => absurd z hz)) (fun hz M1 o1 r1 => ?_)
  have e65 := offC_65 o1
  refine c_X10_by hn hP (by rw [e65]; exact h1) (fun z => absurd (by rw [e65]; exact hz) z) (fun _ => ?_)
  rw [x_upd_up, e65]
  exact ⟨rfl, Rel_set h o1 r1 rfl⟩
theorem op_call (hn : 82 ≤ n) (hP : x_PP P) {c : Int} (h : Rel M) : op2 n P Y_X9_call Y_X10_call (d + 100) [vI c] M := by
  have hm := h.1.2.2.2.1.1
  have h3 := h.1.2.1.2.2.1
  refine k_call hn hP h.1 (fun hz => c_X10_call hn hP hm h3 (fun _ => ⟨rfl, h⟩) (fun z => absurd z hz)) (fun hz M1 o1 r1 => ?_)
  have e65 := offC_65 o1
  refine c_X10_call hn hP (by rw [e65]; exact hm) (by rw [e65]; exact h3) (fun z => absurd (by rw [e65]; exact hz) z) (fun _ => ?_)
  rw [e65]
  exact ⟨rfl, Rel_set h o1 r1 (by rw [frm_2 (frm_call (by omega)) (by omega), keep_at h.1 (by omega) (by omega)])⟩
theorem op_delay (hn : 82 ≤ n) (hP : x_PP P) (h : Rel M) : op2 n P Y_X9_delay Y_X10_delay (d + 100) [] M := by
  have h3 := h.1.2.1.2.2.1
  have h16 := h.1.2.2.2.1.2.1.2.2.2.2.2.2.2.1
  refine k_delay hn hP h.1 (fun hz => c_X10_delay hn hP h3 h16.1 (fun _ => ⟨rfl, h⟩) (fun z => absurd z hz)) (fun hz M1 o1 r1 => ?_)
  have e65 := offC_65 o1
  refine c_X10_delay hn hP (by rw [e65]; exact h3) (by rw [e65]; exact h16.1) (fun z => absurd (by rw [e65]; exact hz) z) (fun _ => ?_)
  rw [e65]
  exact ⟨rfl, Rel_set h o1 r1 ((if_neg (by decide)).trans (keep_at h.1 (by omega) (by omega)))⟩
theorem op_appeal (hn : 82 ≤ n) (hP : x_PP P) {c : Int} (h : Rel M) : op2 n P Y_X9_appeal Y_X10_appeal (d + 100) [vI c] M := by
  have hm := h.1.2.2.2.1.1
  have h3 := h.1.2.1.2.2.1
  refine k_appeal hn hP h.1 (fun hz => c_X10_appeal hn hP hm h3 (fun _ => ⟨rfl, h⟩) (fun z => absurd z hz)) (fun hz M1 o1 r1 => ?_)
  have e65 := offC_65 o1
  refine c_X10_appeal hn hP (by rw [e65]; exact hm) (by rw [e65]; exact h3) (fun z => absurd (by rw [e65]; exact hz) z) (fun _ => ?_)
  rw [e65]
  exact ⟨rfl, Rel_set h o1 r1 (by rw [frm_2 (frm_appeal (by omega)) (by omega), keep_at h.1 (by omega) (by omega)])⟩
theorem op_gust (hn : 82 ≤ n) (hP : x_PP P) {q f : Int} (h : Rel M) : op2 n P Y_X9_gust Y_X10_gust (d + 100) [vI q, vI f] M := by
  have h3 := h.1.2.1.2.2.1
  refine k_gust hn hP h.1 (fun hz => c_X10_gust hn hP h3 (fun _ => ⟨rfl, h⟩) (fun z => absurd z hz)) (fun hz M1 o1 r1 => ?_)
  have e65 := offC_65 o1
  refine c_X10_gust hn hP (by rw [e65]; exact h3) (fun z => absurd (by rw [e65]; exact hz) z) (fun _ => ?_)
  rw [e65]
  exact ⟨rfl, Rel_set h o1 r1 ((if_neg (by decide)).trans ((if_neg (by decide)).trans (keep_at h.1 (by omega) (by omega))))⟩
theorem court_r {A : Int → Int} (h : oka A) : A 13 ≠ -1 → 0 ≤ A 13 ∧ A 13 < 8 := fun hz => by
  obtain ⟨K, hI⟩ := oka_inv h
  have hm := hI.1
  rcases hI.2.2.2.2.1 with ⟨hc1, _⟩ | ⟨c1, _, _⟩
  · exact absurd hc1 hz
  · omega
theorem op_withdraw (hn : 82 ≤ n) (hP : x_PP P) (h : Rel M) : op2 n P Y_X9_withdraw Y_X10_withdraw (d + 100) [] M := by
  have h3 := h.1.2.1.2.2.1
  have hc := court_r (Rel_oka h)
  refine k_withdraw hn hP h.1 (fun hz => c_X10_withdraw hn hP h3 hc (fun _ => ⟨rfl, h⟩) (fun z => absurd hz z)) (fun hz M1 o1 r1 => ?_)
  have e65 := offC_65 o1
  refine c_X10_withdraw hn hP (by rw [e65]; exact h3) (by rw [e65]; exact hc) (fun z => absurd z (by rw [e65]; exact hz)) (fun _ => ?_)
  rw [e65]
  exact ⟨rfl, Rel_set h o1 r1 (by rw [frm_2 (frm_leave (by rw [keep_at h.1 (by omega) (by omega)]; exact hc hz)) (by omega), keep_at h.1 (by omega) (by omega)])⟩
theorem op_hour (hn : 82 ≤ n) (hP : x_PP P) {v : Int} (h : Rel M) : op2 n P Y_X9_hour Y_X10_hour (d + 100) [vI v] M := by
  obtain ⟨ρ, hρ⟩ := Rel_rul h
  refine k_hour hn hP h.1 hρ (fun hz => q_hour hn hP hρ (Rel_oka h) (fun _ => ⟨rfl, h⟩) (fun z => absurd z hz)) (fun hz M1 o1 r1 => ?_)
  have e65 := offC_65 o1
  refine q_hour hn hP (ρ := ρ) (by rw [e65]; exact rho_C o1 hρ) (by rw [e65]; exact Rel_oka h) (fun z => absurd (by rw [e65]; exact hz) z) (fun _ M2 o2 e2 => ?_)
  rw [e65] at e2 ⊢
  exact ⟨rfl, Rel_op h o1 r1 o2 e2 ((hrs_ok (rho_okR hρ) v.toNat (Rel_oka h) (by omega)).2.2 1 (by omega) (by omega))⟩
theorem dec_lo {ρ : Option xTx} (hR : okR ρ) : ∀ (k : Nat) {A : Int → Int}, oka A → 0 < A 0 → ∀ j, 0 ≤ j → j < 8 → rDec ρ k A j = A j
  | 0, A, _, _ => fun _ _ _ => rfl
  | k + 1, A, h, h0 => fun j j0 j1 => by
    have q := oka_hap h hR h0
    show rDec ρ k (rHap ρ A) j = A j
    rw [dec_lo hR k q.1 (by rw [q.2 0 (by omega) (by omega)]; exact h0) j j0 j1, q.2 j j0 j1]
theorem op_decades (hn : 82 ≤ n) (hP : x_PP P) {s v : Int} (h : Rel M) : op2 n P Y_X9_decades Y_X10_decades (d + 100) [vI s, vI v] M := by
  obtain ⟨ρ, hρ⟩ := Rel_rul h
  have ok := Rel_oka h
  have hm := h.1.2.2.2.1.1
  refine k_decades hn hP h.1 hρ (fun hz => q_decades hn hP hρ ok (fun _ => ⟨rfl, h⟩) (fun z => absurd z hz)) (fun hz M1 o1 r1 => ?_)
  have e65 := offC_65 o1
  refine q_decades hn hP (ρ := ρ) (by rw [e65]; exact rho_C o1 hρ) (by rw [e65]; exact ok) (fun z => absurd (by rw [e65]; exact hz) z) (fun _ M2 o2 e2 => ?_)
  rw [e65] at e2 ⊢
  refine ⟨rfl, Rel_op h o1 r1 o2 e2 ?_⟩
  rw [dec_lo (rho_okR hρ) v.toNat (oka_seed (oka_keep ok) (by omega)) (by rw [up_ne (by decide), oka_at ok (by decide) (by decide)]; omega) 1 (by omega) (by omega), up_ne (by decide), oka_at ok (by decide) (by decide)]
theorem op_undo (hn : 82 ≤ n) (hP : x_PP P) (h : Rel M) : op2 n P Y_X9_undo Y_X10_undo (d + 100) [] M := by
  have h3 := h.1.2.1.2.2.1
  have hm := h.1.2.2.2.1.1
  refine k_undo hn hP h.1 (fun hz => c_X10_undo hn hP h3 hm (fun _ => ⟨rfl, h⟩) (fun z => absurd hz z)) (fun hz M1 o1 r1 => ?_)
  have e65 := offC_65 o1
  refine c_X10_undo hn hP (by rw [e65]; exact h3) (by rw [e65]; exact hm) (fun z => absurd z (by rw [e65]; exact hz)) (fun _ => ?_)
  rw [e65]
  exact ⟨rfl, Rel_set h o1 r1 rfl⟩
theorem op_record (hn : 82 ≤ n) (hP : x_PP P) {c q y : Int} (h : Rel M) (hy : y = 0 ∨ y = 1) : op2 n P Y_X9_record Y_X10_record (d + 100) [vI c, vI q, vI y] M := by
  have hm := h.1.2.2.2.1.1
  have h4 := h.1.2.1.2.2.2.2.1
  refine k_record hn hP h.1 hy (fun hc M1 o1 r1 => ?_) (fun hc hz => c_X10_record hn hP hm h4 hy (fun z => absurd z hc) (fun _ _ => ⟨rfl, h⟩) (fun z => absurd z hz)) (fun hz M1 o1 r1 => ?_)
  · have e65 := offC_65 o1
    refine c_X10_record hn hP (by rw [e65]; exact hm) (by rw [e65]; exact h4) hy (fun _ => ?_) (fun z => absurd hc z) (fun z => absurd hc (by omega))
    rw [e65]
    exact ⟨rfl, Rel_set h o1 r1 rfl⟩
  · have e65 := offC_65 o1
    refine c_X10_record hn hP (by rw [e65]; exact hm) (by rw [e65]; exact h4) hy (fun z => absurd z (by omega)) (fun _ z => absurd (by rw [e65]; exact hz) z) (fun _ => ?_)
    rw [e65]
    refine ⟨rfl, Rel_set h o1 r1 ?_⟩
    unfold rRec
    rw [up_ne (by omega), up_ne (by omega), up_ne (by omega), up_ne (by omega)]
theorem op_learn (hn : 82 ≤ n) (hP : x_PP P) {c y : Int} (h : Rel M) (hy : y = 0 ∨ y = 1) : op2 n P Y_X9_learn Y_X10_learn (d + 100) [vI c, vI y] M := by
  have hm := h.1.2.2.2.1.1
  have h5 := h.1.2.1.2.2.2.2.2.1
  refine k_learn hn hP h.1 hy (fun hc M1 o1 r1 => ?_) (fun hc hz => c_X10_learn hn hP hm h5 hy (fun z => absurd z hc) (fun _ _ => ⟨rfl, h⟩) (fun z => absurd z hz)) (fun hz M1 o1 r1 => ?_)
  · have e65 := offC_65 o1
    refine c_X10_learn hn hP (by rw [e65]; exact hm) (by rw [e65]; exact h5) hy (fun _ => ?_) (fun z => absurd hc z) (fun z => absurd hc (by omega))
    rw [e65]
    exact ⟨rfl, Rel_set h o1 r1 rfl⟩
  · have e65 := offC_65 o1
    refine c_X10_learn hn hP (by rw [e65]; exact hm) (by rw [e65]; exact h5) hy (fun z => absurd z (by omega)) (fun _ z => absurd (by rw [e65]; exact hz) z) (fun _ => ?_)
    rw [e65]
    refine ⟨rfl, Rel_set h o1 r1 ?_⟩
    unfold rLearn
    rw [up_ne (by omega), up_ne (by omega), up_ne (by omega)]
theorem op_counsel (hn : 82 ≤ n) (hP : x_PP P) {p s : Int} (h : Rel M) : op2 n P Y_X9_counsel Y_X10_counsel (d + 100) [vI p, vI s] M := by
  have h6 := h.1.2.1.2.2.2.2.2.2
  refine k_counsel hn hP h.1 (fun hc M1 o1 r1 => ?_) (fun hc hz => c_X10_counsel hn hP h6 (fun z => absurd z hc) (fun _ _ => ⟨rfl, h⟩) (fun z => absurd z hz)) (fun hz M1 o1 r1 => ?_)
  · have e65 := offC_65 o1
    refine c_X10_counsel hn hP (by rw [e65]; exact h6) (fun _ => ?_) (fun z => absurd hc z) (fun z => absurd hc (by omega))
    rw [e65]
    exact ⟨rfl, Rel_set h o1 r1 rfl⟩
  · have e65 := offC_65 o1
    refine c_X10_counsel hn hP (by rw [e65]; exact h6) (fun z => absurd z (by omega)) (fun _ z => absurd (by rw [e65]; exact hz) z) (fun _ => ?_)
    rw [e65]
    refine ⟨rfl, Rel_set h o1 r1 ?_⟩
    unfold rCouns
    rw [up_ne (by omega), up_ne (by omega), up_ne (by omega)]
end Ops3
