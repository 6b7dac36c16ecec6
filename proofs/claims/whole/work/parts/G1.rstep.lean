/-! the reference's steps, in the machine's words -/
abbrev Kf (f : Int → Int) (L : Int) (j : Nat) : Int := kd f L (ps f L j)
abbrev Vf (f : Int → Int) (L : Int) (j : Nat) : Int := vl f L (ps f L j)
def b2 (b : Bool) : Int := if b = true then 1 else 0
def env (f : Int → Int) (L τ κ tr : Int) (J : Nat) (M0 : xM) : Prop := tpT f L M0 ∧ M0 64 14 = (if κ < 4 then 4 else κ - 4) ∧ (0 ≤ κ ∧ κ < 8) ∧ M0 64 21 = tr ∧ tkJ f L J ∧ (0 ≤ τ ∧ τ ≤ 3)
def stM (f : Int → Int) (L τ : Int) (J : Nat) (M0 M : xM) (w : Int) (j : Nat) (p c : List Int) (l : List (Int × Int)) (u : Int) : Prop := offP τ M0 M ∧ tkR f L M (ps f L j) ∧ rp τ M p c l (ops p : Int) w u ∧ inM J j p c l
theorem kd_73 {f : Int → Int} {L s : Int} : kd f L s = 73 ↔ L ≤ s := by
  unfold kd
  by_cases h1 : L ≤ s
  · rw [if_pos h1]; exact ⟨fun _ => h1, fun _ => rfl⟩
  rw [if_neg h1]
  refine ⟨fun z => absurd z ?_, fun z => absurd z h1⟩
  by_cases h2 : isLt (f s)
  · rw [if_pos h2]
    have len : wT.length = 26 := by decide
    rcases wK_r (wd f s (rE ltB f L s)) wT 0 (by decide) with q | q <;> omega
  rw [if_neg h2]
  split
  · decide
  split
  · decide
  split
  · decide
  split
  · omega
  · decide
theorem K_73 {f : Int → Int} {L : Int} {J : Nat} (h : tkJ f L J) : ∀ j, j ≤ J → (Kf f L j = 73 ↔ j = J) := fun j hj => by
  rw [kd_73]
  refine ⟨fun z => ?_, fun e => by rw [e, h.1]; exact Int.le_refl _⟩
  by_cases e : j = J
  · exact e
  · have := h.2.1 j (by omega); omega
theorem V_r {f : Int → Int} {L : Int} (s : Int) (hs : s ≤ L) : 0 ≤ vl f L s ∧ vl f L s ≤ 10000 := by
  unfold vl
  split
  · have rg := rE_rg (q := dgB) (f := f) (L := L) (p := s) hs
    exact nv_r f _ s 0 (fun j j0 j1 => dgB_t.mp (rg.2.1 j j0 (by omega))) (by decide)
  · decide
section Rstep
variable {g : Option Nat} {d n : Nat} {P : xP} {M M0 : xM} {F : xM → Int → Prop} {G : xM → Prop} {f : Int → Int} {L τ κ tr : Int} {J j : Nat} {p c : List Int} {l : List (Int × Int)} {u w : Int}
theorem h_next (hn : 82 ≤ n) (hP : x_PP P) (ht : tpT f L M) (hk : tkR f L M (ps f L j)) (H : ∀ M', offK M M' → tkR f L M' (ps f L (j + 1)) → G M') : xCV Y_X10_nextToken g (d + 1) [vR (some 64)] n P M G := by
  have pr := ps_r (f := f) ht.2.1.1 j
  have e7 := hk.2.1
  have er : 0 ≤ en f L (ps f L j) ∧ en f L (ps f L j) ≤ L := by
    by_cases h : ps f L j < L
    · have := en_r (f := f) h; omega
    · unfold en; rw [if_pos (by omega)]; omega
  refine q_nextToken hn hP ht (by rw [e7]; exact er) (fun M' o' t' => H M' o' ?_)
  rw [e7] at t'
  exact t'
theorem st_tp (E : env f L τ κ tr J M0) (S : stM f L τ J M0 M w j p c l u) : tpT f L M := tpT_P S.1 E.1
theorem st_len (S : stM f L τ J M0 M w j p c l u) : p.length ≤ 80 ∧ (∀ o ∈ p, okO o) ∧ l.length + pw p ≤ j ∧ j ≤ J := ⟨pok_160 S.2.2.2.2.1 S.2.2.2.2.2.1, pok_mem S.2.2.2.2.1, S.2.2.2.2.2.2.2.1, S.2.2.2.1⟩
theorem h_here (hn : 82 ≤ n) (hP : x_PP P) (E : env f L τ κ tr J M0) (S : stM f L τ J M0 M w j p c l u) (H1 : hre tr p → F M 1) (H0 : ¬ hre tr p → F M 0) : xCI Y_X10_isAskHere g (d + 1) [vR (some 64)] n P M F := by
  have e21 : M 64 21 = tr := by rw [S.1.2.1 21 (by decide) (by decide) (by decide) (by decide)]; exact E.2.2.2.1
  have sl := st_len S
  refine b_X10_isAskHere hn hP ⟨fun z => H0 (fun h => h.1 (by omega)), fun z => h_openNow hn hP S.2.2.1.1 (by omega) ⟨fun y => H0 (fun h => h.2 y), fun y => H1 ⟨by omega, y⟩⟩⟩
theorem h_ahead (hn : 82 ≤ n) (hP : x_PP P) (E : env f L τ κ tr J M0) (S : stM f L τ J M0 M w j p c l u) (H1 : ahd tr p → F M 1) (H0 : ¬ ahd tr p → F M 0) : xCI Y_X10_isAskAhead g (d + 2) [vR (some 64)] n P M F := by
  have sl := st_len S
  have len := rep_len S.2.2.1.1
  refine b_X10_isAskAhead hn hP (h_here hn hP E S (fun hh => ⟨fun z => absurd z (by decide), fun _ => ⟨fun z => ?_, fun z => ⟨by unfold inR; omega, by omega, ?_⟩⟩⟩) (fun hh => ⟨fun _ => H0 (fun z => hh z.1), fun z => absurd rfl z⟩))
  · cases p with
    | nil => exact H1 ⟨hh, trivial⟩
    | cons o r => exact absurd len (by rw [z]; show ¬ (0 : Int) = ((r.length + 1 : Nat) : Int); omega)
  · cases p with
    | nil => exact absurd len z
    | cons o r =>
      have e := S.2.2.1.1.1
      have oo := sl.2.1 o List.mem_cons_self
      rw [e]
      refine ⟨fun z41 => H1 ⟨hh, Or.inl z41⟩, fun n41 => ⟨by unfold inR; omega, by omega, c_rank hn (by omega) (b_X10_isIn hn ⟨fun q => ?_, fun q => ⟨fun q2 => ?_, fun q2 => ?_⟩⟩)⟩⟩
      · exact ⟨fun _ => H0 (fun y => by rcases y.2 with w | w; exact n41 w; omega), fun y => absurd rfl y⟩
      · exact ⟨fun _ => H0 (fun y => by rcases y.2 with w | w; exact n41 w; omega), fun y => absurd rfl y⟩
      · exact ⟨fun y => absurd y (by decide), fun _ => H1 ⟨hh, Or.inr (by omega)⟩⟩
/-- a sign or a word that opens -/
theorem h_opened (hn : 82 ≤ n) (hP : x_PP P) (E : env f L τ κ tr J M0) (S : stM f L τ J M0 M w j p c l u) {o : Int} (ho : (o = 4 ∨ o = 20 ∨ o = 40) ∨ (o = 41 ∧ ltT 5 p)) (hk : Kf f L j ≠ 73)
    (H3 : 8 ≤ ops p → F M 3)
    (H0 : ops p < 8 → o ≠ 41 → ∀ M', stM f L τ J M0 M' w (j + 1) (o :: p) c l u → F M' 0)
    (H1 : ops p < 8 → o = 41 → Kf f L (j + 1) ≠ 40 → ∀ M', offP τ M0 M' → tkR f L M' (ps f L (j + 1)) → F M' 1)
    (H4 : ops p < 8 → o = 41 → Kf f L (j + 1) = 40 → ∀ M', stM f L τ J M0 M' w (j + 2) (41 :: p) (1 :: c) l u → F M' 0) : xCI Y_X10_opened g (d + 2) [vR (some 64), vI o] n P M F := by
  have sl := st_len S
  obtain ⟨S1, S2, S3, S4, S5, S6, S7, S8, S9⟩ := S
  have len := rep_len S3.1
  have e18 := S3.2.1
  have lt1 : j + 1 ≤ J := by
    have : j ≠ J := fun e => hk ((K_73 E.2.2.2.2.1 j S4).mpr e)
    omega
  refine b_X10_opened hn hP ⟨fun z => ⟨by unfold inR; omega, by omega, by unfold inR; omega, ?_⟩, fun z => H3 (by omega)⟩
  have p8 : ops p < 8 := by omega
  have e17 : x_upd M 64 18 (M 64 18 + 1) 64 17 = M 64 17 := x_upd_nj (by decide)
  have r1 := rp_push (rp_18 S3 (M 64 18 + 1)) o
  rw [e17, e18] at r1
  have hop : isOp o := by omega
  have eo : (ops p : Int) + 1 = (ops (o :: p) : Int) := by rw [ops_yes hop]; omega
  rw [eo] at r1
  have o1 : offP τ M0 (x_upd (x_upd (x_upd M 64 18 (ops (o :: p) : Int)) 69 (M 64 17) o) 64 17 (M 64 17 + 1)) := offP_64 (offP_c (offP_64 S1 (by omega)) (by omega)) (by omega)
  have t1 : sTk M (x_upd (x_upd (x_upd M 64 18 (ops (o :: p) : Int)) 69 (M 64 17) o) 64 17 (M 64 17 + 1)) := fun k k7 k11 => by rw [x_upd_nj (by omega), x_upd_nb (by decide), x_upd_nj (by omega)]
  rw [e18, eo]
  have pk : pok (o :: p) := by
    rcases ho with h | ⟨h, h'⟩
    · exact pok_op S5 h
    · subst h; exact pok_41 S5 h'
  have pw1 := (pw_cons o p).2
  refine h_next hn hP (tpT_P o1 E.1) (tkR_s t1 S2) (fun M1 k1 t2 => ⟨fun y41 => ?_, fun n41' => ?_⟩)
  · have ks := (tk_kind t2).2.2.2.2 40 (by decide)
    subst y41
    refine ⟨fun z40 => ?_, fun z40 => H1 p8 rfl (fun w => z40 (ks.mpr w)) M1 (offP_K o1 k1) t2⟩
    have r2 := rp_K k1 r1
    have len2 := rep_len r2.2.2.1
    have cl := n41_ops (41 :: p)
    have c41 : n41 (41 :: p) = n41 p + 1 := by show 1 + n41 p = n41 p + 1; omega
    have lt2 : j + 2 ≤ J := by
      have : j + 1 ≠ J := fun e => by have e2 : kd f L (ps f L (j + 1)) = 73 := (K_73 E.2.2.2.2.1 (j + 1) lt1).mpr e; have e3 : kd f L (ps f L (j + 1)) = 40 := ks.mp z40; omega
      omega
    have o41 : ops (41 :: p) = ops p + 1 := ops_yes (by decide)
    refine ⟨by omega, by unfold inR; omega, ?_⟩
    have r3 := rp_cpush r2 1
    have o2 : offP τ M0 (x_upd (x_upd M1 70 (M1 64 19) 1) 64 19 (M1 64 19 + 1)) := offP_64 (offP_c (offP_K o1 k1) (by omega)) (by omega)
    have t3 : sTk M1 (x_upd (x_upd M1 70 (M1 64 19) 1) 64 19 (M1 64 19 + 1)) := fun k k7 k11 => by rw [x_upd_nj (by omega), x_upd_nb (by decide)]
    refine h_next hn hP (tpT_P o2 E.1) (tkR_s t3 t2) (fun M2 k2 t4 => H4 p8 rfl (ks.mp z40) M2 ⟨offP_K o2 k2, t4, rp_K k2 r3, lt2, pk, by omega, ?_, by omega, ?_⟩)
    · rw [c41, ← S7]; rfl
    · intro x hx
      rcases List.mem_cons.mp hx with e | e
      · subst e; decide
      · exact S9 x e
  · refine H0 p8 n41' M1 ⟨offP_K o1 k1, t2, rp_K k1 r1, lt1, pk, by rw [ops_yes hop]; omega, ?_, by omega, S9⟩
    show c.length = (if o = 41 then 1 else 0) + n41 p
    rw [if_neg n41', Nat.zero_add]
    exact S7
theorem h_fact (hn : 82 ≤ n) (hP : x_PP P) (E : env f L τ κ tr J M0) (S : stM f L τ J M0 M w j p c l u) (hl : ltT 5 p) (hk : Kf f L j ≠ 73)
    (H5 : 4 ≤ κ → F M 5)
    (H1 : κ < 4 → Kf f L (j + 1) ≠ 72 → ∀ M', offP τ M0 M' → tkR f L M' (ps f L (j + 1)) → F M' 1)
    (H2 : κ < 4 → Kf f L (j + 1) = 72 → 7 < Vf f L (j + 1) → ∀ M', offP τ M0 M' → tkR f L M' (ps f L (j + 1)) → F M' 2)
    (H0 : κ < 4 → Kf f L (j + 1) = 72 → Vf f L (j + 1) ≤ 7 → ∀ M', stM f L τ J M0 M' 1 (j + 2) (16 :: p) c (l ++ [(24, Vf f L (j + 1))]) u → F M' 0) : xCI Y_X10_factAt g (d + 2) [vR (some 64)] n P M F := by
  have sl := st_len S
  obtain ⟨S1, S2, S3, S4, S5, S6, S7, S8, S9⟩ := S
  have e14 : M 64 14 = (if κ < 4 then 4 else κ - 4) := by rw [S1.2.1 14 (by decide) (by decide) (by decide) (by decide)]; exact E.2.1
  have kr := E.2.2.1
  have J300 := E.2.2.2.2.1.2.2
  have lt1 : j + 1 ≤ J := by
    have : j ≠ J := fun e => hk ((K_73 E.2.2.2.2.1 j S4).mpr e)
    omega
  refine b_X10_factAt hn hP ⟨fun z => ?_, fun z => H5 (by rw [e14] at z; split at z <;> omega)⟩
  have k4 : κ < 4 := by rw [e14] at z; split at z <;> omega
  refine h_next hn hP (tpT_P S1 E.1) S2 (fun M1 k1 t1 => ?_)
  have ks := (tk_kind t1).2.1
  have pr := ps_r (f := f) E.1.2.1.1 (j + 1)
  refine ⟨fun y1 => ?_, fun n1 => H1 k4 (fun q => n1 (ks.mpr q)) M1 (offP_K S1 k1) t1⟩
  have k72 := ks.mp y1
  have nm := tk_num pr.2 t1 k72
  unfold numR at nm
  refine ⟨fun q7 => ?_, fun q7 => H2 k4 k72 (by show 7 < vl f L (ps f L (j + 1)); omega) M1 (offP_K S1 k1) t1⟩
  have lt2 : j + 2 ≤ J := by
    have : j + 1 ≠ J := fun e => by have e2 : kd f L (ps f L (j + 1)) = 73 := (K_73 E.2.2.2.2.1 (j + 1) lt1).mpr e; omega
    omega
  have ev : M1 64 10 = Vf f L (j + 1) := by show M1 64 10 = vl f L (ps f L (j + 1)); omega
  rw [ev]
  refine h_emit hn hP E.2.2.2.2.2 (e := 24) (rp_K k1 S3) (by omega) (by decide) (fun M2 o2 t2 r2 _ _ => ?_)
  have o3 := offP_trans (offP_K S1 k1) o2
  refine h_next hn hP (tpT_P o3 E.1) (tkR_s t2 t1) (fun M3 k3 t3 => ?_)
  have r3 := rp_K k3 r2
  have len := rep_len r3.1
  refine ⟨by omega, by unfold inR; omega, ?_⟩
  have r4 := rp_20 (rp_push r3 16) 1
  have eo : (ops p : Int) = (ops (16 :: p) : Int) := by rw [ops_no (by decide)]
  rw [eo] at r4
  refine H0 k4 k72 (by rw [← ev]; exact q7) _ ⟨offP_64 (offP_64 (offP_c (offP_K o3 k3) (by omega)) (by omega)) (by omega), tkR_s (fun k k7 k11 => by rw [x_upd_nj (by omega), x_upd_nj (by omega), x_upd_nb (by decide)]) t3, r4, lt2, pok_16' S5 hl, by rw [ops_no (by decide)]; exact S6, S7.trans (Nat.zero_add _).symm, ?_, S9⟩
  rw [List.length_append]
  show l.length + 1 + (0 + pw p) ≤ j + 2
  omega
end Rstep
