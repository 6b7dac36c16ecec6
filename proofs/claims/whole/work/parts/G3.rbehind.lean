/-! the reference's behindOne, in the machine's words -/
theorem opn_r : ∀ {p : List Int}, pok p → opn p = -1 ∨ opn p = 40 ∨ opn p = 41
  | [], _ => Or.inl rfl
  | o :: r, h => by
    have ih := opn_r h.1
    have oo := h.2.1
    show (if 40 ≤ o then o else opn r) = -1 ∨ (if 40 ≤ o then o else opn r) = 40 ∨ (if 40 ≤ o then o else opn r) = 41
    split <;> omega
/-- settled down to what is open -/
theorem stl_opn {o : Int} (ho : o = 40 ∨ o = 41) : ∀ {p : List Int} {l : List (Int × Int)}, pok p → opn p = o → ∃ p' l', stl 1 p l = (o :: p', l')
  | [], _, _, h => by
    have h2 : (-1 : Int) = o := h
    omega
  | q :: r, l, hp, h => by
    have e : opn (q :: r) = if 40 ≤ q then q else opn r := rfl
    rw [e] at h
    have rr := rkO_r hp.2.1
    by_cases q40 : 40 ≤ q
    · rw [if_pos q40] at h
      subst h
      have : rkO q = 0 := if_pos q40
      exact ⟨r, l, stl_no (by omega)⟩
    · rw [if_neg q40] at h
      rw [stl_go (by have := rr.2.2 (by omega); omega)]
      exact stl_opn ho hp.1 h
theorem n41_opn : ∀ {p : List Int}, opn p = 41 → 1 ≤ n41 p
  | [], h => absurd h (by decide)
  | q :: r, h => by
    have e : opn (q :: r) = if 40 ≤ q then q else opn r := rfl
    rw [e] at h
    show 1 ≤ (if q = 41 then 1 else 0) + n41 r
    by_cases q40 : 40 ≤ q
    · rw [if_pos q40] at h
      rw [if_pos h]; omega
    · rw [if_neg q40] at h
      have := n41_opn h
      omega
section Rbehind
variable {g : Option Nat} {d n : Nat} {P : xP} {M M0 : xM} {F : xM → Int → Prop} {G : xM → Prop} {f : Int → Int} {L τ κ tr : Int} {J j : Nat} {p c : List Int} {l : List (Int × Int)} {u w : Int}
theorem h_nextOfMost (hn : 82 ≤ n) (hP : x_PP P) (E : env f L τ κ tr J M0) {q : Int} (S : stM f L τ J M0 M 1 j p (q :: c) l u) (hk : Kf f L j ≠ 73) (H7 : q = 6 → F M 7) (H0 : q < 6 → ∀ M', stM f L τ J M0 M' 0 (j + 1) (stl 1 p l).1 ((q + 1) :: c) (stl 1 p l).2 u → F M' 0) : xCI Y_X10_nextOfMost g (d + 2) [vR (some 64)] n P M F := by
  have sl := st_len S
  obtain ⟨S1, S2, S3, S4, S5, S6, S7, S8, S9⟩ := S
  have J300 := E.2.2.2.2.1.2.2
  have len := rep_len S3.2.2.1
  have lc : (q :: c).length = c.length + 1 := rfl
  have n8 := n41_ops p
  have eq := S3.2.2.1.1
  have qr := S9 q List.mem_cons_self
  have lt1 : j + 1 ≤ J := by
    have : j ≠ J := fun e => hk ((K_73 E.2.2.2.2.1 j S4).mpr e)
    omega
  refine b_X10_nextOfMost hn hP ⟨by unfold inR; omega, by omega, fun n6 => ?_, fun y6 => H7 (by omega)⟩
  rw [eq] at n6
  refine h_settle hn hP E.2.2.2.2.2 (by decide) S3 (by omega) sl.2.1 (by omega) (fun M1 o1 t1 r1 => ?_)
  have len1 := rep_len r1.2.2.1
  have eq1 := r1.2.2.1.1
  refine ⟨by unfold inR; omega, by omega, by rw [eq1]; unfold inR; omega, by omega, ?_⟩
  rw [eq1]
  have r2 := rp_20 (rp_ctop r1 (q + 1)) 0
  have o2 : offP τ M0 (x_upd (x_upd M1 70 (M1 64 19 - 1) (q + 1)) 64 20 0) := offP_64 (offP_c (offP_trans S1 o1) (by omega)) (by omega)
  have t2 : sTk M (x_upd (x_upd M1 70 (M1 64 19 - 1) (q + 1)) 64 20 0) := fun k k7 k11 => by rw [x_upd_nj (by omega), x_upd_nb (by decide)]; exact t1 k k7 k11
  obtain ⟨i1, i2, i3, i4, i5⟩ := stl_in (m := 1) (by decide) (l := l) S5
  refine h_next hn hP (tpT_P o2 E.1) (tkR_s t2 S2) (fun M2 k2 t3 => H0 (by omega) M2 ⟨offP_K o2 k2, t3, rp_K k2 r2, lt1, i1, by omega, by rw [i4]; exact S7, by omega, ?_⟩)
  intro x hx
  rcases List.mem_cons.mp hx with e | e
  · omega
  · exact S9 x (List.mem_cons_of_mem _ e)
theorem h_shutM (hn : 82 ≤ n) (hP : x_PP P) (E : env f L τ κ tr J M0) {q : Int} {p' : List Int} {l' : List (Int × Int)} (S : stM f L τ J M0 M 1 j p (q :: c) l u) (hk : Kf f L j ≠ 73) (hs : stl 1 p l = (41 :: p', l')) (H : ∀ M', stM f L τ J M0 M' 1 (j + 1) (16 :: p') c (l' ++ [(25, q)]) u → G M') : xCV Y_X10_shut g (d + 2) [vR (some 64), vI 41] n P M G := by
  have sl := st_len S
  obtain ⟨S1, S2, S3, S4, S5, S6, S7, S8, S9⟩ := S
  have J300 := E.2.2.2.2.1.2.2
  have lt1 : j + 1 ≤ J := by
    have : j ≠ J := fun e => hk ((K_73 E.2.2.2.2.1 j S4).mpr e)
    omega
  have lc : (q :: c).length = c.length + 1 := rfl
  obtain ⟨i1, i2, i3, i4, i5⟩ := stl_in (m := 1) (by decide) (l := l) S5
  rw [hs] at i1 i3 i4 i5
  have o41 : ops (41 :: p') = ops p' + 1 := ops_yes (by decide)
  have c41 : n41 (41 :: p') = n41 p' + 1 := by show 1 + n41 p' = n41 p' + 1; omega
  have w41 : pw (41 :: p') = pw p' + 1 := pw_1 (by decide) (by decide)
  have n8 := n41_ops p
  refine b_X10_shut hn hP (h_settle hn hP E.2.2.2.2.2 (by decide) S3 (by omega) sl.2.1 (by omega) (fun M1 o1 t1 r1 => ?_))
  rw [hs] at r1
  have e18 := r1.2.1
  have len1 := rep_len r1.2.2.1
  have eq1 := r1.2.2.1.1
  refine ⟨by unfold inR; omega, fun z => absurd rfl z, fun _ => ⟨by unfold inR; omega, by omega, ?_⟩⟩
  rw [eq1]
  have r2 := rp_18 r1 (M1 64 18 - 1)
  have e19 : x_upd M1 64 18 (M1 64 18 - 1) 64 19 = M1 64 19 := x_upd_nj (by decide)
  have r3 := rp_19 (v := M1 64 19 - 1) (c' := c) r2 (rep_congr r1.2.2.1.2 (fun _ _ _ => x_upd_nb (by decide)))
  have o3 : offP τ M0 (x_upd (x_upd M1 64 18 (M1 64 18 - 1)) 64 19 (M1 64 19 - 1)) := offP_64 (offP_64 (offP_trans S1 o1) (by omega)) (by omega)
  have t3 : sTk M (x_upd (x_upd M1 64 18 (M1 64 18 - 1)) 64 19 (M1 64 19 - 1)) := fun k k7 k11 => by rw [x_upd_nj (by omega), x_upd_nj (by omega)]; exact t1 k k7 k11
  have i5' : l'.length + pw (41 :: p') ≤ l.length + pw p := i5
  refine h_emit hn hP E.2.2.2.2.2 (e := 25) r3 (by omega) (by decide) (fun M2 o4 t4 r4 _ _ => ?_)
  have len4 : M2 64 17 = ((41 :: p').length : Int) := rep_len r4.1
  have lp : (41 :: p').length = p'.length + 1 := rfl
  have i1' : pok (41 :: p') := i1
  have i3' : ops (41 :: p') ≤ ops p := i3
  have l80 := pok_160 i1' (by omega)
  refine ⟨by unfold inR; omega, by omega, ?_⟩
  have r5 := rp_top r4 16
  have o5 : offP τ M0 (x_upd M2 69 (M2 64 17 - 1) 16) := offP_c (offP_trans o3 o4) (by omega)
  have t5 : sTk M (x_upd M2 69 (M2 64 17 - 1) 16) := fun k k7 k11 => by rw [x_upd_nb (by decide)]; exact (t4 k k7 k11).trans (t3 k k7 k11)
  have e5 : M1 64 18 - 1 = (ops (16 :: p') : Int) := by
    have : ops (16 :: p') = ops p' := ops_no (by decide)
    have e18' : M1 64 18 = (ops (41 :: p') : Int) := e18
    omega
  rw [e5] at r5
  refine h_next hn hP (tpT_P o5 E.1) (tkR_s t5 S2) (fun M3 k3 t6 => H M3 ⟨offP_K o5 k3, t6, rp_K k3 r5, lt1, pok_16 i1', by rw [ops_no (by decide)]; omega, ?_, ?_, fun x hx => S9 x (List.mem_cons_of_mem _ hx)⟩)
  · show c.length = 0 + n41 p'
    have i4' : n41 (41 :: p') = n41 p := i4
    omega
  · rw [List.length_append]
    show l'.length + 1 + (0 + pw p') ≤ j + 1
    omega
theorem h_shutP (hn : 82 ≤ n) (hP : x_PP P) (E : env f L τ κ tr J M0) {p' : List Int} {l' : List (Int × Int)} (S : stM f L τ J M0 M 1 j p c l u) (hk : Kf f L j ≠ 73) (hs : stl 1 p l = (40 :: p', l')) (H : ∀ M', stM f L τ J M0 M' 1 (j + 1) (stl 8 p' l').1 c (stl 8 p' l').2 u → G M') : xCV Y_X10_shut g (d + 2) [vR (some 64), vI 40] n P M G := by
  have sl := st_len S
  obtain ⟨S1, S2, S3, S4, S5, S6, S7, S8, S9⟩ := S
  have J300 := E.2.2.2.2.1.2.2
  have lt1 : j + 1 ≤ J := by
    have : j ≠ J := fun e => hk ((K_73 E.2.2.2.2.1 j S4).mpr e)
    omega
  obtain ⟨i1, i2, i3, i4, i5⟩ := stl_in (m := 1) (by decide) (l := l) S5
  rw [hs] at i1 i3 i4 i5
  have i1' : pok (40 :: p') := i1
  have i3' : ops (40 :: p') ≤ ops p := i3
  have i4' : n41 (40 :: p') = n41 p := i4
  have i5' : l'.length + pw (40 :: p') ≤ l.length + pw p := i5
  have o40 : ops (40 :: p') = ops p' + 1 := ops_yes (by decide)
  have c40 : n41 (40 :: p') = n41 p' := by show 0 + n41 p' = n41 p'; omega
  have w40 : pw (40 :: p') = pw p' := by show 0 + pw p' = pw p'; omega
  refine b_X10_shut hn hP (h_settle hn hP E.2.2.2.2.2 (by decide) S3 (by omega) sl.2.1 (by omega) (fun M1 o1 t1 r1 => ?_))
  rw [hs] at r1
  have e18 : M1 64 18 = (ops (40 :: p') : Int) := r1.2.1
  have len1 : M1 64 17 = ((40 :: p').length : Int) := rep_len r1.1
  have lp : (40 :: p').length = p'.length + 1 := rfl
  have l80 := pok_160 i1' (by omega)
  refine ⟨by unfold inR; omega, fun _ => ⟨by unfold inR; omega, ?_⟩, fun z => absurd z (by decide)⟩
  have r2 := rp_18 r1 (M1 64 18 - 1)
  have r3 := rp_17 (v := M1 64 17 - 1) (p' := p') r2 (rep_congr r1.1.2 (fun _ _ _ => x_upd_nb (by decide)))
  have e5 : M1 64 18 - 1 = (ops p' : Int) := by omega
  rw [e5] at r3
  rw [e5]
  have o3 : offP τ M0 (x_upd (x_upd M1 64 18 (ops p' : Int)) 64 17 (M1 64 17 - 1)) := offP_64 (offP_64 (offP_trans S1 o1) (by omega)) (by omega)
  have t3 : sTk M (x_upd (x_upd M1 64 18 (ops p' : Int)) 64 17 (M1 64 17 - 1)) := fun k k7 k11 => by rw [x_upd_nj (by omega), x_upd_nj (by omega)]; exact t1 k k7 k11
  obtain ⟨k1, k2, k3, k4, k5⟩ := stl_in (m := 8) (by decide) (l := l') i1'.1
  refine h_next hn hP (tpT_P o3 E.1) (tkR_s t3 S2) (fun M2 q2 t4 => h_settle (l := l') (p := p') hn hP E.2.2.2.2.2 (by decide) (rp_K q2 r3) (by omega) (pok_mem i1'.1) (by omega) (fun M3 o5 t5 r5 => H M3 ⟨offP_trans (offP_K o3 q2) o5, tkR_s t5 t4, r5, lt1, k1, by omega, by omega, by omega, S9⟩))
theorem h_behindOne (hn : 82 ≤ n) (hP : x_PP P) (E : env f L τ κ tr J M0) {b : Bool} (S : stM f L τ J M0 M 1 j p c l (b2 b))
    (HG : ∀ o, btw (Kf f L j) tr b p o → ∀ M', stM f L τ J M0 M' 0 (j + 1) (o :: (stl (rkO o) p l).1) c (stl (rkO o) p l).2 (b2 (b || decide (o = 23))) → F M' 0)
    (H7 : ∀ q c', c = q :: c' → nob (Kf f L j) tr b p → opn p = 41 → cmd p = true → Kf f L j = 44 → q < 6 → ∀ M', stM f L τ J M0 M' 0 (j + 1) (stl 1 p l).1 ((q + 1) :: c') (stl 1 p l).2 (b2 b) → F M' 0)
    (H8 : ∀ c', c = 6 :: c' → nob (Kf f L j) tr b p → opn p = 41 → cmd p = true → Kf f L j = 44 → F M 7)
    (H9 : ∀ q c' p' l', c = q :: c' → nob (Kf f L j) tr b p → opn p = 41 → cmd p = true → Kf f L j = 41 → stl 1 p l = (41 :: p', l') → ∀ M', stM f L τ J M0 M' 1 (j + 1) (16 :: p') c' (l' ++ [(25, q)]) (b2 b) → F M' 0)
    (H10 : ∀ p' l', nob (Kf f L j) tr b p → opn p = 40 → Kf f L j = 41 → stl 1 p l = (40 :: p', l') → ∀ M', stM f L τ J M0 M' 1 (j + 1) (stl 8 p' l').1 c (stl 8 p' l').2 (b2 b) → F M' 0)
    (HE : nob (Kf f L j) tr b p → (opn p = 41 ∧ (cmd p = false ∨ (Kf f L j ≠ 44 ∧ Kf f L j ≠ 41))) ∨ (opn p = 40 ∧ Kf f L j ≠ 41) ∨ opn p = -1 → F M (-1)) : xCI Y_X10_behindOne g (d + 7) [vR (some 64)] n P M F := by
  have S' := S
  have sl := st_len S
  obtain ⟨S1, S2, S3, S4, S5, S6, S7, S8, S9⟩ := S
  have or := opn_r S5
  have J300 := E.2.2.2.2.1.2.2
  obtain ⟨t0, t72, t4, t5, tc⟩ := tk_kind S2
  have lt1 : Kf f L j ≠ 73 → j + 1 ≤ J := fun hk => by
    have : j ≠ J := fun e => hk ((K_73 E.2.2.2.2.1 j S4).mpr e)
    omega
  refine b_X10_behindOne (d := d + 1) hn hP (h_between hn hP E S' (fun o ho => ⟨fun z => absurd z ?_, fun _ => ?_⟩) (fun nb => ⟨fun _ => ?_, fun z => absurd (by decide) z⟩))
  · rcases ho with ⟨_, q⟩ | ⟨_, _, _, q⟩ | ⟨_, _, q⟩ <;> omega
  · have oo : okO o ∧ 1 ≤ rkO o ∧ ¬ isOp o ∧ Kf f L j ≠ 73 ∧ o ≠ 41 := by
      have : ((5 ≤ o ∧ o ≤ 8) ∨ (10 ≤ o ∧ o ≤ 15) ∨ (21 ≤ o ∧ o ≤ 23)) ∧ Kf f L j ≠ 73 := by rcases ho with ⟨_, q⟩ | ⟨_, _, _, q⟩ | ⟨_, _, q⟩ <;> omega
      have q : okO o := by omega
      exact ⟨q, (rkO_r q).2.2 (by omega), by omega, this.2, by omega⟩
    obtain ⟨i1, i2, i3, i4, i5⟩ := stl_in (m := rkO o) oo.2.1 (l := l) S5
    have l80 := pok_160 i1 (by omega)
    refine c_rank hn (by omega) (h_settle hn hP E.2.2.2.2.2 oo.2.1 S3 (by omega) sl.2.1 (by omega) (fun M1 o1 t1 r1 => ?_))
    have len1 := rep_len r1.1
    have e22 : M1 64 22 = b2 b := r1.2.2.2.1.2
    have r2 := rp_push r1 o
    have o2 : offP τ M0 (x_upd (x_upd M1 69 (M1 64 17) o) 64 17 (M1 64 17 + 1)) := offP_64 (offP_c (offP_trans S1 o1) (by omega)) (by omega)
    have t2 : sTk M (x_upd (x_upd M1 69 (M1 64 17) o) 64 17 (M1 64 17 + 1)) := fun k k7 k11 => by rw [x_upd_nj (by omega), x_upd_nb (by decide)]; exact t1 k k7 k11
    have fin : ∀ s, x_or (b2 b) s = b2 (b || decide (o = 23)) → xW Y_X10_behindOne g (d + 7) 0 0 53 [(0, vR (some 64))] [vI s, vI (b2 b), vR (some 64)] (0, 0) (n, P, x_upd (x_upd M1 69 (M1 64 17) o) 64 17 (M1 64 17 + 1)) (kI n P F) := fun s hs => by
      refine b_X10_behindOne_53 (d := d + 1) hn hP ?_
      rw [hs]
      refine ⟨by unfold b2; split; exact Or.inr rfl; exact Or.inl rfl, ?_⟩
      have r3 := rp_20 (rp_22 r2 (b2 (b || decide (o = 23)))) 0
      have o3 := offP_64 (k := 20) (v := 0) (offP_64 (k := 22) (v := b2 (b || decide (o = 23))) o2 (by omega)) (by omega)
      have eo : (ops (stl (rkO o) p l).1 : Int) = (ops (o :: (stl (rkO o) p l).1) : Int) := by rw [ops_no oo.2.2.1]
      rw [eo] at r3
      refine h_next hn hP (tpT_P o3 E.1) (tkR_s (fun k k7 k11 => by rw [x_upd_nj (by omega), x_upd_nj (by omega)]; exact t2 k k7 k11) S2) (fun M2 k2 t3 => HG o ho M2 ⟨offP_K o3 k2, t3, rp_K k2 r3, lt1 oo.2.2.2.1, pok_lt i1 oo.1 i2 oo.2.1 oo.2.2.1, by rw [ops_no oo.2.2.1]; omega, ?_, ?_, S9⟩)
      · show c.length = (if o = 41 then 1 else 0) + n41 (stl (rkO o) p l).1
        rw [if_neg oo.2.2.2.2, Nat.zero_add, i4]
        exact S7
      · have := (pw_cons o (stl (rkO o) p l).1).2
        omega
    refine ⟨by omega, by unfold inR; omega, fun n23 => ?_, fun y23 => ?_⟩
    · rw [e22]
      refine fin 0 ?_
      rw [decide_eq_false n23, Bool.or_false]
      cases b <;> decide
    · rw [e22]
      refine fin 1 ?_
      rw [decide_eq_true y23, Bool.or_true]
      cases b <;> decide
  · refine h_openNow hn hP S3.1 (by omega) ?_
    have at108 : (opn p = 41 → cmd p = true ∧ Kf f L j ≠ 44) → xW Y_X10_behindOne g (d + 7) 0 0 108 [(0, vR (some 64)), (2, vI (opn p))] [] (0, 0) (n, P, M) (kI n P F) := fun h41 => by
      have k41 := tc 41 (by decide)
      refine b_X10_behindOne_108 (d := d + 1) hn hP ⟨fun z => HE nb (Or.inr (Or.inr z)), fun z => ⟨fun y => ?_, fun y => HE nb ?_⟩⟩
      · have ky : Kf f L j = 41 := k41.mp y
        rcases or with w | w | w
        · exact absurd w z
        · obtain ⟨p', l', hs⟩ := stl_opn (Or.inl rfl) (l := l) S5 w
          rw [w]
          exact h_shutP (d := d + 4) hn hP E S' (by omega) hs (H10 p' l' nb w ky hs)
        · obtain ⟨p', l', hs⟩ := stl_opn (Or.inr rfl) (l := l) S5 w
          have n1 := n41_opn w
          cases hc : c with
          | nil => rw [hc] at S7; exact absurd S7 (by show ¬ 0 = n41 p; omega)
          | cons q c' =>
            rw [w]
            subst hc
            exact h_shutM (d := d + 4) hn hP E S' (by omega) hs (H9 q c' p' l' rfl nb w (h41 w).1 ky hs)
      · have ky : Kf f L j ≠ 41 := fun q => y (k41.mpr q)
        rcases or with w | w | w
        · exact Or.inr (Or.inr w)
        · exact Or.inr (Or.inl ⟨w, ky⟩)
        · exact Or.inl ⟨w, Or.inr ⟨(h41 w).2, ky⟩⟩
    have at88 : (opn p = 41 → cmd p = true) → xW Y_X10_behindOne g (d + 7) 0 0 88 [(0, vR (some 64)), (2, vI (opn p))] [] (0, 0) (n, P, M) (kI n P F) := fun h41 => by
      have k44 := tc 44 (by decide)
      refine b_X10_behindOne_88 (d := d + 1) hn hP ⟨fun z => at108 (fun q => absurd q z), fun y => ⟨fun z => at108 (fun q => ⟨h41 q, fun w => z (k44.mpr w)⟩), fun z => ?_⟩⟩
      have kz : Kf f L j = 44 := k44.mp z
      have n1 := n41_opn y
      cases hc : c with
      | nil => rw [hc] at S7; exact absurd S7 (by show ¬ 0 = n41 p; omega)
      | cons q c' =>
        subst hc
        exact h_nextOfMost (d := d + 4) hn hP E S' (by omega) (fun q6 => by subst q6; exact H8 c' rfl nb y (h41 y) kz) (fun q6 => H7 q c' rfl nb y (h41 y) kz q6)
    refine ⟨fun z => at88 (fun q => absurd q z), fun y => h_isCompared hn hP S3.1 (by omega) sl.2.1 (fun yc => ⟨fun _ => at88 (fun _ => yc), fun z => absurd z (by decide)⟩) (fun nc => ⟨fun z => absurd rfl z, fun _ => HE nb (Or.inl ⟨y, Or.inl nc⟩)⟩)⟩
end Rbehind
