/-! the reference's beginOne and betweenOf, in the machine's words -/
section Rbegin
variable {g : Option Nat} {d n : Nat} {P : xP} {M M0 : xM} {F : xM → Int → Prop} {G : xM → Prop} {f : Int → Int} {L τ κ tr : Int} {J j : Nat} {p c : List Int} {l : List (Int × Int)} {u w : Int}
theorem h_isOf (hn : 82 ≤ n) (hP : x_PP P) {v : Int} (hκ : 0 ≤ κ ∧ κ < 8) (hv : 0 ≤ v ∧ v < 8) (e14 : M 64 14 = (if κ < 4 then 4 else κ - 4)) (H1 : ofL κ v → F M 1) (H0 : ¬ ofL κ v → F M 0) : xCI Y_X10_isOf g d [vR (some 64), vI v] n P M F := by
  have e : (κ < 4 ∧ M 64 14 = 4) ∨ (¬ κ < 4 ∧ M 64 14 = κ - 4) := by
    rw [e14]
    by_cases h : κ < 4
    · rw [if_pos h]; exact Or.inl ⟨h, rfl⟩
    · rw [if_neg h]; exact Or.inr ⟨h, rfl⟩
  refine b_X10_isOf hn hP ⟨fun h3 => ⟨fun n3 => ⟨fun h7 => ⟨fun q => H0 (by omega), fun q => H1 (by omega)⟩, fun h7 => ⟨fun q => H0 (by omega), fun q => H1 (by omega)⟩⟩, fun y3 => ⟨fun q => H0 (by omega), fun q => H1 (by omega)⟩⟩, fun h3 => H1 (by omega)⟩
theorem h_beginOne (hn : 82 ≤ n) (hP : x_PP P) (E : env f L τ κ tr J M0) (S : stM f L τ J M0 M 0 j p c l u)
    (H1 : ∀ e v, (Kf f L j = 72 ∧ Vf f L j ≤ 9999 ∧ e = 72 ∧ v = Vf f L j) ∨ ((11 ≤ Kf f L j ∧ Kf f L j ≤ 18) ∧ ofL κ (Kf f L j - 11) ∧ e = 75 ∧ v = Kf f L j - 11) → ∀ M', stM f L τ J M0 M' 1 (j + 1) (stl 8 p (l ++ [(e, v)])).1 c (stl 8 p (l ++ [(e, v)])).2 u → F M' 0)
    (H2 : ∀ e i, bgF (Kf f L) (Vf f L) κ tr p j e i → ∀ M', offP τ M0 M' → tkR f L M' (ps f L i) → F M' e)
    (H3 : ∀ o, ops p < 8 → (Kf f L j = 40 ∧ o = 40) ∨ (Kf f L j = 45 ∧ o = 4) ∨ (Kf f L j = 23 ∧ ahd tr p ∧ o = 20) → ∀ M', stM f L τ J M0 M' 0 (j + 1) (o :: p) c l u → F M' 0)
    (H4 : ops p < 8 → ahd tr p → Kf f L j = 25 → Kf f L (j + 1) = 40 → ∀ M', stM f L τ J M0 M' 0 (j + 2) (41 :: p) (1 :: c) l u → F M' 0)
    (H5 : ahd tr p → Kf f L j = 24 → κ < 4 → Kf f L (j + 1) = 72 → Vf f L (j + 1) ≤ 7 → ∀ M', stM f L τ J M0 M' 1 (j + 2) (16 :: p) c (l ++ [(24, Vf f L (j + 1))]) u → F M' 0) : xCI Y_X10_beginOne g (d + 7) [vR (some 64)] n P M F := by
  have S' := S
  have sl := st_len S
  obtain ⟨S1, S2, S3, S4, S5, S6, S7, S8, S9⟩ := S
  have pr := ps_r (f := f) E.1.2.1.1 j
  have tp := tpT_P S1 E.1
  have J300 := E.2.2.2.2.1.2.2
  have e14 : M 64 14 = (if κ < 4 then 4 else κ - 4) := by rw [S1.2.1 14 (by decide) (by decide) (by decide) (by decide)]; exact E.2.1
  obtain ⟨t0, t72, t4, t5, tc⟩ := tk_kind S2
  have V0 := V_r (f := f) (ps f L j) pr.2
  have lt1 : Kf f L j ≠ 73 → j + 1 ≤ J := fun hk => by
    have : j ≠ J := fun e => hk ((K_73 E.2.2.2.2.1 j S4).mpr e)
    omega
  have W := fun {N : xM → Int → Prop} {z : Int} (k : Nat) (hk : k < 26) (h7 : vlF (wT.getD k []) 0 < 2 ^ 56) (hz : z = vlF (wT.getD k []) 0) => q_isWord (g := g) (d := d + 6) (F := N) hn hP (f := f) (L := L) (s := ps f L j) (a := z) k hk pr.2 h7 hz S2
  -- an order of one
  have one : ∀ e v, (Kf f L j = 72 ∧ Vf f L j ≤ 9999 ∧ e = 72 ∧ v = Vf f L j) ∨ ((11 ≤ Kf f L j ∧ Kf f L j ≤ 18) ∧ ofL κ (Kf f L j - 11) ∧ e = 75 ∧ v = Kf f L j - 11) → xW Y_X10_beginOne g (d + 7) 0 0 81 [(0, vR (some 64))] [vI v, vI (rc e), vR (some 64)] (0, 0) (n, P, M) (kI n P F) := fun e v hev => by
    refine b_X10_beginOne_81 (d := d + 1) hn hP (h_emit hn hP E.2.2.2.2.2 (e := e) S3 (by omega) rfl (fun M1 o1 t1 r1 _ _ => ?_))
    have o2 := offP_trans S1 o1
    refine h_next hn hP (tpT_P o2 E.1) (tkR_s t1 S2) (fun M2 k2 t2 => ?_)
    have r2 := rp_20 (rp_K k2 r1) 1
    have o3 : offP τ M0 (x_upd M2 64 20 1) := offP_64 (offP_K o2 k2) (by omega)
    have len : (l ++ [(e, v)]).length = l.length + 1 := by rw [List.length_append]; rfl
    refine h_settle hn hP E.2.2.2.2.2 (by decide) r2 (by omega) sl.2.1 (by omega) (fun M3 o4 t4 r4 => H1 e v hev M3 ?_)
    obtain ⟨i1, i2, i3, i4, i5⟩ := stl_in (m := 8) (by decide) (l := l ++ [(e, v)]) S5
    refine ⟨offP_trans o3 o4, tkR_s (fun k k7 k11 => by rw [t4 k k7 k11, x_upd_nj (by omega)]) t2, r4, lt1 (by rcases hev with q | q <;> omega), i1, by omega, by rw [i4]; exact S7, by omega, S9⟩
  have at39 : ∀ x1, (x1 < 0 → ¬ (11 ≤ Kf f L j ∧ Kf f L j ≤ 18)) → (¬ x1 < 0 → (11 ≤ Kf f L j ∧ Kf f L j ≤ 18) ∧ ofL κ (Kf f L j - 11) ∧ x1 = Kf f L j - 11) → (Kf f L j = 72 → Vf f L j ≤ 9999) → xW Y_X10_beginOne g (d + 7) 0 0 39 [(0, vR (some 64)), (1, vI x1)] [] (0, 0) (n, P, M) (kI n P F) := fun x1 hx hx2 hv => by
    refine b_X10_beginOne_39 (d := d + 1) hn hP ⟨fun y1 => ?_, fun n1 => ⟨fun xn => ⟨fun n40 => ⟨fun n45 => ?_, fun y45 => ?_⟩, fun y40 => ?_⟩, fun xp => ?_⟩⟩
    · have k72 : Kf f L j = 72 := t72.mp y1
      refine b_X10_beginOne_51 (d := d + 1) hn hP ⟨fun z => absurd y1 z, fun _ => b_X10_beginOne_65 (d := d + 1) hn hP ⟨fun z => absurd y1 z, fun _ => ?_⟩⟩
      have nm := tk_num pr.2 S2 k72
      unfold numR at nm
      have v9 : vl f L (ps f L j) ≤ 9999 := hv k72
      have ev : M 64 10 = Vf f L j := by show M 64 10 = vl f L (ps f L j); omega
      rw [ev]
      exact one 72 _ (Or.inl ⟨k72, v9, rfl, rfl⟩)
    · have m72 : Kf f L j ≠ 72 := fun q => n1 (t72.mpr q)
      have m40 : Kf f L j ≠ 40 := fun q => n40 ((tc 40 (by decide)).mpr q)
      have m45 : Kf f L j ≠ 45 := fun q => n45 ((tc 45 (by decide)).mpr q)
      have mn := hx xn
      have other : (Kf f L j = 23 ∨ Kf f L j = 24 ∨ Kf f L j = 25 → ¬ ahd tr p) → F M 1 := fun h => H2 1 j (Or.inr (Or.inr (Or.inr (Or.inr (Or.inr (Or.inr (Or.inr ⟨m72, mn, m40, m45, h, rfl, rfl⟩))))))) M S1 S2
      refine h_ahead hn hP E S' (fun ha => ⟨fun _ => ?_, fun z => absurd z (by decide)⟩) (fun ha => ⟨fun z => absurd rfl z, fun _ => other (fun _ => ha)⟩)
      refine c_w3 (d := d + 5) hn (by decide) (by decide) (by decide) (W 23 (by decide) (by decide) rfl ⟨fun n23 => ?_, fun y => ?_⟩)
      · refine c_w4 (d := d + 4) hn (by decide) (by decide) (by decide) (by decide) (W 25 (by decide) (by decide) rfl ⟨fun n25 => ?_, fun y => ?_⟩)
        · refine c_w4 (d := d + 4) hn (by decide) (by decide) (by decide) (by decide) (W 24 (by decide) (by decide) rfl ⟨fun n24 => ?_, fun y => ?_⟩)
          · have q1 : Kf f L j ≠ 23 := bi_0.mp n23
            have q2 : Kf f L j ≠ 25 := bi_0.mp n25
            have q3 : Kf f L j ≠ 24 := bi_0.mp n24
            exact other (fun z => absurd z (by omega))
          · have k24 : Kf f L j = 24 := bi_n0.mp y
            exact h_fact (d := d + 4) hn hP E S' (ahd_lt ha) (by omega) (fun k4 => H2 5 j (Or.inr (Or.inr (Or.inr (Or.inr (Or.inl ⟨ha, k24, k4, rfl, rfl⟩))))) M S1 S2) (fun k4 k72 M' o' t' => H2 1 (j + 1) (Or.inr (Or.inr (Or.inr (Or.inr (Or.inr (Or.inl ⟨ha, k24, k4, k72, rfl, rfl⟩)))))) M' o' t') (fun k4 k72 v7 M' o' t' => H2 2 (j + 1) (Or.inr (Or.inr (Or.inr (Or.inr (Or.inr (Or.inr (Or.inl ⟨ha, k24, k4, k72, v7, rfl, rfl⟩))))))) M' o' t') (fun k4 k72 v7 M' s' => H5 ha k24 k4 k72 v7 M' s')
        · have k25 : Kf f L j = 25 := bi_n0.mp y
          exact h_opened (d := d + 4) hn hP E S' (Or.inr ⟨rfl, ahd_lt ha⟩) (by omega) (fun h8 => H2 3 j (Or.inr (Or.inr (Or.inl ⟨h8, Or.inr (Or.inr ⟨ha, Or.inr k25⟩), rfl, rfl⟩))) M S1 S2) (fun _ z => absurd rfl z) (fun h8 _ n40 M' o' t' => H2 1 (j + 1) (Or.inr (Or.inr (Or.inr (Or.inl ⟨h8, ha, k25, n40, rfl, rfl⟩)))) M' o' t') (fun h8 _ y40 M' s' => H4 h8 ha k25 y40 M' s')
      · have k23 : Kf f L j = 23 := bi_n0.mp y
        exact h_opened (d := d + 4) hn hP E S' (Or.inl (by decide)) (by omega) (fun h8 => H2 3 j (Or.inr (Or.inr (Or.inl ⟨h8, Or.inr (Or.inr ⟨ha, Or.inl k23⟩), rfl, rfl⟩))) M S1 S2) (fun h8 _ M' s' => H3 20 h8 (Or.inr (Or.inr ⟨k23, ha, rfl⟩)) M' s') (fun _ z => absurd z (by decide)) (fun _ z => absurd z (by decide))
    · have k45 : Kf f L j = 45 := (tc 45 (by decide)).mp y45
      exact h_opened (d := d + 4) hn hP E S' (Or.inl (by decide)) (by omega) (fun h8 => H2 3 j (Or.inr (Or.inr (Or.inl ⟨h8, Or.inr (Or.inl k45), rfl, rfl⟩))) M S1 S2) (fun h8 _ M' s' => H3 4 h8 (Or.inr (Or.inl ⟨k45, rfl⟩)) M' s') (fun _ z => absurd z (by decide)) (fun _ z => absurd z (by decide))
    · have k40 : Kf f L j = 40 := (tc 40 (by decide)).mp y40
      exact h_opened (d := d + 4) hn hP E S' (Or.inl (by decide)) (by omega) (fun h8 => H2 3 j (Or.inr (Or.inr (Or.inl ⟨h8, Or.inl k40, rfl, rfl⟩))) M S1 S2) (fun h8 _ M' s' => H3 40 h8 (Or.inl ⟨k40, rfl⟩) M' s') (fun _ z => absurd z (by decide)) (fun _ z => absurd z (by decide))
    · obtain ⟨q1, q2, q3⟩ := hx2 xp
      refine b_X10_beginOne_51 (d := d + 1) hn hP ⟨fun _ => b_X10_beginOne_65 (d := d + 1) hn hP ⟨fun _ => one 75 x1 (Or.inr ⟨q1, q2, rfl, q3⟩), fun z => absurd z n1⟩, fun z => absurd z n1⟩
  have at20 : (Kf f L j = 72 → Vf f L j ≤ 9999) → xW Y_X10_beginOne g (d + 7) 0 0 20 [(0, vR (some 64))] [] (0, 0) (n, P, M) (kI n P F) := fun hv => by
    refine b_X10_beginOne_20 (d := d + 1) hn hP (q_nameOf hn hP pr tp S2 ?_)
    by_cases hk : 11 ≤ Kf f L j ∧ Kf f L j ≤ 18
    · rw [if_pos hk]
      refine ⟨fun z => absurd z (by show ¬ Kf f L j - 11 < 0; omega), fun _ => h_isOf hn hP E.2.2.1 (by show 0 ≤ Kf f L j - 11 ∧ Kf f L j - 11 < 8; omega) e14 (fun ho => ⟨fun _ => at39 _ (fun z => absurd z (by show ¬ Kf f L j - 11 < 0; omega)) (fun _ => ⟨hk, ho, rfl⟩) hv, fun z => absurd z (by decide)⟩) (fun ho => ⟨fun z => absurd rfl z, fun _ => H2 5 j (Or.inr (Or.inl ⟨hk, ho, rfl, rfl⟩)) M S1 S2⟩)⟩
    · rw [if_neg hk]
      exact ⟨fun _ => at39 (-1) (fun _ => hk) (fun z => absurd (by decide) z) hv, fun z => absurd (by decide) z⟩
  refine b_X10_beginOne (d := d + 1) hn hP ⟨fun n1 => at20 (fun q => absurd (t72.mpr q) n1), fun y1 => ?_⟩
  have k72 : Kf f L j = 72 := t72.mp y1
  have nm := tk_num pr.2 S2 k72
  unfold numR at nm
  exact ⟨fun q => at20 (fun _ => by show vl f L (ps f L j) ≤ 9999; omega), fun q => H2 2 j (Or.inl ⟨k72, by show 9999 < vl f L (ps f L j); omega, rfl, rfl⟩) M S1 S2⟩
theorem h_between (hn : 82 ≤ n) (hP : x_PP P) (E : env f L τ κ tr J M0) {b : Bool} (S : stM f L τ J M0 M w j p c l (b2 b)) (H1 : ∀ o, btw (Kf f L j) tr b p o → F M o) (H0 : nob (Kf f L j) tr b p → F M (-1)) : xCI Y_X10_betweenOf g (d + 6) [vR (some 64)] n P M F := by
  have S' := S
  have sl := st_len S
  obtain ⟨S1, S2, S3, S4, S5, S6, S7, S8, S9⟩ := S
  have len := rep_len S3.1
  have pr := ps_r (f := f) E.1.2.1.1 j
  obtain ⟨t0, t72, t4, t5, tc⟩ := tk_kind S2
  have W := fun {N : xM → Int → Prop} {z : Int} (k : Nat) (hk : k < 26) (h7 : vlF (wT.getD k []) 0 < 2 ^ 56) (hz : z = vlF (wT.getD k []) 0) => q_isWord (g := g) (d := d + 5) (F := N) hn hP (f := f) (L := L) (s := ps f L j) (a := z) k hk pr.2 h7 hz S2
  have e22 := S3.2.2.2.1.2
  have at92 : (p.head? = some 16 ∨ nar (Kf f L j)) → xW Y_X10_betweenOf g (d + 6) 0 0 92 [(0, vR (some 64))] [] (0, 0) (n, P, M) (kI n P F) := fun hq => by
    refine b_X10_betweenOf_92 (d := d + 1) hn hP (h_here hn hP E S' (fun hh => ⟨fun _ => ?_, fun z => absurd z (by decide)⟩) (fun hh => ⟨fun z => absurd rfl z, fun _ => H0 ⟨hq, fun z => absurd z hh⟩⟩))
    refine h_isCompared hn hP S3.1 (by omega) sl.2.1 (fun yc => ⟨fun _ => ?_, fun z => absurd z (by decide)⟩) (fun nc => ⟨fun z => absurd rfl z, fun _ => ?_⟩)
    · refine c_w3 (d := d + 4) hn (by decide) (by decide) (by decide) (W 22 (by decide) (by decide) rfl ⟨fun n22 => ?_, fun y => H1 21 (Or.inr (Or.inr ⟨hh, yc, Or.inl ⟨bi_n0.mp y, rfl⟩⟩))⟩)
      refine c_w2 (d := d + 5) hn (by decide) (by decide) (W 21 (by decide) (by decide) rfl ⟨fun n21 => ?_, fun y => H1 22 (Or.inr (Or.inr ⟨hh, yc, Or.inr (Or.inl ⟨bi_n0.mp y, rfl⟩)⟩))⟩)
      have m22 : Kf f L j ≠ 22 := bi_0.mp n22
      have m21 : Kf f L j ≠ 21 := bi_0.mp n21
      have no : (Kf f L j = 20 → opn p ≠ -1 ∨ b = true) → F M (-1) := fun h => H0 ⟨hq, fun _ => ⟨fun z => absurd (yc.symm.trans z) (by decide), fun _ => ⟨m22, m21, h⟩⟩⟩
      refine c_w6 (d := d + 1) hn (by decide) (by decide) (by decide) (by decide) (by decide) (by decide) (W 20 (by decide) (by decide) rfl ⟨fun n20 => no (fun z => absurd z (bi_0.mp n20)), fun y => ?_⟩)
      have m20 : Kf f L j = 20 := bi_n0.mp y
      refine h_openNow hn hP S3.1 (by omega) ⟨fun z => no (fun _ => Or.inl z), fun z => ⟨fun q => no (fun _ => Or.inr ?_), fun q => H1 23 (Or.inr (Or.inr ⟨hh, yc, Or.inr (Or.inr ⟨m20, rfl, z, ?_⟩)⟩))⟩⟩
      · rw [e22] at q
        cases b with
        | true => rfl
        | false => exact absurd rfl q
      · rw [e22] at q
        cases b with
        | true => exact absurd q (by decide)
        | false => rfl
    · have cm : ∀ o, cmO (Kf f L j) o → F M o := fun o ho => H1 o (Or.inr (Or.inl ⟨hh, nc, by omega, ho⟩))
      have T := fun (c : Int) (hc : isSg c) => tc c hc
      refine b_X10_compareOf hn hP ⟨fun n60 => ⟨fun n4 => ⟨fun n62 => ⟨fun n5 => ⟨fun n61 => ⟨fun n35 => ?_, fun y => cm 15 ?_⟩, fun y => cm 14 ?_⟩, fun y => cm 13 ?_⟩, fun y => cm 12 ?_⟩, fun y => cm 11 ?_⟩, fun y => cm 10 ?_⟩
      · refine H0 ⟨hq, fun _ => ⟨fun _ z => ?_, fun z => absurd (nc.symm.trans z) (by decide)⟩⟩
        rcases z with z | z | z | z | z | z
        · exact n60 ((T 60 (by decide)).mpr z)
        · exact n62 ((T 62 (by decide)).mpr z)
        · exact n61 ((T 61 (by decide)).mpr z)
        · exact n35 ((T 35 (by decide)).mpr z)
        · exact n4 (t4.mpr z)
        · exact n5 (t5.mpr z)
      · have q : Kf f L j = 35 := (T 35 (by decide)).mp y; omega
      · have q : Kf f L j = 61 := (T 61 (by decide)).mp y; omega
      · have q : Kf f L j = 71 := t5.mp y; omega
      · have q : Kf f L j = 62 := (T 62 (by decide)).mp y; omega
      · have q : Kf f L j = 70 := t4.mp y; omega
      · have q : Kf f L j = 60 := (T 60 (by decide)).mp y; omega
  have at28 : ∀ s0, (s0 = 0 → p.head? ≠ some 16) → (s0 ≠ 0 → p.head? = some 16) → xW Y_X10_betweenOf g (d + 6) 0 0 28 [(0, vR (some 64))] [vI s0] (0, 0) (n, P, M) (kI n P F) := fun s0 h0 h1 => by
    have T := fun (c : Int) (hc : isSg c) => tc c hc
    refine b_X10_betweenOf_28 (d := d + 1) hn hP ⟨fun z => ?_, fun z => ⟨fun n43 => ?_, fun y => H1 5 (Or.inl ⟨h0 z, Or.inl ⟨(T 43 (by decide)).mp y, rfl⟩⟩)⟩⟩
    · exact b_X10_betweenOf_44 (d := d + 1) hn hP ⟨fun _ => b_X10_betweenOf_60 (d := d + 1) hn hP ⟨fun _ => b_X10_betweenOf_76 (d := d + 1) hn hP ⟨fun _ => at92 (Or.inl (h1 z)), fun y => absurd y z⟩, fun y => absurd y z⟩, fun y => absurd y z⟩
    refine b_X10_betweenOf_44 (d := d + 1) hn hP ⟨fun y => absurd z y, fun _ => ⟨fun n45 => ?_, fun y => H1 6 (Or.inl ⟨h0 z, Or.inr (Or.inl ⟨(T 45 (by decide)).mp y, rfl⟩)⟩)⟩⟩
    refine b_X10_betweenOf_60 (d := d + 1) hn hP ⟨fun y => absurd z y, fun _ => ⟨fun n42 => ?_, fun y => H1 7 (Or.inl ⟨h0 z, Or.inr (Or.inr (Or.inl ⟨(T 42 (by decide)).mp y, rfl⟩))⟩)⟩⟩
    refine b_X10_betweenOf_76 (d := d + 1) hn hP ⟨fun y => absurd z y, fun _ => ⟨fun n47 => ?_, fun y => H1 8 (Or.inl ⟨h0 z, Or.inr (Or.inr (Or.inr ⟨(T 47 (by decide)).mp y, rfl⟩))⟩)⟩⟩
    exact at92 (Or.inr ⟨fun q => n42 ((T 42 (by decide)).mpr q), fun q => n47 ((T 47 (by decide)).mpr q), fun q => n43 ((T 43 (by decide)).mpr q), fun q => n45 ((T 45 (by decide)).mpr q)⟩)
  refine b_X10_betweenOf (d := d + 1) hn hP ⟨fun z => b_X10_betweenOf_27 (d := d + 1) hn hP ?_, fun z => ⟨by unfold inR; omega, by omega, ?_⟩⟩
  · cases p with
    | nil => exact at28 0 (fun _ q => by cases q) (fun q => absurd rfl q)
    | cons o r => exact absurd len (by have : (o :: r).length = r.length + 1 := rfl
                                       omega)
  · cases p with
    | nil => exact absurd len (by show ¬ M 64 17 = 0; omega)
    | cons o r =>
      have e := S3.1.1
      rw [e]
      exact ⟨fun n16 => b_X10_betweenOf_27 (d := d + 1) hn hP (at28 0 (fun _ => hd_ne n16) (fun q => absurd rfl q)), fun y16 => at28 1 (fun q => absurd q (by decide)) (fun _ => by rw [y16]; rfl)⟩
end Rbegin
