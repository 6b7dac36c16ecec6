/-! the law's entry -/
theorem it_X0 : Cond.instantiable RX0 10 ∈ x_TBL := x_TBL_in (List.mem_append_right _ (mt_1 (List.mem_of_getElem? (i := 26) rfl))) rfl
theorem it_X1 : Cond.instantiable RX1 12 ∈ x_TBL := x_TBL_in (List.mem_append_right _ (mt_1 (List.mem_of_getElem? (i := 106) rfl))) rfl
theorem it_X2 : Cond.instantiable RX2 3 ∈ x_TBL := x_TBL_in (List.mem_append_right _ (mt_1 (List.mem_of_getElem? (i := 89) rfl))) rfl
theorem it_X4 : Cond.instantiable RX4 8 ∈ x_TBL := x_TBL_in (List.mem_append_right _ (mt_2 (List.mem_of_getElem? (i := 132) rfl))) rfl
theorem it_X5 : Cond.instantiable RX5 2 ∈ x_TBL := x_TBL_in (List.mem_append_right _ (mt_1 (List.mem_of_getElem? (i := 32) rfl))) rfl
theorem it_X6 : Cond.instantiable RX6 6 ∈ x_TBL := x_TBL_in (List.mem_append_right _ (mt_1 (List.mem_of_getElem? (i := 157) rfl))) rfl
theorem it_X7 : Cond.instantiable RX7 7 ∈ x_TBL := x_TBL_in (List.mem_append_right _ (mt_1 (List.mem_of_getElem? (i := 189) rfl))) rfl
theorem it_X9 : Cond.instantiable RX9 9 ∈ x_TBL := x_TBL_in (List.mem_append_right _ (mt_1 (List.mem_of_getElem? (i := 18) rfl))) rfl
theorem it_X10 : Cond.instantiable RX10 40 ∈ x_TBL := x_TBL_in (List.mem_append_right _ (mt_5 (List.mem_of_getElem? (i := 24) rfl))) rfl
theorem tb_str : Cond.stringRef "VaneCourt$Tape" 61 x_words ∈ tables_1 := mt_2 (List.mem_of_getElem? (i := 61) rfl)
theorem tb_cs : Cond.laysStatic "java/lang/String" "COMPACT_STRINGS" "Z" ∈ tables_1 := mt_2 (List.mem_of_getElem? (i := 71) rfl)
theorem tb_pf : Cond.laysStatic "jdk/internal/util/Preconditions" "SIOOBE_FORMATTER" "Ljava/util/function/BiFunction;" ∈ tables_1 := mt_2 (List.mem_of_getElem? (i := 87) rfl)
theorem tb_is : Cond.initialized "java/lang/String" ∈ tables_1 := mt_1 (List.mem_of_getElem? (i := 9) rfl)
theorem tb_ip : Cond.initialized "jdk/internal/util/Preconditions" ∈ tables_1 := mt_1 (List.mem_of_getElem? (i := 11) rfl)
abbrev tmS : Term := .string "VaneCourt$Tape" 61
abbrev gvC : List Cond := flatC (Jvm.Cond.and given_1 narrow_1)
theorem gv_ex : Cond.exactly tmS "java/lang/String" ∈ gvC := by decide +kernel
theorem gv_co : Cond.eq (.field tmS "java/lang/String" "coder" "B") (.int 0) ∈ gvC := by decide +kernel
theorem gv_ar : Cond.arrayOf (.field tmS "java/lang/String" "value" "[B") .byte ∈ gvC := by decide +kernel
theorem gv_le : Cond.eq (.length (.field tmS "java/lang/String" "value" "[B")) (.int (Int32.ofNat x_bytes.length)) ∈ gvC := by decide +kernel
theorem gv_dr : ((gvC.drop 13).take x_bytes.length) = (List.range x_bytes.length).map (fun j => Cond.eq (.elem (.field tmS "java/lang/String" "value" "[B") (.int (Int32.ofNat j))) (.int (x_bytes.getD j 0))) := by decide +kernel
theorem gv_el {j : Nat} (hj : j < x_bytes.length) : Cond.eq (.elem (.field tmS "java/lang/String" "value" "[B") (.int (Int32.ofNat j))) (.int (x_bytes.getD j 0)) ∈ gvC := by
  have h : Cond.eq (.elem (.field tmS "java/lang/String" "value" "[B") (.int (Int32.ofNat j))) (.int (x_bytes.getD j 0)) ∈ (gvC.drop 13).take x_bytes.length := by
    rw [gv_dr]
    exact List.mem_map.mpr ⟨j, List.mem_range.mpr hj, rfl⟩
  exact List.mem_of_mem_drop (List.mem_of_mem_take h)
theorem gv_cs : Cond.eq (.static "java/lang/String" "COMPACT_STRINGS" "Z") (.int 1) ∈ gvC := by decide +kernel
theorem gv_pf : Cond.isRef (.static "jdk/internal/util/Preconditions" "SIOOBE_FORMATTER" "Ljava/util/function/BiFunction;") ∈ gvC := by decide +kernel
theorem len_b : x_bytes.length < 2 ^ 31 := by decide +kernel
section Start
variable {p : Program} {l : Launch} {e : Env} {s : State} {m : MethodId} {below : List Frame} {meth : Method} {c : Code} {b Ln : Nat} {xs : Nat → Int32} {G : xG} {g : Option Nat} {h : xH} {H : Heap} {locs : List Loc} {ls : Array Slot} {cells slots pc d g0 n mc' ms' : Nat} {QQ : State → Prop} {st rest : List Value} {P : xP} {M : xM} {Y' : xY} {Q' : xH → Option xV → Prop}
theorem lawNew {idx ci : Nat} (hd : decode code pc = .ok (.new idx, 3)) (hN : x_NK RL idx ci) (hs : x_sk n = ci + 5) (h4 : ∀ j, x_ft ci j ≠ 4) (h15 : n ≠ 15) (h82 : n + 1 = 82 → g0 = 0) (h1000 : n + 1 < 1000) (hb : x_b0 P M n) (hr : cells + 1 ≤ 600000 ∧ slots + x_sn n ≤ 7302249) (C : x_C YL (some g0) G p s m #[Value.ref b] meth c H locs (n, P, M))
    (k : ∀ H1, x_C YL (some g0) G p s m #[Value.ref b] meth c H1 locs (n + 1, P, M) → W p l e room_1 s m #[Value.ref b] below meth c H1 locs (cells + 1) (slots + x_sn n) QQ (F0 m (pc + 3) ls (.ref (x_ad G n) :: st))) : W p l e room_1 s m #[Value.ref b] below meth c H locs cells slots QQ (F0 m pc ls st) := by
  obtain ⟨CN, T, N, ty0, hc, hin, hpt, htc, hcl, hinst, hini⟩ := hN
  have hts := C.2.1.2.2.2.2.2.2.2
  have ht : ∀ w ∈ x_TBL, w.before #[Value.ref b] s = true := fun w hw => hts w (List.mem_cons_of_mem _ hw)
  have hin' : ∀ w ∈ u_ws CN T N, w ∈ x_ws YL := fun w hw => List.mem_cons_of_mem _ (hin w hw)
  have hKn := C.2.2.1.1 ci _ hc
  have hsn : x_sn n = N := x_cls hc hs
  have hI := C.2.2.2.2.2.2.1
  have hsz : H.size = x_ad G n := (hI.1 g0 rfl).2
  rw [hsn] at hr k
  refine W.newcK (cc := code) C.2.1.1 C.2.1.2.1 C.2.1.2.2.2.2.2.2.1 (ht _ hcl) (ht _ hinst) (ht _ hini) rfl hd hr.1 hr.2 hKn.2.1 rfl fun H1 kC hkC e1 z1 o1 => ?_
  have hfs : ∀ j, j < N → defaultValue (ty0 j) = vp_V ((List.range (x_sn n)).map (x_fv (x_ad G) P M n ci)) j := by
    intro j hj
    have e : ((List.range (x_sn n)).map (x_fv (x_ad G) P M n ci))[j]? = some (x_fv (x_ad G) P M n ci j) := by
      rw [List.getElem?_map, List.getElem?_range (by omega)]
      rfl
    have e' : vp_V ((List.range (x_sn n)).map (x_fv (x_ad G) P M n ci)) j = x_fv (x_ad G) P M n ci j := by
      unfold vp_V
      first | (rw [List.getD_eq_getElem?_getD, e]; rfl) | (rw [e]; rfl) | simp [e]
    rw [e']
    unfold x_fv
    rw [hb.1, hb.2]
    have n15 : ¬ (n = 15 ∧ (j : Int) = 2) := fun w => h15 w.1
    rcases htc j hj with t | ⟨t, t4⟩
    · rw [if_neg (h4 j), if_neg n15]
      cases hty : ty0 j <;> rw [hty] at t <;> first | (have t2 : x_ft ci j = 2 := t.symm; rw [if_pos t2]; rfl) | (have t2 : x_ft ci j = 1 := t.symm; rw [if_neg (by omega), if_pos t2]; rfl) | (have t2 : x_ft ci j = 0 := t.symm; rw [if_neg (by omega), if_neg (by omega)]; rfl) | (have t2 : x_ft ci j = 3 := t.symm; rw [if_neg (by omega), if_neg (by omega)]; rfl) | (exfalso; have t2 : x_ft ci j = 9 := t.symm; have hle := x_ft_le ci j; omega)
    · exact absurd t4 (h4 j)
  have kk := k H1 ⟨trivial, C.2.1, C.2.2.1, C.2.2.2.1, C.2.2.2.2.1, x_growS C.2.2.2.2.2.1 z1 o1, x_grow hI h82 h1000 z1 o1 (by rw [x_ce_obj hs]; exact ⟨_, hc, (u_born ty0 hts hin' hKn hkC e1 hpt).to hfs⟩), C.2.2.2.2.2.2.2⟩
  rw [← hsz] at kk
  exact kk
theorem lawInit {a idx np : Nat} {As : List xV} (hd : decode code pc = .ok (.invokespecial idx, 3)) (hM : x_MK RL idx Y' np) (hY : Y'.2.2.2 = none) (hnm : Y'.1.name = "<init>") (hi : Cond.instanceMethod Y'.1 ∈ x_TBL) (hnp : As.length = np) (hls : ls.size = 4) (okA : ∀ v ∈ As, x_ok v) (hW : (rest.map fun v => v.category).sum ≤ 8) (hcs : cells + mc' ≤ 600000 ∧ slots + ms' ≤ 7302249) (hdd : d ≤ 1000) (C : x_C YL g G p s m #[Value.ref b] meth c H locs h)
    (kc : xC Y' g d mc' ms' (vR (some a) :: As) h Q') (k : ∀ h' r H' locs', Q' h' r → x_C YL g G p s m #[Value.ref b] meth c H' locs' h' → W p l e room_1 s m #[Value.ref b] below meth c H' locs' (cells + mc') (slots + ms') QQ (F0 m (pc + 3) ls ((r.map (x_tr (x_ad G))).toList ++ rest))) :
    W p l e room_1 s m #[Value.ref b] below meth c H locs cells slots QQ (F0 m pc ls ((As.map (x_tr (x_ad G))).reverse ++ .ref (x_ad G a) :: rest)) := by
  obtain ⟨y', b', n', ret'⟩ := Y'
  subst hY
  have hts := C.2.1.2.2.2.2.2.2.2
  have ht : ∀ w ∈ x_TBL, w.before #[Value.ref b] s = true := fun w hw => hts w (List.mem_cons_of_mem _ hw)
  have okB : ∀ v ∈ vR (some a) :: As, x_ok v := fun v hv => by
    rcases List.mem_cons.mp hv with rfl | h1
    · trivial
    · exact okA v h1
  have hMet := kc l G okB C.2.2.2.2.2.2.2
  obtain ⟨hcode, hini, hdd2, hml, hl⟩ := hM
  have hWr : 2 * (F0 m pc ls ((As.map (x_tr (x_ad G))).reverse ++ .ref (x_ad G a) :: rest)).monitorRoom + (rest.map fun v => v.category).sum ≤ 8 := lv_room hW
  refine x_contR (a := (Value.ref (x_ad G a) :: As.map (x_tr (x_ad G))).toArray) ?_ C.2.2.2.2.2.1 (fun h' r H' locs' hq hok hokr hhI hS' => k h' r H' locs' hq ⟨trivial, C.2.1, C.2.2.1, C.2.2.2.1, C.2.2.2.2.1, hS', hhI, hok⟩)
  have hp : PreS s H (va_Pc ((vR (some a) :: As).map (x_tr (x_ad G))) (fun U => x_hI G g h U.heap ∧ x_K G U ∧ x_St G U U.heap ∧ G.2.2.1 ≤ U.heap.size)) (.ref (x_ad G a) :: As.map (x_tr (x_ad G))) := ⟨x_blind, x_pre (av := vR (some a) :: As) C⟩
  rcases hl with hl | ⟨host, hl⟩
  · exact va_runI (As := As.map (x_tr (x_ad G))) (b := x_ad G a) (n := np) ⟨C.2.1.1, C.2.1.2.1, C.2.1.2.2.1, C.2.1.2.2.2.2.2.2.1, hts⟩ hMet ⟨callB_of np hts (x_good hcode) rfl rfl rfl (ht _ hini) (ht _ hl) hdd2 (x_rmL (Y' := (y', b', n', none)) hdd hml), hnm, ht _ hi⟩ hp rfl (by rw [List.length_map]; exact hnp) hls rfl hWr hd hcs
  · exact va_runIN (As := As.map (x_tr (x_ad G))) (b := x_ad G a) (n := np) ⟨C.2.1.1, C.2.1.2.1, C.2.1.2.2.1, C.2.1.2.2.2.2.2.2.1, hts⟩ hMet ⟨va_cnB np hts (x_good hcode) rfl rfl rfl (C.2.2.2.1.2.2.2.2 _ hl rfl) (ht _ hini) hdd2 (x_rmL (Y' := (y', b', n', none)) hdd hml), hnm, ht _ hi⟩ hp rfl (by rw [List.length_map]; exact hnp) hls rfl hWr hd hcs
theorem start_K (hT : ∀ w ∈ x_TBL, w.before #[Value.ref b] s = true) (hts : ∀ w ∈ tables_1, w.before #[Value.ref b] s = true) : ∃ (D : va_G) (cA : Nat → ClassId), ∀ rst, x_K (D, cA, rst) s := by
  obtain ⟨c0, i0, k0⟩ := u_known (C := RX0) (T := TX0) (N := 10) (n := 10) hT inX0 (hT _ it_X0)
  obtain ⟨c1, i1, k1⟩ := u_known (C := RX1) (T := TX1) (N := 12) (n := 12) hT inX1 (hT _ it_X1)
  obtain ⟨c2, i2, k2⟩ := u_known (C := RX2) (T := TX2) (N := 3) (n := 3) hT inX2 (hT _ it_X2)
  obtain ⟨c3, i3, k3⟩ := u_known (C := RX4) (T := TX4) (N := 8) (n := 8) hT inX4 (hT _ it_X4)
  obtain ⟨c4, i4, k4⟩ := u_known (C := RX5) (T := TX5) (N := 2) (n := 2) hT inX5 (hT _ it_X5)
  obtain ⟨c5, i5, k5⟩ := u_known (C := RX6) (T := TX6) (N := 6) (n := 6) hT inX6 (hT _ it_X6)
  obtain ⟨c6, i6, k6⟩ := u_known (C := RX7) (T := TX7) (N := 7) (n := 7) hT inX7 (hT _ it_X7)
  obtain ⟨c7, i7, k7⟩ := u_known (C := RX9) (T := TX9) (N := 9) (n := 9) hT inX9 (hT _ it_X9)
  obtain ⟨c8, i8, k8⟩ := u_known (C := RX10) (T := TX10) (N := 40) (n := 40) hT inX10 (hT _ it_X10)
  obtain ⟨a0, kA0, cc0, f0, g0, h0⟩ := Cond.arrayClass_spec (hT _ ac_int)
  obtain ⟨a1, kA1, cc1, f1, g1, h1⟩ := Cond.arrayClass_spec (hT _ ac_long)
  obtain ⟨a2, kA2, cc2, f2, g2, h2⟩ := Cond.arrayClass_spec (hT _ ac_boolean)
  obtain ⟨p3, a3, kA3, e31, -, e33, e34, e35⟩ := Cond.arrayOver_spec (hts _ ao_text)
  obtain ⟨p4, a4, kA4, e41, -, e43, e44, e45⟩ := arrayOverA_spec (hts _ ao_rows)
  refine ⟨(fun k => if k = 0 then c0 else if k = 1 then c1 else if k = 2 then c2 else if k = 3 then c3 else if k = 4 then c4 else if k = 5 then c5 else if k = 6 then c6 else if k = 7 then c7 else c8, fun k => if k = 0 then i0 else if k = 1 then i1 else if k = 2 then i2 else if k = 3 then i3 else if k = 4 then i4 else if k = 5 then i5 else if k = 6 then i6 else if k = 7 then i7 else i8), fun k => if k = 0 then a0 else if k = 1 then a1 else if k = 2 then a2 else if k = 3 then a3 else a4, fun rst => ⟨fun k q hq => ?_, fun k q hq => ?_⟩⟩
  · match k, hq with
    | 0, hq => cases hq; exact k0
    | 1, hq => cases hq; exact k1
    | 2, hq => cases hq; exact k2
    | 3, hq => cases hq; exact k3
    | 4, hq => cases hq; exact k4
    | 5, hq => cases hq; exact k5
    | 6, hq => cases hq; exact k6
    | 7, hq => cases hq; exact k7
    | 8, hq => cases hq; exact k8
    | k + 9, hq => simp [vwCl] at hq
  · match k, hq with
    | 0, hq => cases hq; exact ⟨fun n z => ⟨fun k h => (by cases h), kA0, g0, cc0, h0⟩, f0⟩
    | 1, hq => cases hq; exact ⟨fun n z => ⟨fun k h => (by cases h), kA1, g1, cc1, h1⟩, f1⟩
    | 2, hq => cases hq; exact ⟨fun n z => ⟨fun k h => (by cases h), kA2, g2, cc2, h2⟩, f2⟩
    | 3, hq => cases hq; exact ⟨fun n z => ⟨fun k h => (by cases h), kA3, e33, p3, e34⟩, kA3, p3, e33, e34, e31, e35⟩
    | 4, hq => cases hq; exact ⟨fun n z => ⟨fun k h => (by cases h), kA4, e43, p4, e44⟩, e45⟩
    | k + 5, hq => simp [x_tys] at hq
theorem start_Sg (bs : List Int32) (hb : bs.length < 2 ^ 31) (ex : (Cond.exactly tmS "java/lang/String").before #[Value.ref b] s = true) (co : (Cond.eq (.field tmS "java/lang/String" "coder" "B") (.int 0)).before #[Value.ref b] s = true) (ar : (Cond.arrayOf (.field tmS "java/lang/String" "value" "[B") .byte).before #[Value.ref b] s = true) (le : (Cond.eq (.length (.field tmS "java/lang/String" "value" "[B")) (.int (Int32.ofNat bs.length))).before #[Value.ref b] s = true) (el : ∀ j, j < bs.length → (Cond.eq (.elem (.field tmS "java/lang/String" "value" "[B") (.int (Int32.ofNat j))) (.int (bs.getD j 0))).before #[Value.ref b] s = true) : ∃ aK aV : Nat, vk_S 1 [bs.length] [bs] (fun _ => aK) (fun _ => aV) (fun q => s.heap.size ≤ q) s s.heap ∧ tmS.eval #[Value.ref b] s none [] s = some (.ref aK) := by
  have hA : ∀ a : Nat, a < s.heap.size → ¬ s.heap.size ≤ a := fun a h => Nat.not_le.mpr h
  have z : ∀ i, i < 1 → i = 0 := fun i h => by omega
  obtain ⟨adK, adV, hS, hev⟩ := vk_Sof (args := #[Value.ref b]) (s := s) (N := 1) (tm := fun _ => tmS) (len := [bs.length]) (byt := [bs]) (A := fun q => s.heap.size ≤ q) (fun i hi => by rw [z i hi]; exact hb) (fun i hi => ex) (fun i hi => co) (fun i hi => ar) (fun i hi => by rw [z i hi]; exact le) (fun i hi j hj => by rw [z i hi] at hj ⊢; exact el j hj) (fun i j hi hj hij => absurd ((z i hi).trans (z j hj).symm) hij) hA
  refine ⟨adK 0, adV 0, ⟨fun i hi => ?_, fun i j hi hj _ => (z i hi).trans (z j hj).symm⟩, hev 0 (by decide)⟩
  have := hS.1 i hi
  rw [z i hi] at this ⊢
  exact this
theorem start_S (hts : ∀ w ∈ tables_1, w.before #[Value.ref b] s = true) (hgv : (Jvm.Cond.and given_1 narrow_1).before #[Value.ref b] s = true) : ∃ q : Nat × Nat × Nat, ∀ (D : va_G) (cA : Nat → ClassId) (k : Nat), x_St (D, cA, s.heap.size, k, q) s s.heap := by
  have hs := flat_of_before _ hgv
  have hA : ∀ a : Nat, a < s.heap.size → ¬ s.heap.size ≤ a := fun a h => Nat.not_le.mpr h
  obtain ⟨aK, aV, hS', hev⟩ := start_Sg x_bytes len_b (hs _ gv_ex) (hs _ gv_co) (hs _ gv_ar) (hs _ gv_le) (fun j hj => hs _ (gv_el hj))
  have hZ := va_Zof (A := fun q => s.heap.size ≤ q) (hts _ tb_cs) (hts _ tb_is) (va_eqt (hs _ gv_cs)) hA
  have hF := va_Zqof (A := fun q => s.heap.size ≤ q) (hts _ tb_pf) (hts _ tb_ip) (hs _ gv_pf) hA
  have hR : vk_R "VaneCourt$Tape" 61 x_words aK s := vk_R.of (hts _ tb_str) hev
  have hN : x_NW s := fun w hw hn => by
    have h1 := hts w hw
    cases w with
    | arrayOver ty => exact h1
    | _ => first | exact va_tabs rfl rfl h1 | cases hn
  rcases hF with hF | ⟨t, hF⟩
  · exact ⟨(aK, aV, 0), fun D cA k => ⟨hR, hS', hZ, Or.inl hF, hN⟩⟩
  · exact ⟨(aK, aV, t), fun D cA k => ⟨hR, hS', hZ, Or.inr hF, hN⟩⟩
end Start
theorem whole_start {p : Program} {e : Env} {s : State} {m : MethodId} {below : List Frame} {meth : Method} {c : Code} (l : Launch) (hflags : l.flags = flags0) {b L : Nat} {xs : Nat → Int32} (hL : L ≤ 3072) (C0 : lw_At p s m meth c b L xs) : W p l e room_1 s m #[Value.ref b] below meth c s.heap [] 0 0 (lw_Z below #[Value.ref b] s) (entryFrame m ([Value.ref b] : List Value).toArray 4) := by
  obtain ⟨hx, hb, hr, hml, hown, hts, hX, hbl, hlocks, hgv, hcode, hname⟩ := C0
  have hT : ∀ w ∈ x_TBL, w.before #[Value.ref b] s = true := fun w hw => hts w (List.mem_filter.mp hw).1
  have ht1 : ∀ w ∈ tables_1, w.before #[Value.ref b] s = true := fun w hw => hts w (List.mem_append_right _ hw)
  obtain ⟨D, cA, hK⟩ := start_K hT ht1
  obtain ⟨q, hSt⟩ := start_S ht1 hgv
  generalize hG : ((D, cA, s.heap.size, 0, q) : xG) = G
  have hGb : G.2.2.1 = s.heap.size := by rw [← hG]
  have C1 : x_C YL (some 0) G p s m #[Value.ref b] meth c s.heap [] (0, Pz, Mz) := by
    subst hG
    refine ⟨trivial, ⟨hx, hb, hml, hr, hlocks, hname, hown, List.forall_mem_cons.mpr ⟨hcode, hT⟩⟩, hK _, hSt D cA 0, Nat.le_refl _, va_S.rf, ⟨fun g1 hg => ?_, (by show (0 : Nat) < 1000; decide), fun k q hq => ?_⟩, bnd_ok bnd_z (by decide)⟩
    · cases hg
      exact ⟨rfl, rfl⟩
    · obtain ⟨hk, -⟩ := x_cw_inv hq
      exact absurd hk (Nat.not_lt_zero _)
  have X : LX s b L xs G := ⟨hX, hbl, hGb, hL⟩
  have hl := lv_entry ([.ref b]) (n := 4) (Nat.le_of_ble_eq_true rfl)
  rw [lg_entry_eq]
  generalize (lg_sl ([.ref b]) ++ List.replicate (4 - (lg_sl ([.ref b])).length) Slot.unset).toArray = ls at hl ⊢
  have hl : lv_has ls 4 [(0, .ref b)] := hl
  refine lawNew (n := 0) dL_law_0 nk_L_7 rfl x_no4_7 (by decide) (fun w => absurd w (by decide)) (by decide) (x_raw_b raw_z (by decide) (by decide)) ⟨Nat.le_of_ble_eq_true rfl, Nat.le_of_ble_eq_true rfl⟩ C1 (fun H1 C2 => ?_)
  refine lv_dup (cc := code) hx hb dL_law_3 rfl ?_
  refine lawInit (As := []) (rest := [.ref (x_ad G 0)]) (a := 0) (mc' := 63) (ms' := 7943) (d := 103) dL_law_4 mk_L_9 rfl rfl im_X9_init rfl hl.1 okNil (Nat.le_of_ble_eq_true rfl) ⟨Nat.le_of_ble_eq_true rfl, Nat.le_of_ble_eq_true rfl⟩ (Nat.le_of_ble_eq_true rfl) C2 (i_X9 (d := 100) (Q := fun h' r => h' = (64, pClass Pz, mClass Mz) ∧ r = none) (x_raw_mono raw_z (Nat.zero_le _)) ⟨rfl, rfl⟩) (fun h' r H2 locs2 hq C3 => ?_)
  obtain ⟨rfl, rfl⟩ := hq
  refine lv_astore_n (cc := code) (lv' := [(1, .ref (x_ad G 0)), (0, .ref b)]) hx hb dL_law_7 rfl hl (by decide) rfl (fun ls1 hl1 => ?_)
  refine lawNew (n := 64) dL_law_8 nk_L_10 rfl x_no4_8 (by decide) (fun w => absurd w (by decide)) (by decide) (x_raw_b raw_c (by decide) (by decide)) ⟨Nat.le_of_ble_eq_true rfl, Nat.le_of_ble_eq_true rfl⟩ C3 (fun H3 C4 => ?_)
  refine lv_dup (cc := code) hx hb dL_law_11 rfl ?_
  refine lawInit (As := []) (rest := [.ref (x_ad G 64)]) (a := 64) (mc' := 17) (ms' := 11600) (d := 101) dL_law_12 mk_L_12 rfl rfl im_X10_init rfl hl1.1 okNil (Nat.le_of_ble_eq_true rfl) ⟨Nat.le_of_ble_eq_true rfl, Nat.le_of_ble_eq_true rfl⟩ (Nat.le_of_ble_eq_true rfl) C4 (i_X10 (d := 100) (Q := fun h' r => h' = (82, Pst, Mst) ∧ r = none) PP_st (x_raw_mono raw_c (by decide)) ⟨rfl, rfl⟩) (fun h' r H4 locs4 hq C5 => ?_)
  obtain ⟨rfl, rfl⟩ := hq
  refine lv_astore_n (cc := code) (lv' := [(2, .ref (x_ad G 64)), (1, .ref (x_ad G 0)), (0, .ref b)]) hx hb dL_law_15 rfl hl1 (by decide) rfl (fun ls2 hl2 => ?_)
  refine lv_iconst (cc := code) (v := 0) hx hb dL_law_16 rfl ?_
  refine lv_istore_n (cc := code) (lv' := [(3, .int 0), (2, .ref (x_ad G 64)), (1, .ref (x_ad G 0)), (0, .ref b)]) hx hb dL_law_17 rfl hl2 (by decide) rfl (fun ls3 hl3 => ?_)
  exact law_loop (L + 1) 0 G H4 locs4 ls3 Pst Mst _ _ (by omega) (Int.le_refl _) (by decide) (by decide) X (lv_sub hl3 [3, 2, 1, 0] rfl) (C_drop (Nat.le_refl _) C5) PP_st Rel_st (by decide)
