/-! rules for what makes cells: the cell n, not made yet, holds in P and M what it is born with -/
def x_NK (own : String) (idx ci : Nat) : Prop := ∃ (C : String) (T : u_T) (N : Nat) (ty0 : Nat → FieldType), vwCl[ci]? = some (C, T, N) ∧ (∀ w ∈ u_ws C T N, w ∈ x_TBL) ∧ (∀ k, k < N → parseFieldDescriptor (T k).2.2.1 = some (ty0 k)) ∧ (∀ k, k < N → x_tc (ty0 k) = x_ft ci k ∨ x_tc (ty0 k) = 2 ∧ x_ft ci k = 4) ∧ Cond.classLink own idx C ∈ x_TBL ∧ Cond.instantiable C N ∈ x_TBL ∧ Cond.initialized C ∈ x_TBL
/-- cell c as it is born -/
def x_b0 (P : xP) (M : xM) (c : Nat) : Prop := (∀ j : Int, P c j = none) ∧ ∀ j : Int, M c j = if c = 15 ∧ j = 2 then -1 else 0
theorem x_cw_push {G : xG} {n : Nat} {P : xP} {M : xM} : x_cw G (n + 1, P, M) = x_cw G (n, P, M) ++ [(x_ad G n, x_ce G.2.1 (x_ad G) P M n)] := by
  unfold x_cw
  rw [List.range_succ, List.map_append]
  rfl
theorem x_ad_next {G : xG} {n : Nat} (h82 : n + 1 = 82 → G.2.2.2.1 = 0) (h : n + 1 < 1000) : x_ad G (n + 1) = x_ad G n + 1 := by
  unfold x_ad
  rw [if_pos h, if_pos (show n < 1000 by omega)]
  by_cases h1 : n + 1 < 82
  · rw [if_pos h1, if_pos (show n < 82 by omega)]; omega
  · rw [if_neg h1]
    by_cases h2 : n < 82
    · rw [if_pos h2, h82 (by omega)]; omega
    · rw [if_neg h2]; omega
theorem x_grow {G : xG} {g0 n : Nat} {P : xP} {M : xM} {H H1 : Heap} (hI : x_hI G (some g0) (n, P, M) H) (h82 : n + 1 = 82 → g0 = 0) (h1000 : n + 1 < 1000) (z1 : H1.size = H.size + 1) (o1 : ∀ q, q < H.size → H1[q]? = H[q]?) (hat : va_at G.1 vwCl (H.size, x_ce G.2.1 (x_ad G) P M n) H1) : x_hI G (some g0) (n + 1, P, M) H1 := by
  obtain ⟨hs, -, hP⟩ := hI
  obtain ⟨e1, e2⟩ := hs g0 rfl
  have e2' : H.size = x_ad G n := e2
  refine ⟨fun g1 hg => ?_, h1000, ?_⟩
  · cases hg
    refine ⟨e1, ?_⟩
    show H1.size = x_ad G (n + 1)
    rw [z1, e2', x_ad_next (fun w => e1.trans (h82 w)) h1000]
  · rw [x_cw_push]
    refine (hP.kept fun k x hx => o1 x.1 ((hP k x hx).lt)).app (fun k x hx => ?_)
    have hz : k < 1 := (List.getElem?_eq_some_iff.mp hx).1
    rw [show k = 0 by omega] at hx
    cases hx
    rw [← e2']
    exact hat
theorem x_growS {A : Nat → Prop} {H0 H H1 : Heap} {locs : List Loc} (hS : va_S A H0 H locs) (z1 : H1.size = H.size + 1) (o1 : ∀ q, q < H.size → H1[q]? = H[q]?) : va_S A H0 H1 locs := ⟨Nat.le_trans hS.1 (by omega), fun x h1 h2 => (o1 x (Nat.lt_of_lt_of_le h1 hS.1)).trans (hS.2.1 x h1 h2), hS.2.2⟩
theorem x_ft_le (ci j : Nat) : x_ft ci j ≤ 4 := by
  have key : ∀ l ∈ x_FL, ∀ t ∈ l, t ≤ 4 := by decide
  unfold x_ft
  rw [List.getD_eq_getElem?_getD, List.getD_eq_getElem?_getD]
  cases h1 : x_FL[ci]? with
  | none => exact Nat.zero_le _
  | some l =>
    rw [Option.getD_some]
    cases h2 : l[j]? with
    | none => exact Nat.zero_le _
    | some t => exact key l (List.mem_of_getElem? h1) t (List.mem_of_getElem? h2)
section Make
variable {Y : xY} {g : Option Nat} {g0 d mc ms pc : Nat} {L : xL} {st : List xV} {cs : Nat × Nat} {n : Nat} {P : xP} {M : xM} {h : xH} {Q : xH → Option xV → Prop}
theorem xW.newO {idx ci : Nat} (hd : decode Y.2.1 pc = .ok (.new idx, 3)) (hN : x_NK Y.1.cls idx ci) (hs : x_sk n = ci + 5) (h15 : n = 15 ∨ ∀ j, x_ft ci j ≠ 4) (h15' : n = 15 → ∀ j, x_ft ci j = 4 ↔ j = 2) (h82 : n + 1 = 82 → g0 = 0) (h1000 : n + 1 < 1000) (hb : x_b0 P M n) (hr : cs.1 + 1 ≤ mc ∧ cs.2 + x_sn n ≤ ms)
    (k : xW Y (some g0) d mc ms (pc + 3) L (vR (some n) :: st) (cs.1 + 1, cs.2 + x_sn n) (n + 1, P, M) Q) : xW Y (some g0) d mc ms pc L st cs (n, P, M) Q := by
  intro l G p e s m args below meth c H locs ls C S
  obtain ⟨CN, T, N, ty0, hc, hin, hpt, htc, hcl, hinst, hini⟩ := hN
  have hts := C.2.1.2.2.2.2.2.2.2
  have ht : ∀ w ∈ x_TBL, w.before args s = true := fun w hw => hts w (List.mem_cons_of_mem _ hw)
  have hin' : ∀ w ∈ u_ws CN T N, w ∈ x_ws Y := fun w hw => List.mem_cons_of_mem _ (hin w hw)
  have hKn := C.2.2.1.1 ci _ hc
  have hsn : x_sn n = N := x_cls hc hs
  have hI := C.2.2.2.2.2.2.1
  have hsz : H.size = x_ad G n := (hI.1 g0 rfl).2
  rw [hsn] at hr k
  refine W.newcK C.2.1.1 C.2.1.2.1 C.2.1.2.2.2.2.2.2.1 (ht _ hcl) (ht _ hinst) (ht _ hini) rfl hd hr.1 hr.2 hKn.2.1 rfl fun H1 kC hkC e1 z1 o1 => ?_
  have hfs : ∀ j, j < N → defaultValue (ty0 j) = vp_V ((List.range (x_sn n)).map (x_fv (x_ad G) P M n ci)) j := by
    intro j hj
    have e : ((List.range (x_sn n)).map (x_fv (x_ad G) P M n ci))[j]? = some (x_fv (x_ad G) P M n ci j) := by
      rw [List.getElem?_map, List.getElem?_range (by omega)]
      rfl
    have e' : vp_V ((List.range (x_sn n)).map (x_fv (x_ad G) P M n ci)) j = x_fv (x_ad G) P M n ci j := by
      unfold vp_V
      first | (rw [List.getD_eq_getElem?_getD, e]; rfl) | (rw [e]; rfl) | simp [e]
    rw [e']
    unfold x_fv
    rw [hb.1, hb.2]
    rcases htc j hj with t | ⟨t, t4⟩
    · have n4 : x_ft ci j ≠ 4 := by rw [← t]; cases ty0 j <;> first | exact (show (0 : Nat) ≠ 4 by decide) | exact (show (1 : Nat) ≠ 4 by decide) | exact (show (2 : Nat) ≠ 4 by decide) | exact (show (3 : Nat) ≠ 4 by decide) | exact (show (9 : Nat) ≠ 4 by decide)
      have n15 : ¬ (n = 15 ∧ (j : Int) = 2) := fun w => n4 ((h15' w.1 j).mpr (by omega))
      rw [if_neg n4, if_neg n15]
      cases hty : ty0 j <;> rw [hty] at t <;> first | (have t2 : x_ft ci j = 2 := t.symm; rw [if_pos t2]; rfl) | (have t2 : x_ft ci j = 1 := t.symm; rw [if_neg (by omega), if_pos t2]; rfl) | (have t2 : x_ft ci j = 0 := t.symm; rw [if_neg (by omega), if_neg (by omega)]; rfl) | (have t2 : x_ft ci j = 3 := t.symm; rw [if_neg (by omega), if_neg (by omega)]; rfl) | (exfalso; have t2 : x_ft ci j = 9 := t.symm; have hle := x_ft_le ci j; omega)
    · have hn15 : n = 15 := by
        rcases h15 with w | w
        · exact w
        · exact absurd t4 (w j)
      have hj2 : j = 2 := (h15' hn15 j).mp t4
      rw [if_neg (by omega), if_pos t4, if_pos ⟨hn15, by omega⟩]
      cases hty : ty0 j <;> rw [hty] at t <;> first | rfl | (exfalso; revert t; decide)
  have kk := k l G p e s m args below meth c H1 locs ls ⟨trivial, C.2.1, C.2.2.1, C.2.2.2.1, C.2.2.2.2.1, x_growS C.2.2.2.2.2.1 z1 o1, x_grow hI h82 h1000 z1 o1 (by rw [x_ce_obj hs]; exact ⟨_, hc, (u_born ty0 hts hin' hKn hkC e1 hpt).to hfs⟩), C.2.2.2.2.2.2.2⟩ ⟨S.1, S.2.1, List.forall_mem_cons.mpr ⟨trivial, S.2.2⟩⟩
  have e9 : (vR (some n) :: st).map (x_tr (x_ad G)) = .ref H.size :: st.map (x_tr (x_ad G)) := by rw [hsz]; rfl
  rw [e9] at kk
  exact kk
theorem x_newA {i : Int} {kd N : Nat} {atype : ArrayType} {ty : FieldType} (hd : decode Y.2.1 pc = .ok (.newarray atype, 2)) (hty : newarray.typeOf atype = ty) (harr : Cond.arrayClass ty ∈ x_TBL) (hk : ∀ G : xG, (x_tys G)[kd]? = some (G.2.1 kd, ty)) (hra : ∀ (U : State) (cA : ClassId), va_RA U cA ty → U.vm.findClass ("[" ++ ty.toString) = some cA) (hN : x_sn n = N) (hi : i = (N : Int)) (hb : N * componentBytes ty ≤ 536870912) (h82 : n + 1 = 82 → g0 = 0) (h1000 : n + 1 < 1000)
    (hce : ∀ (cA : Nat → ClassId) (ad : Nat → Nat), ∃ a0 : vp_A, x_ce cA ad P M n = .inl (cA kd, a0) ∧ vp_cell (cA kd) a0 = arrV (cA kd) (x_sn n) (fun _ => defaultValue ty)) (hr : cs.1 + 1 ≤ mc ∧ cs.2 + N ≤ ms)
    (k : xW Y (some g0) d mc ms (pc + 2) L (vR (some n) :: st) (cs.1 + 1, cs.2 + N) (n + 1, P, M) Q) : xW Y (some g0) d mc ms pc L (vI i :: st) cs (n, P, M) Q := by
  intro l G p e s m args below meth c H locs ls C S
  obtain ⟨s1, s2⟩ := List.forall_mem_cons.mp S.2.2
  have s1' : inR i := s1
  have hts := C.2.1.2.2.2.2.2.2.2
  have hI := C.2.2.2.2.2.2.1
  have hsz : H.size = x_ad G n := (hI.1 g0 rfl).2
  have h0 : ¬ Int32.ofInt i < 0 := fun w => by
    have h2 : (Int32.ofInt i).toInt < (0 : Int32).toInt := Int32.lt_iff_toInt_lt.mp w
    rw [x_inR s1'] at h2
    have h3 : (0 : Int32).toInt = 0 := rfl
    omega
  have hcl : (Int32.ofInt i).toNatClampNeg = N := by rw [x_clamp s1']; omega
  subst hty
  refine va_newaK C.2.1.1 C.2.1.2.1 (hts _ (List.mem_cons_of_mem _ harr)) rfl hd rfl h0 hcl hb hr.1 hr.2 rfl fun H1 cA e1 z1 o1 hAr hNm => ?_
  have hg := hra s (G.2.1 kd) (C.2.2.1.2 kd _ (hk G)).2
  have ecA : cA = G.2.1 kd := Option.some.inj (hNm.symm.trans hg)
  subst ecA
  obtain ⟨a0, q1, q2⟩ := hce G.2.1 (x_ad G)
  have kk := k l G p e s m args below meth c H1 locs ls ⟨trivial, C.2.1, C.2.2.1, C.2.2.2.1, C.2.2.2.2.1, x_growS C.2.2.2.2.2.1 z1 o1, x_grow hI h82 h1000 z1 o1 (by
    rw [q1]
    show H1[H.size]? = some (vp_cell _ _)
    rw [q2, hN]
    exact e1), C.2.2.2.2.2.2.2⟩ ⟨S.1, S.2.1, List.forall_mem_cons.mpr ⟨trivial, s2⟩⟩
  have e9 : (vR (some n) :: st).map (x_tr (x_ad G)) = .ref H.size :: st.map (x_tr (x_ad G)) := by rw [hsz]; rfl
  rw [e9] at kk
  exact kk
theorem x_b0_M {c : Nat} (hb : x_b0 P M c) (h : c ≠ 15) (j : Int) : M c j = 0 := by
  rw [hb.2, if_neg (fun w => h w.1)]
theorem xW.newI {N : Nat} (hd : decode Y.2.1 pc = .ok (.newarray .int, 2)) (harr : Cond.arrayClass .int ∈ x_TBL) (hs : x_sk n = 0) (hN : x_sn n = N) (hB : N ≤ 10000) (h82 : n + 1 = 82 → g0 = 0) (h1000 : n + 1 < 1000) (hb : x_b0 P M n) (hr : cs.1 + 1 ≤ mc ∧ cs.2 + N ≤ ms)
    (k : xW Y (some g0) d mc ms (pc + 2) L (vR (some n) :: st) (cs.1 + 1, cs.2 + N) (n + 1, P, M) Q) : xW Y (some g0) d mc ms pc L (vI (N : Int) :: st) cs (n, P, M) Q := by
  have h15 : n ≠ 15 := fun w => by rw [w] at hs; exact absurd hs (by decide)
  refine x_newA (kd := 0) hd rfl harr (fun _ => rfl) (fun _ _ w => w) hN rfl (by show N * 4 ≤ _; omega) h82 h1000 (fun cA ad => ⟨_, x_ce0 hs, ?_⟩) hr k
  rw [vp_cell_i]
  refine congrArg (arrV (cA 0) (x_sn n)) (funext fun j => ?_)
  rw [x_b0_M hb h15]
  rfl
theorem xW.newZ {N : Nat} (hd : decode Y.2.1 pc = .ok (.newarray .boolean, 2)) (harr : Cond.arrayClass .boolean ∈ x_TBL) (hs : x_sk n = 2) (hN : x_sn n = N) (hB : N ≤ 10000) (h82 : n + 1 = 82 → g0 = 0) (h1000 : n + 1 < 1000) (hb : x_b0 P M n) (hr : cs.1 + 1 ≤ mc ∧ cs.2 + N ≤ ms)
    (k : xW Y (some g0) d mc ms (pc + 2) L (vR (some n) :: st) (cs.1 + 1, cs.2 + N) (n + 1, P, M) Q) : xW Y (some g0) d mc ms pc L (vI (N : Int) :: st) cs (n, P, M) Q := by
  have h15 : n ≠ 15 := fun w => by rw [w] at hs; exact absurd hs (by decide)
  refine x_newA (kd := 2) hd rfl harr (fun _ => rfl) (fun _ _ w => w) hN rfl (by show N * 1 ≤ _; omega) h82 h1000 (fun cA ad => ⟨_, x_ce2 hs, ?_⟩) hr k
  rw [vp_cell_i]
  refine congrArg (arrV (cA 2) (x_sn n)) (funext fun j => ?_)
  rw [x_b0_M hb h15]
  rfl
theorem xW.newJ {N : Nat} (hd : decode Y.2.1 pc = .ok (.newarray .long, 2)) (harr : Cond.arrayClass .long ∈ x_TBL) (hs : x_sk n = 1) (hN : x_sn n = N) (hB : N ≤ 10000) (h82 : n + 1 = 82 → g0 = 0) (h1000 : n + 1 < 1000) (hb : x_b0 P M n) (hr : cs.1 + 1 ≤ mc ∧ cs.2 + N ≤ ms)
    (k : xW Y (some g0) d mc ms (pc + 2) L (vR (some n) :: st) (cs.1 + 1, cs.2 + N) (n + 1, P, M) Q) : xW Y (some g0) d mc ms pc L (vI (N : Int) :: st) cs (n, P, M) Q := by
  have h15 : n ≠ 15 := fun w => by rw [w] at hs; exact absurd hs (by decide)
  refine x_newA (kd := 1) hd rfl harr (fun _ => rfl) (fun _ _ w => w) hN rfl (by show N * 8 ≤ _; omega) h82 h1000 (fun cA ad => ⟨_, x_ce1 hs, ?_⟩) hr k
  rw [vp_cell_l]
  refine congrArg (arrV (cA 1) (x_sn n)) (funext fun j => ?_)
  rw [x_b0_M hb h15]
  rfl
theorem xW.newR {N idx : Nat} (hd : decode Y.2.1 pc = .ok (.anewarray idx, 3)) (hcl : Cond.classLink Y.1.cls idx "VaneCourt$Text" ∈ x_TBL) (hover : Cond.arrayOver (.object "VaneCourt$Text") ∈ tables_1) (hs : x_sk n = 3) (hN : x_sn n = N) (hB : N ≤ 10000) (h82 : n + 1 = 82 → g0 = 0) (h1000 : n + 1 < 1000) (hb : x_b0 P M n) (hr : cs.1 + 1 ≤ mc ∧ cs.2 + N ≤ ms)
    (k : xW Y (some g0) d mc ms (pc + 3) L (vR (some n) :: st) (cs.1 + 1, cs.2 + N) (n + 1, P, M) Q) : xW Y (some g0) d mc ms pc L (vI (N : Int) :: st) cs (n, P, M) Q := by
  intro l G p e s m args below meth c H locs ls C S
  obtain ⟨s1, s2⟩ := List.forall_mem_cons.mp S.2.2
  have s1' : inR (N : Int) := s1
  have hts := C.2.1.2.2.2.2.2.2.2
  have hI := C.2.2.2.2.2.2.1
  have hsz : H.size = x_ad G n := (hI.1 g0 rfl).2
  have h0 : ¬ Int32.ofInt (N : Int) < 0 := fun w => by
    have h2 : (Int32.ofInt (N : Int)).toInt < (0 : Int32).toInt := Int32.lt_iff_toInt_lt.mp w
    rw [x_inR s1'] at h2
    have h3 : (0 : Int32).toInt = 0 := rfl
    omega
  have hcn : (Int32.ofInt (N : Int)).toNatClampNeg = N := by rw [x_clamp s1']; omega
  have hov : va_AO "VaneCourt$Text" s := C.2.2.2.1.2.2.2.2 _ hover rfl
  refine W.anew C.2.1.1 C.2.1.2.1 C.2.1.2.2.2.2.2.2.1 (hts _ (List.mem_cons_of_mem _ hcl)) (va_AO.use hov) rfl hd rfl h0 (by rw [hcn]; omega) hr.1 (by rw [hcn]; exact hr.2) fun cA kA comp f1 f2 f3 f4 => ?_
  generalize hH1 : H.push ({ cls := cA, slots := Array.replicate (Int32.ofInt (N : Int)).toNatClampNeg .null, vm := .none } : Cell) = H1
  have z1 : H1.size = H.size + 1 := by rw [← hH1, Array.size_push]
  have e1 : H1[H.size]? = some (arrV cA N (fun _ => .null)) := by rw [← hH1, Array.getElem?_push_size, ← arrV_new, hcn]
  have o1 : ∀ q : Nat, q < H.size → H1[q]? = H[q]? := fun q hq => by rw [← hH1, Array.getElem?_push, if_neg (Nat.ne_of_lt hq)]
  obtain ⟨kA', comp', -, -, -, hg⟩ := (C.2.2.1.2 3 _ rfl).2
  have ecA : cA = G.2.1 3 := Option.some.inj (f1.symm.trans hg)
  subst ecA
  have kk := k l G p e s m args below meth c H1 locs ls ⟨trivial, C.2.1, C.2.2.1, C.2.2.2.1, C.2.2.2.2.1, x_growS C.2.2.2.2.2.1 z1 o1, x_grow hI h82 h1000 z1 o1 (by
    rw [x_ce3 hs]
    show H1[H.size]? = some (vp_cell _ _)
    rw [vp_cell_q, hN, e1]
    refine congrArg some (congrArg (arrV (G.2.1 3) N) (funext fun j => ?_))
    rw [hb.1]
    rfl), C.2.2.2.2.2.2.2⟩ ⟨S.1, S.2.1, List.forall_mem_cons.mpr ⟨trivial, s2⟩⟩
  have e9 : (vR (some n) :: st).map (x_tr (x_ad G)) = .ref H.size :: st.map (x_tr (x_ad G)) := by rw [hsz]; rfl
  rw [e9] at kk
  rw [hcn]
  exact kk
theorem xW.aast {a v ci : Nat} {i : Int} {r : vw_C} (hd : decode Y.2.1 pc = .ok (.aastore, 1)) (hs : x_sk a = 3) (hn : a < n) (h0 : 0 ≤ i) (h1 : i < x_sn a) (hv : x_sk v = ci + 5) (hvn : v < n) (hc : vwCl[ci]? = some r) (hr : r.1 = "VaneCourt$Text") (k : xW Y g d mc ms (pc + 1) L st cs (n, x_updP P a i (some v), M) Q) : xW Y g d mc ms pc L (vR (some v) :: vI i :: vR (some a) :: st) cs (n, P, M) Q := by
  intro l G p e s m args below meth c H locs ls C S
  obtain ⟨-, s2⟩ := List.forall_mem_cons.mp S.2.2
  obtain ⟨si, s3⟩ := List.forall_mem_cons.mp s2
  obtain ⟨-, s4⟩ := List.forall_mem_cons.mp s3
  have si' : inR i := si
  obtain ⟨hsz, h1000, hP⟩ := C.2.2.2.2.2.2.1
  have hK := C.2.2.1
  have hS := C.2.2.2.2.2.1
  have hD : va_D (x_A G) (x_cw G (n, P, M)) := x_D h1000
  have ha := x_cw_get (G := G) (h := (n, P, M)) hn
  rw [x_ce3 hs] at ha
  have hvv := x_cw_get (G := G) (h := (n, P, M)) hvn
  rw [x_ce_obj hv] at hvv
  have hin := x_in si' h0 h1
  have hlt : (Int32.ofInt i).toNatClampNeg < x_sn a := Nat.not_le.mp fun q => hin (Or.inr q)
  have hz0 : ¬ Int32.ofInt i < 0 := fun q => hin (Or.inl q)
  obtain ⟨r', hr', cellV, g1, g2, g3, -⟩ := hP v _ hvv
  have hcls := (hK.1 ci r hc).2
  obtain ⟨kA, comp, k1, k2, k3, -⟩ := (hK.2 3 _ rfl).2
  rw [← hr] at k3
  have hcomp : comp = G.1.1 ci := Option.some.inj (k3.symm.trans hcls.1)
  subst hcomp
  obtain ⟨kC, hkC, -⟩ := hcls.2
  refine W.aast C.2.1.1 C.2.1.2.1 (hP a _ ha) (fun q h => by cases h) (fun h => by cases h) k1 k2 rfl hkC ⟨hz0, by show _ < (arrV _ _ _).slots.size; rw [arrV_size]; exact hlt⟩ g1 (fun q h => by rw [g3] at h; cases h) (by rw [g2]; exact hkC) (by rw [g2]; exact va_assign hcls) rfl rfl hd fun H1 e z oq => ?_
  refine k l G p _ s m args below meth c H1 _ ls ⟨trivial, C.2.1, C.2.2.1, C.2.2.2.1, C.2.2.2.2.1, hS.put z oq (hD.2 a _ ha), ⟨fun g1 hg => ⟨(hsz g1 hg).1, z.trans (hsz g1 hg).2⟩, h1000, ?_⟩, C.2.2.2.2.2.2.2⟩ ⟨S.1, S.2.1, s4⟩
  have hset : (x_cw G (n, P, M)).set a (x_ad G a, .inl (G.2.1 3, x_sn a, .inr (.inr (.inr (.inr (fun j : Nat => (x_updP P a i (some v) a j).map (x_ad G))))))) = x_cw G (n, x_updP P a i (some v), M) := by
    apply x_cw_set
    · rw [x_ce3 hs]
    · intro b hb
      exact x_ce_ne (x_updP_ne hb) (fun _ => rfl)
  rw [← hset]
  refine hP.set hD ha ?_ oq
  show H1[x_ad G a]? = some (vp_cell _ _)
  rw [e, vp_cell_q, vp_cell_q, arrV_store]
  refine congrArg some (congrArg (arrV (G.2.1 3) (x_sn a)) (funext fun q => ?_))
  have hti := x_toNat si' h0
  by_cases hq : q = (Int32.ofInt i).toNatClampNeg
  · have hqi : (q : Int) = i := by rw [hq]; exact hti
    show updV _ _ _ q = va_rf ((x_updP P a i (some v) a (q : Int)).map (x_ad G))
    have e5 : x_updP P a i (some v) a (q : Int) = some v := if_pos ⟨rfl, hqi⟩
    rw [e5]
    simp [updV, va_rf, hq]
  · have hqi : ¬ (q : Int) = i := fun w => hq (by omega)
    show updV _ _ _ q = va_rf ((x_updP P a i (some v) a (q : Int)).map (x_ad G))
    have e5 : x_updP P a i (some v) a (q : Int) = P a (q : Int) := if_neg (fun w => hqi w.2)
    rw [e5]
    simp [updV, hq]
/-- Object's own beginning does nothing -/
theorem xW.objI {a idx : Nat} (hd : decode Y.2.1 pc = .ok (.invokespecial idx, 3)) (hl : Cond.methodLink Y.1.cls idx Lib.objectInit ∈ x_TBL) (hi : Cond.instanceMethod Lib.objectInit ∈ x_TBL) (hco : Cond.code Lib.objectInit ⟨#[0xb1]⟩ 1 none ∈ x_TBL) (hW : (st.map x_cat).sum ≤ 8) (k : xW Y g (d + 1) mc ms (pc + 3) L st cs h Q) : xW Y g (d + 1) mc ms pc L (vR (some a) :: st) cs h Q := by
  intro l G p e s m args below meth c H locs ls C S
  obtain ⟨s1, s2⟩ := List.forall_mem_cons.mp S.2.2
  have hts := C.2.1.2.2.2.2.2.2.2
  have ht : ∀ w ∈ x_TBL, w.before args s = true := fun w hw => hts w (List.mem_cons_of_mem _ hw)
  have hWr : 2 * (F0 m pc ls ((vR (some a) :: st).map (x_tr (x_ad G)))).monitorRoom + ((st.map (x_tr (x_ad G))).map fun v => v.category).sum ≤ 8 := lv_room (by rw [x_cat_sum]; exact hW)
  exact W.objInit (a := x_ad G a) (rest := st.map (x_tr (x_ad G))) C.2.1.1 C.2.1.2.1 C.2.1.2.2.2.2.2.2.1 (ht _ hl) (ht _ hi) (ht _ hco) rfl (S.1.1.trans C.2.1.2.2.1.symm) rfl hd (by show 1 ≤ d + 1; omega) (by show _ ≤ 64 * (d + 1); omega) (k l G p e s m args below meth c H locs ls C ⟨S.1, S.2.1, s2⟩)
end Make
