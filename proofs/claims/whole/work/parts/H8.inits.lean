/-! the constructors -/
def x_raw (n : Nat) (P : xP) (M : xM) : Prop := ∀ c, n ≤ c → c < 83 → (∀ j : Int, M c j = if c = 15 ∧ j = 2 then -1 else 0) ∧ (c ≠ 19 → ∀ j : Int, P c j = none) ∧ (c = 19 → ∀ j : Nat, P 19 j = if j < 3 then some (20 + j) else none)
theorem x_raw_mono {n n' : Nat} {P : xP} {M : xM} (h : x_raw n P M) (hn : n ≤ n') : x_raw n' P M := fun c h1 h2 => h c (Nat.le_trans hn h1) h2
theorem x_raw_P {n a : Nat} {P : xP} {M : xM} {j : Int} {v : Option Nat} (h : x_raw n P M) (ha : a < n) : x_raw n (x_updP P a j v) M := fun c h1 h2 => by
  obtain ⟨q1, q2, q3⟩ := h c h1 h2
  refine ⟨q1, fun w j' => ?_, fun w j' => ?_⟩
  · rw [x_updP_ne (by omega)]; exact q2 w j'
  · rw [x_updP_ne (by omega)]; exact q3 w j'
theorem x_raw_M {n a : Nat} {P : xP} {M : xM} {j v : Int} (h : x_raw n P M) (ha : a < n) : x_raw n P (x_upd M a j v) := fun c h1 h2 => by
  obtain ⟨q1, q2, q3⟩ := h c h1 h2
  exact ⟨fun j' => by rw [x_upd_ne (by omega)]; exact q1 j', q2, q3⟩
theorem x_raw_b {n : Nat} {P : xP} {M : xM} (h : x_raw n P M) (h1 : n < 83) (h19 : n ≠ 19) : x_b0 P M n := ⟨(h n (Nat.le_refl _) h1).2.1 h19, (h n (Nat.le_refl _) h1).1⟩
section NewM
variable {Y : xY} {d mc ms pc : Nat} {L : xL} {st : List xV} {cs : Nat × Nat} {P : xP} {M : xM} {Q : xH → Option xV → Prop}
theorem x_grow1 {G : xG} {n : Nat} {H1 : Heap} (h : va_P G.1 vwCl (x_cw G (n, P, M)) H1) (hat : va_at G.1 vwCl (x_ad G n, x_ce G.2.1 (x_ad G) P M n) H1) : va_P G.1 vwCl (x_cw G (n + 1, P, M)) H1 := by
  rw [x_cw_push]
  refine h.app (fun k x hx => ?_)
  have hz : k < 1 := (List.getElem?_eq_some_iff.mp hx).1
  rw [show k = 0 by omega] at hx
  cases hx
  exact hat
theorem xW.newM {idx : Nat} (hd : decode Y.2.1 pc = .ok (.multianewarray idx 2, 4)) (hcl : Cond.classLink Y.1.cls idx "[[I" ∈ x_TBL) (hr : x_raw 19 P M) (hb : cs.1 + 4 ≤ mc ∧ cs.2 + 18 ≤ ms) (k : xW Y (some 0) d mc ms (pc + 4) L (vR (some 19) :: st) (cs.1 + 4, cs.2 + 18) (23, P, M) Q) : xW Y (some 0) d mc ms pc L (vI 5 :: vI 3 :: st) cs (19, P, M) Q := by
  intro l G p e s m args below meth c H locs ls C S T hT X
  obtain ⟨-, s2⟩ := List.forall_mem_cons.mp S.2.2
  obtain ⟨-, s3⟩ := List.forall_mem_cons.mp s2
  have hts := C.2.1.2.2.2.2.2.2.2
  have ht : ∀ w ∈ x_TBL, w.before args s = true := fun w hw => hts w (List.mem_cons_of_mem _ hw)
  have hI := C.2.2.2.2.2.2.1
  obtain ⟨hg0, hsz⟩ := hI.1 0 rfl
  have hsz' : H.size = x_ad G 19 := hsz
  have hov : (Cond.arrayOver (.array .int)).before args s = true := C.2.2.2.1.2.2.2.2 _ ao_rows rfl
  obtain ⟨vm₁, cO, cI, -, fO, fI, XF, step⟩ := x_multi (pc := pc) (ls := ls) (rest := st.map (x_tr (x_ad G))) X C.2.1.1 C.2.1.2.2.2.2.2.2.1 (ht _ hcl) hov (ht _ ac_int) (by rw [C.2.1.2.1]; exact hd) hb.1 hb.2
  have eO : cO = G.2.1 4 := Option.some.inj (fO.symm.trans (C.2.2.1.2 4 _ rfl).2)
  have eI : cI = G.2.1 0 := Option.some.inj (fI.symm.trans (C.2.2.1.2 0 _ rfl).2)
  subst eO
  subst eI
  obtain ⟨z1, z2, z3, z4⟩ := x_S3_facts (G.2.1 4) (G.2.1 0) (T.setVm vm₁)
  have hTh : (T.setVm vm₁).heap = H := hT
  generalize x_S3 (G.2.1 4) (G.2.1 0) (T.setVm vm₁) = F at XF step z1 z2 z3 z4
  rw [hTh] at z1 z2 z3 z4
  have hTs : T.heap.size = H.size := by rw [hT]
  rw [hTs] at XF step
  have ad : ∀ j, j < 3 → x_ad G (20 + j) = H.size + 1 + j := fun j hj => by
    rw [hsz']
    unfold x_ad
    rw [if_pos (by omega), if_pos (by omega), if_pos (by omega), if_pos (by omega)]
    omega
  have hS := C.2.2.2.2.2.1
  have hA : x_A G H.size := by rw [hsz']; exact x_ad_A (by omega)
  have hS' : va_S (x_A G) s.heap F.heap (((locs ++ [⟨H.size, 0⟩]) ++ [⟨H.size, 1⟩]) ++ [⟨H.size, 2⟩]) := by
    refine ⟨by rw [z1]; have := hS.1; omega, fun q h1 h2 => (z4 q (Nat.lt_of_lt_of_le h1 hS.1)).trans (hS.2.1 q h1 h2), fun q hq => ?_⟩
    rcases List.mem_append.mp hq with hq | hq
    · rcases List.mem_append.mp hq with hq | hq
      · rcases List.mem_append.mp hq with hq | hq
        · exact hS.2.2 q hq
        · rw [List.mem_singleton.mp hq]; exact hA
      · rw [List.mem_singleton.mp hq]; exact hA
    · rw [List.mem_singleton.mp hq]; exact hA
  have row : ∀ n, 20 ≤ n → n < 23 → va_at G.1 vwCl (x_ad G n, x_ce G.2.1 (x_ad G) P M n) F.heap := fun n n0 n1 => by
    have hs : x_sk n = 0 ∧ x_sn n = 5 := by
      have : n = 20 ∨ n = 21 ∨ n = 22 := by omega
      rcases this with rfl | rfl | rfl <;> exact ⟨rfl, rfl⟩
    obtain ⟨r1, -, -⟩ := hr n (by omega) (by omega)
    rw [x_ce0 hs.1]
    show F.heap[x_ad G n]? = some (vp_cell _ _)
    have e1 := ad (n - 20) (by omega)
    rw [show 20 + (n - 20) = n by omega] at e1
    rw [e1, z3 (n - 20) (by omega), vp_cell_i, hs.2]
    refine congrArg some (congrArg (arrV (G.2.1 0) 5) (funext fun j => ?_))
    rw [r1, if_neg (fun w => by omega)]
    rfl
  have hP1 : va_P G.1 vwCl (x_cw G (20, P, M)) F.heap := by
    refine x_grow1 (hI.2.2.kept fun k x hx => z4 x.1 ((hI.2.2 k x hx).lt)) ?_
    rw [x_ce4 rfl]
    show F.heap[x_ad G 19]? = some (vp_cell _ _)
    rw [← hsz', z2, vp_cell_q]
    refine congrArg some (congrArg (arrV (G.2.1 4) 3) (funext fun j => ?_))
    have r3 := (hr 19 (by omega) (by omega)).2.2 rfl j
    show x_f3 H.size j = va_rf ((P 19 (j : Int)).map (x_ad G))
    rw [r3]
    by_cases hj : j < 3
    · rw [if_pos hj]
      show x_f3 H.size j = .ref (x_ad G (20 + j))
      rw [ad j hj]
      have : j = 0 ∨ j = 1 ∨ j = 2 := by omega
      rcases this with rfl | rfl | rfl <;> rfl
    · rw [if_neg hj]
      show updV (updV (updV x_f0 0 _) 1 _) 2 _ j = Value.null
      unfold updV
      rw [if_neg (by omega), if_neg (by omega), if_neg (by omega)]
      rfl
  have hP4 : va_P G.1 vwCl (x_cw G (23, P, M)) F.heap := x_grow1 (x_grow1 (x_grow1 hP1 (row 20 (by omega) (by omega))) (row 21 (by omega) (by omega))) (row 22 (by omega) (by omega))
  have hI4 : x_hI G (some 0) (23, P, M) F.heap := by
    refine ⟨fun g1 hg => ?_, (by show (23 : Nat) < 1000; decide), hP4⟩
    cases hg
    refine ⟨hg0, ?_⟩
    show F.heap.size = x_ad G 23
    rw [z1, hsz']
    unfold x_ad
    rw [if_pos (by omega), if_pos (by omega), if_pos (by omega), if_pos (by omega)]
  have kk := k l G p e s m args below meth c F.heap _ ls ⟨trivial, C.2.1, C.2.2.1, C.2.2.2.1, C.2.2.2.2.1, hS', hI4, C.2.2.2.2.2.2.2⟩ ⟨S.1, S.2.1, List.forall_mem_cons.mpr ⟨trivial, s3⟩⟩
  obtain ⟨t, a1, b1⟩ := kk F rfl XF
  refine ⟨t, step t ?_, b1⟩
  have e9 : (vR (some 19) :: st).map (x_tr (x_ad G)) = .ref H.size :: st.map (x_tr (x_ad G)) := by rw [hsz']; rfl
  rw [e9] at a1
  exact a1
end NewM
def pRows (a : Nat) (P : xP) : xP := x_updP P a 0 (some (a + 1))
def pLaw (P : xP) : xP := x_updP (x_updP P 12 0 (some 13)) 12 2 (some 14)
def pTape (P : xP) : xP := x_updP (x_updP (x_updP (x_updP P 37 0 (some 38)) 37 2 (some 39)) 37 3 (some 40)) 37 4 (some 41)
def pText (t : Nat) (P : xP) : xP := x_updP (x_updP (x_updP (x_updP P t 0 (some (t + 1))) t 2 (some (t + 2))) t 3 (some (t + 3))) t 4 (some (t + 4))
def pCourt (c : Nat) (P : xP) : xP := x_updP (pRows (c + 9) (x_updP (pRows (c + 7) (x_updP (pRows (c + 5) (x_updP (pRows (c + 3) (x_updP (x_updP P c 0 (some (c + 1))) c 1 (some (c + 2)))) c 4 (some (c + 3)))) c 5 (some (c + 5)))) c 6 (some (c + 7)))) c 7 (some (c + 9))
def mCourt (c : Nat) (M : xM) : xM := x_upd (x_upd (x_upd (x_upd M c 9 (-1)) (c + 1) 1 3) (c + 1) 4 107) (c + 1) 5 (-1)
def pFore (P : xP) : xP := x_updP (x_updP (x_updP (x_updP (x_updP (x_updP (x_updP (x_updP (x_updP P 15 4 (some 16)) 15 5 (some 17)) 15 6 (some 18)) 15 7 (some 19)) 15 8 (some 23)) 15 9 (some 24)) 15 10 (some 25)) 15 0 (some 1)) 15 1 (some 12)
def pClass (P : xP) : xP := x_updP (x_updP (pText 58 (x_updP (pText 53 (x_updP (pText 48 (x_updP (pText 43 (x_updP (x_updP (pTape (x_updP (pCourt 26 (x_updP (pFore (x_updP (x_updP (pLaw (pCourt 1 P)) 0 0 (some 1)) 0 4 (some 12))) 0 5 (some 15))) 0 1 (some 26))) 0 3 (some 37)) 0 2 (some 42))) 42 0 (some 43))) 42 1 (some 48))) 42 2 (some 53))) 42 3 (some 58)) 0 6 (some 63)
def mClass (M : xM) : xM := x_upd (x_upd (mCourt 26 (mCourt 1 M)) 0 7 (-1)) 0 8 (-1)
def pModel (P : xP) : xP := x_updP (x_updP (x_updP (x_updP (x_updP (x_updP (x_updP (x_updP (x_updP (x_updP (x_updP (x_updP (x_updP (x_updP (x_updP (x_updP (x_updP P 64 0 (some 65)) 64 1 (some 66)) 64 2 (some 67)) 64 3 (some 68)) 64 15 (some 69)) 64 16 (some 70)) 64 25 (some 71)) 64 27 (some 72)) 64 28 (some 73)) 64 30 (some 74)) 64 31 (some 75)) 64 32 (some 76)) 64 33 (some 77)) 64 36 (some 78)) 64 37 (some 79)) 64 38 (some 80)) 64 39 (some 81)
def mModel (M : xM) : xM := x_upd (x_upd (x_upd (x_upd (x_upd (x_upd M 64 5 (-1)) 64 6 (-1)) 65 12 107) 65 2 (-1)) 65 9 3) 65 13 (-1)
theorem x_ft1 (j : Nat) : x_ft 1 j = 4 ↔ j = 2 := by
  by_cases hj : j < 12
  · have key : ∀ j, j < 12 → (x_ft 1 j = 4 ↔ j = 2) := by decide
    exact key j hj
  · have e : x_ft 1 j = 0 := by
      unfold x_ft
      rw [List.getD_eq_getElem?_getD, List.getElem?_eq_none (by show 12 ≤ j; omega)]
      rfl
    rw [e]
    omega
theorem x_no4_0 (j : Nat) : x_ft 0 j ≠ 4 := by
  by_cases hj : j < 10
  · have key : ∀ j, j < 10 → x_ft 0 j ≠ 4 := by decide
    exact key j hj
  · have e : x_ft 0 j = 0 := by
      unfold x_ft
      rw [List.getD_eq_getElem?_getD, List.getElem?_eq_none (by show 10 ≤ j; omega)]
      rfl
    rw [e]
    decide
theorem x_no4_2 (j : Nat) : x_ft 2 j ≠ 4 := by
  by_cases hj : j < 3
  · have key : ∀ j, j < 3 → x_ft 2 j ≠ 4 := by decide
    exact key j hj
  · have e : x_ft 2 j = 0 := by
      unfold x_ft
      rw [List.getD_eq_getElem?_getD, List.getElem?_eq_none (by show 3 ≤ j; omega)]
      rfl
    rw [e]
    decide
theorem x_no4_3 (j : Nat) : x_ft 3 j ≠ 4 := by
  by_cases hj : j < 8
  · have key : ∀ j, j < 8 → x_ft 3 j ≠ 4 := by decide
    exact key j hj
  · have e : x_ft 3 j = 0 := by
      unfold x_ft
      rw [List.getD_eq_getElem?_getD, List.getElem?_eq_none (by show 8 ≤ j; omega)]
      rfl
    rw [e]
    decide
theorem x_no4_4 (j : Nat) : x_ft 4 j ≠ 4 := by
  by_cases hj : j < 2
  · have key : ∀ j, j < 2 → x_ft 4 j ≠ 4 := by decide
    exact key j hj
  · have e : x_ft 4 j = 0 := by
      unfold x_ft
      rw [List.getD_eq_getElem?_getD, List.getElem?_eq_none (by show 2 ≤ j; omega)]
      rfl
    rw [e]
    decide
theorem x_no4_5 (j : Nat) : x_ft 5 j ≠ 4 := by
  by_cases hj : j < 6
  · have key : ∀ j, j < 6 → x_ft 5 j ≠ 4 := by decide
    exact key j hj
  · have e : x_ft 5 j = 0 := by
      unfold x_ft
      rw [List.getD_eq_getElem?_getD, List.getElem?_eq_none (by show 6 ≤ j; omega)]
      rfl
    rw [e]
    decide
theorem x_no4_6 (j : Nat) : x_ft 6 j ≠ 4 := by
  by_cases hj : j < 7
  · have key : ∀ j, j < 7 → x_ft 6 j ≠ 4 := by decide
    exact key j hj
  · have e : x_ft 6 j = 0 := by
      unfold x_ft
      rw [List.getD_eq_getElem?_getD, List.getElem?_eq_none (by show 7 ≤ j; omega)]
      rfl
    rw [e]
    decide
theorem x_no4_7 (j : Nat) : x_ft 7 j ≠ 4 := by
  by_cases hj : j < 9
  · have key : ∀ j, j < 9 → x_ft 7 j ≠ 4 := by decide
    exact key j hj
  · have e : x_ft 7 j = 0 := by
      unfold x_ft
      rw [List.getD_eq_getElem?_getD, List.getElem?_eq_none (by show 9 ≤ j; omega)]
      rfl
    rw [e]
    decide
theorem x_no4_8 (j : Nat) : x_ft 8 j ≠ 4 := by
  by_cases hj : j < 40
  · have key : ∀ j, j < 40 → x_ft 8 j ≠ 4 := by decide
    exact key j hj
  · have e : x_ft 8 j = 0 := by
      unfold x_ft
      rw [List.getD_eq_getElem?_getD, List.getElem?_eq_none (by show 40 ≤ j; omega)]
      rfl
    rw [e]
    decide
theorem i_X5_4 {d : Nat} {P : xP} {M : xM} {Q : xH → Option xV → Prop} (hr : x_raw 5 P M) (k : Q (6, pRows 4 P, M) none) : xC Y_X5_init (some 0) (d + 1) 1 32 [vR (some 4)] (5, P, M) Q := by
  refine xC.of pl_X5_init (by decide) rfl ?_
  refine xW.aload_n dX5_init_0 0 rfl ?_
  refine xW.objI dX5_init_1 ol_X5 oi_inst oi_code (by decide) ?_
  show xW Y_X5_init (some 0) (d + 1) 1 32 4 [(0, vR (some 4))] [] _ _ _
  refine xW.aload_n dX5_init_4 0 rfl ?_
  refine xW.bipush dX5_init_5 (by unfold inR; omega) rfl ?_
  refine xW.newI (N := 32) dX5_init_7 ac_int rfl rfl (Nat.le_of_ble_eq_true rfl) (fun _ => rfl) (by decide) (x_raw_b hr (by decide) (by decide)) ⟨Nat.le_of_ble_eq_true rfl, Nat.le_of_ble_eq_true rfl⟩ ?_
  show xW Y_X5_init (some 0) (d + 1) 1 32 9 [(0, vR (some 4))] [vR (some 5), vR (some 4)] _ _ _
  refine xW.putR true dX5_init_9 fk_X5_11 (fun _ => ⟨rfl, fun _ _ _ w => (by cases w; rfl)⟩) rfl (by decide) rfl ?_
  show xW Y_X5_init (some 0) (d + 1) 1 32 12 [(0, vR (some 4))] [] _ _ _
  exact xW.vret dX5_init_12 rfl ⟨Nat.le_of_ble_eq_true rfl, Nat.le_of_ble_eq_true rfl⟩ k
theorem i_X5_6 {d : Nat} {P : xP} {M : xM} {Q : xH → Option xV → Prop} (hr : x_raw 7 P M) (k : Q (8, pRows 6 P, M) none) : xC Y_X5_init (some 0) (d + 1) 1 32 [vR (some 6)] (7, P, M) Q := by
  refine xC.of pl_X5_init (by decide) rfl ?_
  refine xW.aload_n dX5_init_0 0 rfl ?_
  refine xW.objI dX5_init_1 ol_X5 oi_inst oi_code (by decide) ?_
  show xW Y_X5_init (some 0) (d + 1) 1 32 4 [(0, vR (some 6))] [] _ _ _
  refine xW.aload_n dX5_init_4 0 rfl ?_
  refine xW.bipush dX5_init_5 (by unfold inR; omega) rfl ?_
  refine xW.newI (N := 32) dX5_init_7 ac_int rfl rfl (Nat.le_of_ble_eq_true rfl) (fun _ => rfl) (by decide) (x_raw_b hr (by decide) (by decide)) ⟨Nat.le_of_ble_eq_true rfl, Nat.le_of_ble_eq_true rfl⟩ ?_
  show xW Y_X5_init (some 0) (d + 1) 1 32 9 [(0, vR (some 6))] [vR (some 7), vR (some 6)] _ _ _
  refine xW.putR true dX5_init_9 fk_X5_11 (fun _ => ⟨rfl, fun _ _ _ w => (by cases w; rfl)⟩) rfl (by decide) rfl ?_
  show xW Y_X5_init (some 0) (d + 1) 1 32 12 [(0, vR (some 6))] [] _ _ _
  exact xW.vret dX5_init_12 rfl ⟨Nat.le_of_ble_eq_true rfl, Nat.le_of_ble_eq_true rfl⟩ k
theorem i_X5_8 {d : Nat} {P : xP} {M : xM} {Q : xH → Option xV → Prop} (hr : x_raw 9 P M) (k : Q (10, pRows 8 P, M) none) : xC Y_X5_init (some 0) (d + 1) 1 32 [vR (some 8)] (9, P, M) Q := by
  refine xC.of pl_X5_init (by decide) rfl ?_
  refine xW.aload_n dX5_init_0 0 rfl ?_
  refine xW.objI dX5_init_1 ol_X5 oi_inst oi_code (by decide) ?_
  show xW Y_X5_init (some 0) (d + 1) 1 32 4 [(0, vR (some 8))] [] _ _ _
  refine xW.aload_n dX5_init_4 0 rfl ?_
  refine xW.bipush dX5_init_5 (by unfold inR; omega) rfl ?_
  refine xW.newI (N := 32) dX5_init_7 ac_int rfl rfl (Nat.le_of_ble_eq_true rfl) (fun _ => rfl) (by decide) (x_raw_b hr (by decide) (by decide)) ⟨Nat.le_of_ble_eq_true rfl, Nat.le_of_ble_eq_true rfl⟩ ?_
  show xW Y_X5_init (some 0) (d + 1) 1 32 9 [(0, vR (some 8))] [vR (some 9), vR (some 8)] _ _ _
  refine xW.putR true dX5_init_9 fk_X5_11 (fun _ => ⟨rfl, fun _ _ _ w => (by cases w; rfl)⟩) rfl (by decide) rfl ?_
  show xW Y_X5_init (some 0) (d + 1) 1 32 12 [(0, vR (some 8))] [] _ _ _
  exact xW.vret dX5_init_12 rfl ⟨Nat.le_of_ble_eq_true rfl, Nat.le_of_ble_eq_true rfl⟩ k
theorem i_X5_10 {d : Nat} {P : xP} {M : xM} {Q : xH → Option xV → Prop} (hr : x_raw 11 P M) (k : Q (12, pRows 10 P, M) none) : xC Y_X5_init (some 0) (d + 1) 1 32 [vR (some 10)] (11, P, M) Q := by
  refine xC.of pl_X5_init (by decide) rfl ?_
  refine xW.aload_n dX5_init_0 0 rfl ?_
  refine xW.objI dX5_init_1 ol_X5 oi_inst oi_code (by decide) ?_
  show xW Y_X5_init (some 0) (d + 1) 1 32 4 [(0, vR (some 10))] [] _ _ _
  refine xW.aload_n dX5_init_4 0 rfl ?_
  refine xW.bipush dX5_init_5 (by unfold inR; omega) rfl ?_
  refine xW.newI (N := 32) dX5_init_7 ac_int rfl rfl (Nat.le_of_ble_eq_true rfl) (fun _ => rfl) (by decide) (x_raw_b hr (by decide) (by decide)) ⟨Nat.le_of_ble_eq_true rfl, Nat.le_of_ble_eq_true rfl⟩ ?_
  show xW Y_X5_init (some 0) (d + 1) 1 32 9 [(0, vR (some 10))] [vR (some 11), vR (some 10)] _ _ _
  refine xW.putR true dX5_init_9 fk_X5_11 (fun _ => ⟨rfl, fun _ _ _ w => (by cases w; rfl)⟩) rfl (by decide) rfl ?_
  show xW Y_X5_init (some 0) (d + 1) 1 32 12 [(0, vR (some 10))] [] _ _ _
  exact xW.vret dX5_init_12 rfl ⟨Nat.le_of_ble_eq_true rfl, Nat.le_of_ble_eq_true rfl⟩ k
theorem i_X5_29 {d : Nat} {P : xP} {M : xM} {Q : xH → Option xV → Prop} (hr : x_raw 30 P M) (k : Q (31, pRows 29 P, M) none) : xC Y_X5_init (some 0) (d + 1) 1 32 [vR (some 29)] (30, P, M) Q := by
  refine xC.of pl_X5_init (by decide) rfl ?_
  refine xW.aload_n dX5_init_0 0 rfl ?_
  refine xW.objI dX5_init_1 ol_X5 oi_inst oi_code (by decide) ?_
  show xW Y_X5_init (some 0) (d + 1) 1 32 4 [(0, vR (some 29))] [] _ _ _
  refine xW.aload_n dX5_init_4 0 rfl ?_
  refine xW.bipush dX5_init_5 (by unfold inR; omega) rfl ?_
  refine xW.newI (N := 32) dX5_init_7 ac_int rfl rfl (Nat.le_of_ble_eq_true rfl) (fun _ => rfl) (by decide) (x_raw_b hr (by decide) (by decide)) ⟨Nat.le_of_ble_eq_true rfl, Nat.le_of_ble_eq_true rfl⟩ ?_
  show xW Y_X5_init (some 0) (d + 1) 1 32 9 [(0, vR (some 29))] [vR (some 30), vR (some 29)] _ _ _
  refine xW.putR true dX5_init_9 fk_X5_11 (fun _ => ⟨rfl, fun _ _ _ w => (by cases w; rfl)⟩) rfl (by decide) rfl ?_
  show xW Y_X5_init (some 0) (d + 1) 1 32 12 [(0, vR (some 29))] [] _ _ _
  exact xW.vret dX5_init_12 rfl ⟨Nat.le_of_ble_eq_true rfl, Nat.le_of_ble_eq_true rfl⟩ k
theorem i_X5_31 {d : Nat} {P : xP} {M : xM} {Q : xH → Option xV → Prop} (hr : x_raw 32 P M) (k : Q (33, pRows 31 P, M) none) : xC Y_X5_init (some 0) (d + 1) 1 32 [vR (some 31)] (32, P, M) Q := by
  refine xC.of pl_X5_init (by decide) rfl ?_
  refine xW.aload_n dX5_init_0 0 rfl ?_
  refine xW.objI dX5_init_1 ol_X5 oi_inst oi_code (by decide) ?_
  show xW Y_X5_init (some 0) (d + 1) 1 32 4 [(0, vR (some 31))] [] _ _ _
  refine xW.aload_n dX5_init_4 0 rfl ?_
  refine xW.bipush dX5_init_5 (by unfold inR; omega) rfl ?_
  refine xW.newI (N := 32) dX5_init_7 ac_int rfl rfl (Nat.le_of_ble_eq_true rfl) (fun _ => rfl) (by decide) (x_raw_b hr (by decide) (by decide)) ⟨Nat.le_of_ble_eq_true rfl, Nat.le_of_ble_eq_true rfl⟩ ?_
  show xW Y_X5_init (some 0) (d + 1) 1 32 9 [(0, vR (some 31))] [vR (some 32), vR (some 31)] _ _ _
  refine xW.putR true dX5_init_9 fk_X5_11 (fun _ => ⟨rfl, fun _ _ _ w => (by cases w; rfl)⟩) rfl (by decide) rfl ?_
  show xW Y_X5_init (some 0) (d + 1) 1 32 12 [(0, vR (some 31))] [] _ _ _
  exact xW.vret dX5_init_12 rfl ⟨Nat.le_of_ble_eq_true rfl, Nat.le_of_ble_eq_true rfl⟩ k
theorem i_X5_33 {d : Nat} {P : xP} {M : xM} {Q : xH → Option xV → Prop} (hr : x_raw 34 P M) (k : Q (35, pRows 33 P, M) none) : xC Y_X5_init (some 0) (d + 1) 1 32 [vR (some 33)] (34, P, M) Q := by
  refine xC.of pl_X5_init (by decide) rfl ?_
  refine xW.aload_n dX5_init_0 0 rfl ?_
  refine xW.objI dX5_init_1 ol_X5 oi_inst oi_code (by decide) ?_
  show xW Y_X5_init (some 0) (d + 1) 1 32 4 [(0, vR (some 33))] [] _ _ _
  refine xW.aload_n dX5_init_4 0 rfl ?_
  refine xW.bipush dX5_init_5 (by unfold inR; omega) rfl ?_
  refine xW.newI (N := 32) dX5_init_7 ac_int rfl rfl (Nat.le_of_ble_eq_true rfl) (fun _ => rfl) (by decide) (x_raw_b hr (by decide) (by decide)) ⟨Nat.le_of_ble_eq_true rfl, Nat.le_of_ble_eq_true rfl⟩ ?_
  show xW Y_X5_init (some 0) (d + 1) 1 32 9 [(0, vR (some 33))] [vR (some 34), vR (some 33)] _ _ _
  refine xW.putR true dX5_init_9 fk_X5_11 (fun _ => ⟨rfl, fun _ _ _ w => (by cases w; rfl)⟩) rfl (by decide) rfl ?_
  show xW Y_X5_init (some 0) (d + 1) 1 32 12 [(0, vR (some 33))] [] _ _ _
  exact xW.vret dX5_init_12 rfl ⟨Nat.le_of_ble_eq_true rfl, Nat.le_of_ble_eq_true rfl⟩ k
theorem i_X5_35 {d : Nat} {P : xP} {M : xM} {Q : xH → Option xV → Prop} (hr : x_raw 36 P M) (k : Q (37, pRows 35 P, M) none) : xC Y_X5_init (some 0) (d + 1) 1 32 [vR (some 35)] (36, P, M) Q := by
  refine xC.of pl_X5_init (by decide) rfl ?_
  refine xW.aload_n dX5_init_0 0 rfl ?_
  refine xW.objI dX5_init_1 ol_X5 oi_inst oi_code (by decide) ?_
  show xW Y_X5_init (some 0) (d + 1) 1 32 4 [(0, vR (some 35))] [] _ _ _
  refine xW.aload_n dX5_init_4 0 rfl ?_
  refine xW.bipush dX5_init_5 (by unfold inR; omega) rfl ?_
  refine xW.newI (N := 32) dX5_init_7 ac_int rfl rfl (Nat.le_of_ble_eq_true rfl) (fun _ => rfl) (by decide) (x_raw_b hr (by decide) (by decide)) ⟨Nat.le_of_ble_eq_true rfl, Nat.le_of_ble_eq_true rfl⟩ ?_
  show xW Y_X5_init (some 0) (d + 1) 1 32 9 [(0, vR (some 35))] [vR (some 36), vR (some 35)] _ _ _
  refine xW.putR true dX5_init_9 fk_X5_11 (fun _ => ⟨rfl, fun _ _ _ w => (by cases w; rfl)⟩) rfl (by decide) rfl ?_
  show xW Y_X5_init (some 0) (d + 1) 1 32 12 [(0, vR (some 35))] [] _ _ _
  exact xW.vret dX5_init_12 rfl ⟨Nat.le_of_ble_eq_true rfl, Nat.le_of_ble_eq_true rfl⟩ k
theorem rawC_1 {P : xP} {M : xM} (h : x_raw 2 P M) : x_raw 12 (pCourt 1 P) (mCourt 1 M) := fun c h1 h2 => by
  obtain ⟨q1, q2, q3⟩ := h c (by omega) h2
  refine ⟨fun j => ?_, fun w j => ?_, fun w j => ?_⟩
  · rw [← q1 j]
    simp only [mCourt, x_upd]
    repeat rw [if_neg (fun z => by omega)]
  · rw [← q2 w j]
    simp only [pCourt, pRows, x_updP]
    repeat rw [if_neg (fun z => by omega)]
  · rw [← q3 w j]
    simp only [pCourt, pRows, x_updP]
    repeat rw [if_neg (fun z => by omega)]
theorem rawC_26 {P : xP} {M : xM} (h : x_raw 27 P M) : x_raw 37 (pCourt 26 P) (mCourt 26 M) := fun c h1 h2 => by
  obtain ⟨q1, q2, q3⟩ := h c (by omega) h2
  refine ⟨fun j => ?_, fun w j => ?_, fun w j => ?_⟩
  · rw [← q1 j]
    simp only [mCourt, x_upd]
    repeat rw [if_neg (fun z => by omega)]
  · rw [← q2 w j]
    simp only [pCourt, pRows, x_updP]
    repeat rw [if_neg (fun z => by omega)]
  · rw [← q3 w j]
    simp only [pCourt, pRows, x_updP]
    repeat rw [if_neg (fun z => by omega)]
theorem rawL {P : xP} {M : xM} (h : x_raw 13 P M) : x_raw 15 (pLaw P) (M) := fun c h1 h2 => by
  obtain ⟨q1, q2, q3⟩ := h c (by omega) h2
  refine ⟨fun j => ?_, fun w j => ?_, fun w j => ?_⟩
  · rw [← q1 j]
  · rw [← q2 w j]
    simp only [pLaw, x_updP]
    repeat rw [if_neg (fun z => by omega)]
  · rw [← q3 w j]
    simp only [pLaw, x_updP]
    repeat rw [if_neg (fun z => by omega)]
theorem rawT {P : xP} {M : xM} (h : x_raw 38 P M) : x_raw 42 (pTape P) (M) := fun c h1 h2 => by
  obtain ⟨q1, q2, q3⟩ := h c (by omega) h2
  refine ⟨fun j => ?_, fun w j => ?_, fun w j => ?_⟩
  · rw [← q1 j]
  · rw [← q2 w j]
    simp only [pTape, x_updP]
    repeat rw [if_neg (fun z => by omega)]
  · rw [← q3 w j]
    simp only [pTape, x_updP]
    repeat rw [if_neg (fun z => by omega)]
theorem rawF {P : xP} {M : xM} (h : x_raw 16 P M) : x_raw 26 (pFore P) (M) := fun c h1 h2 => by
  obtain ⟨q1, q2, q3⟩ := h c (by omega) h2
  refine ⟨fun j => ?_, fun w j => ?_, fun w j => ?_⟩
  · rw [← q1 j]
  · rw [← q2 w j]
    simp only [pFore, x_updP]
    repeat rw [if_neg (fun z => by omega)]
  · rw [← q3 w j]
    simp only [pFore, x_updP]
    repeat rw [if_neg (fun z => by omega)]
theorem rawX_43 {P : xP} {M : xM} (h : x_raw 44 P M) : x_raw 48 (pText 43 P) (M) := fun c h1 h2 => by
  obtain ⟨q1, q2, q3⟩ := h c (by omega) h2
  refine ⟨fun j => ?_, fun w j => ?_, fun w j => ?_⟩
  · rw [← q1 j]
  · rw [← q2 w j]
    simp only [pText, x_updP]
    repeat rw [if_neg (fun z => by omega)]
  · rw [← q3 w j]
    simp only [pText, x_updP]
    repeat rw [if_neg (fun z => by omega)]
theorem rawX_48 {P : xP} {M : xM} (h : x_raw 49 P M) : x_raw 53 (pText 48 P) (M) := fun c h1 h2 => by
  obtain ⟨q1, q2, q3⟩ := h c (by omega) h2
  refine ⟨fun j => ?_, fun w j => ?_, fun w j => ?_⟩
  · rw [← q1 j]
  · rw [← q2 w j]
    simp only [pText, x_updP]
    repeat rw [if_neg (fun z => by omega)]
  · rw [← q3 w j]
    simp only [pText, x_updP]
    repeat rw [if_neg (fun z => by omega)]
theorem rawX_53 {P : xP} {M : xM} (h : x_raw 54 P M) : x_raw 58 (pText 53 P) (M) := fun c h1 h2 => by
  obtain ⟨q1, q2, q3⟩ := h c (by omega) h2
  refine ⟨fun j => ?_, fun w j => ?_, fun w j => ?_⟩
  · rw [← q1 j]
  · rw [← q2 w j]
    simp only [pText, x_updP]
    repeat rw [if_neg (fun z => by omega)]
  · rw [← q3 w j]
    simp only [pText, x_updP]
    repeat rw [if_neg (fun z => by omega)]
theorem rawX_58 {P : xP} {M : xM} (h : x_raw 59 P M) : x_raw 63 (pText 58 P) (M) := fun c h1 h2 => by
  obtain ⟨q1, q2, q3⟩ := h c (by omega) h2
  refine ⟨fun j => ?_, fun w j => ?_, fun w j => ?_⟩
  · rw [← q1 j]
  · rw [← q2 w j]
    simp only [pText, x_updP]
    repeat rw [if_neg (fun z => by omega)]
  · rw [← q3 w j]
    simp only [pText, x_updP]
    repeat rw [if_neg (fun z => by omega)]
theorem i_X0_1 {d : Nat} {P : xP} {M : xM} {Q : xH → Option xV → Prop} (hr : x_raw 2 P M) (k : Q (12, pCourt 1 P, mCourt 1 M) none) : xC Y_X0_init (some 0) (d + 2) 10 2120 [vR (some 1)] (2, P, M) Q := by
  refine xC.of pl_X0_init (by decide) rfl ?_
  refine xW.aload_n dX0_init_0 0 rfl ?_
  refine xW.objI dX0_init_1 ol_X0 oi_inst oi_code (by decide) ?_
  show xW Y_X0_init (some 0) (d + 2) 10 2120 4 [(0, vR (some 1))] [] _ _ _
  refine xW.aload_n dX0_init_4 0 rfl ?_
  refine xW.bipush dX0_init_5 (by unfold inR; omega) rfl ?_
  refine xW.newI (N := 64) dX0_init_7 ac_int rfl rfl (Nat.le_of_ble_eq_true rfl) (fun _ => rfl) (by decide) (x_raw_b hr (by decide) (by decide)) ⟨Nat.le_of_ble_eq_true rfl, Nat.le_of_ble_eq_true rfl⟩ ?_
  show xW Y_X0_init (some 0) (d + 2) 10 2120 9 [(0, vR (some 1))] [vR (some 2), vR (some 1)] _ _ _
  refine xW.putR true dX0_init_9 fk_X0_9 (fun _ => ⟨rfl, fun _ _ _ w => (by cases w; rfl)⟩) rfl (by decide) rfl ?_
  show xW Y_X0_init (some 0) (d + 2) 10 2120 12 [(0, vR (some 1))] [] _ _ _
  refine xW.aload_n dX0_init_12 0 rfl ?_
  refine xW.sipush dX0_init_13 (by unfold inR; omega) rfl ?_
  refine xW.newI (N := 1920) dX0_init_16 ac_int rfl rfl (Nat.le_of_ble_eq_true rfl) (fun _ => rfl) (by decide) (x_raw_b (x_raw_P (x_raw_mono (n' := 3) hr (by decide)) (by decide)) (by decide) (by decide)) ⟨Nat.le_of_ble_eq_true rfl, Nat.le_of_ble_eq_true rfl⟩ ?_
  show xW Y_X0_init (some 0) (d + 2) 10 2120 18 [(0, vR (some 1))] [vR (some 3), vR (some 1)] _ _ _
  refine xW.putR true dX0_init_18 fk_X0_15 (fun _ => ⟨rfl, fun _ _ _ w => (by cases w; rfl)⟩) rfl (by decide) rfl ?_
  show xW Y_X0_init (some 0) (d + 2) 10 2120 21 [(0, vR (some 1))] [] _ _ _
  refine xW.aload_n dX0_init_21 0 rfl ?_
  refine xW.newO dX0_init_22 nk_X0_18 rfl (Or.inr (x_no4_4)) (fun w => absurd w (by decide)) (fun w => absurd w (by decide)) (by decide) (x_raw_b (x_raw_P (x_raw_mono (n' := 4) (x_raw_P (x_raw_mono (n' := 3) hr (by decide)) (by decide)) (by decide)) (by decide)) (by decide) (by decide)) ⟨Nat.le_of_ble_eq_true rfl, Nat.le_of_ble_eq_true rfl⟩ ?_
  show xW Y_X0_init (some 0) (d + 2) 10 2120 25 [(0, vR (some 1))] [vR (some 4), vR (some 1)] _ _ _
  refine xW.dup dX0_init_25 rfl ?_
  refine xW.callI (As := []) (rest := [vR (some 4), vR (some 1)]) dX0_init_26 mk_X0_20 rfl rfl im_X5_init rfl rfl (by decide) ⟨Nat.le_of_ble_eq_true rfl, Nat.le_of_ble_eq_true rfl⟩ (i_X5_4 (d := d + 0) (x_raw_mono (n' := 5) (x_raw_P (x_raw_mono (n' := 4) (x_raw_P (x_raw_mono (n' := 3) hr (by decide)) (by decide)) (by decide)) (by decide)) (by decide)) ?_)
  show xW Y_X0_init (some 0) (d + 2) 10 2120 29 [(0, vR (some 1))] [vR (some 4), vR (some 1)] _ _ _
  refine xW.putR true dX0_init_29 fk_X0_21 (fun _ => ⟨rfl, fun _ _ _ w => (by cases w; rfl)⟩) rfl (by decide) rfl ?_
  show xW Y_X0_init (some 0) (d + 2) 10 2120 32 [(0, vR (some 1))] [] _ _ _
  refine xW.aload_n dX0_init_32 0 rfl ?_
  refine xW.newO dX0_init_33 nk_X0_18 rfl (Or.inr (x_no4_4)) (fun w => absurd w (by decide)) (fun w => absurd w (by decide)) (by decide) (x_raw_b (x_raw_P (x_raw_mono (n' := 6) (x_raw_P (x_raw_mono (n' := 5) (x_raw_P (x_raw_mono (n' := 4) (x_raw_P (x_raw_mono (n' := 3) hr (by decide)) (by decide)) (by decide)) (by decide)) (by decide)) (by decide)) (by decide)) (by decide)) (by decide) (by decide)) ⟨Nat.le_of_ble_eq_true rfl, Nat.le_of_ble_eq_true rfl⟩ ?_
  show xW Y_X0_init (some 0) (d + 2) 10 2120 36 [(0, vR (some 1))] [vR (some 6), vR (some 1)] _ _ _
  refine xW.dup dX0_init_36 rfl ?_
  refine xW.callI (As := []) (rest := [vR (some 6), vR (some 1)]) dX0_init_37 mk_X0_20 rfl rfl im_X5_init rfl rfl (by decide) ⟨Nat.le_of_ble_eq_true rfl, Nat.le_of_ble_eq_true rfl⟩ (i_X5_6 (d := d + 0) (x_raw_mono (n' := 7) (x_raw_P (x_raw_mono (n' := 6) (x_raw_P (x_raw_mono (n' := 5) (x_raw_P (x_raw_mono (n' := 4) (x_raw_P (x_raw_mono (n' := 3) hr (by decide)) (by decide)) (by decide)) (by decide)) (by decide)) (by decide)) (by decide)) (by decide)) (by decide)) ?_)
  show xW Y_X0_init (some 0) (d + 2) 10 2120 40 [(0, vR (some 1))] [vR (some 6), vR (some 1)] _ _ _
  refine xW.putR true dX0_init_40 fk_X0_25 (fun _ => ⟨rfl, fun _ _ _ w => (by cases w; rfl)⟩) rfl (by decide) rfl ?_
  show xW Y_X0_init (some 0) (d + 2) 10 2120 43 [(0, vR (some 1))] [] _ _ _
  refine xW.aload_n dX0_init_43 0 rfl ?_
  refine xW.newO dX0_init_44 nk_X0_18 rfl (Or.inr (x_no4_4)) (fun w => absurd w (by decide)) (fun w => absurd w (by decide)) (by decide) (x_raw_b (x_raw_P (x_raw_mono (n' := 8) (x_raw_P (x_raw_mono (n' := 7) (x_raw_P (x_raw_mono (n' := 6) (x_raw_P (x_raw_mono (n' := 5) (x_raw_P (x_raw_mono (n' := 4) (x_raw_P (x_raw_mono (n' := 3) hr (by decide)) (by decide)) (by decide)) (by decide)) (by decide)) (by decide)) (by decide)) (by decide)) (by decide)) (by decide)) (by decide)) (by decide)) (by decide) (by decide)) ⟨Nat.le_of_ble_eq_true rfl, Nat.le_of_ble_eq_true rfl⟩ ?_
  show xW Y_X0_init (some 0) (d + 2) 10 2120 47 [(0, vR (some 1))] [vR (some 8), vR (some 1)] _ _ _
  refine xW.dup dX0_init_47 rfl ?_
  refine xW.callI (As := []) (rest := [vR (some 8), vR (some 1)]) dX0_init_48 mk_X0_20 rfl rfl im_X5_init rfl rfl (by decide) ⟨Nat.le_of_ble_eq_true rfl, Nat.le_of_ble_eq_true rfl⟩ (i_X5_8 (d := d + 0) (x_raw_mono (n' := 9) (x_raw_P (x_raw_mono (n' := 8) (x_raw_P (x_raw_mono (n' := 7) (x_raw_P (x_raw_mono (n' := 6) (x_raw_P (x_raw_mono (n' := 5) (x_raw_P (x_raw_mono (n' := 4) (x_raw_P (x_raw_mono (n' := 3) hr (by decide)) (by decide)) (by decide)) (by decide)) (by decide)) (by decide)) (by decide)) (by decide)) (by decide)) (by decide)) (by decide)) (by decide)) (by decide)) ?_)
  show xW Y_X0_init (some 0) (d + 2) 10 2120 51 [(0, vR (some 1))] [vR (some 8), vR (some 1)] _ _ _
  refine xW.putR true dX0_init_51 fk_X0_28 (fun _ => ⟨rfl, fun _ _ _ w => (by cases w; rfl)⟩) rfl (by decide) rfl ?_
  show xW Y_X0_init (some 0) (d + 2) 10 2120 54 [(0, vR (some 1))] [] _ _ _
  refine xW.aload_n dX0_init_54 0 rfl ?_
  refine xW.newO dX0_init_55 nk_X0_18 rfl (Or.inr (x_no4_4)) (fun w => absurd w (by decide)) (fun w => absurd w (by decide)) (by decide) (x_raw_b (x_raw_P (x_raw_mono (n' := 10) (x_raw_P (x_raw_mono (n' := 9) (x_raw_P (x_raw_mono (n' := 8) (x_raw_P (x_raw_mono (n' := 7) (x_raw_P (x_raw_mono (n' := 6) (x_raw_P (x_raw_mono (n' := 5) (x_raw_P (x_raw_mono (n' := 4) (x_raw_P (x_raw_mono (n' := 3) hr (by decide)) (by decide)) (by decide)) (by decide)) (by decide)) (by decide)) (by decide)) (by decide)) (by decide)) (by decide)) (by decide)) (by decide)) (by decide)) (by decide)) (by decide)) (by decide)) (by decide) (by decide)) ⟨Nat.le_of_ble_eq_true rfl, Nat.le_of_ble_eq_true rfl⟩ ?_
  show xW Y_X0_init (some 0) (d + 2) 10 2120 58 [(0, vR (some 1))] [vR (some 10), vR (some 1)] _ _ _
  refine xW.dup dX0_init_58 rfl ?_
  refine xW.callI (As := []) (rest := [vR (some 10), vR (some 1)]) dX0_init_59 mk_X0_20 rfl rfl im_X5_init rfl rfl (by decide) ⟨Nat.le_of_ble_eq_true rfl, Nat.le_of_ble_eq_true rfl⟩ (i_X5_10 (d := d + 0) (x_raw_mono (n' := 11) (x_raw_P (x_raw_mono (n' := 10) (x_raw_P (x_raw_mono (n' := 9) (x_raw_P (x_raw_mono (n' := 8) (x_raw_P (x_raw_mono (n' := 7) (x_raw_P (x_raw_mono (n' := 6) (x_raw_P (x_raw_mono (n' := 5) (x_raw_P (x_raw_mono (n' := 4) (x_raw_P (x_raw_mono (n' := 3) hr (by decide)) (by decide)) (by decide)) (by decide)) (by decide)) (by decide)) (by decide)) (by decide)) (by decide)) (by decide)) (by decide)) (by decide)) (by decide)) (by decide)) (by decide)) (by decide)) (by decide)) ?_)
  show xW Y_X0_init (some 0) (d + 2) 10 2120 62 [(0, vR (some 1))] [vR (some 10), vR (some 1)] _ _ _
  refine xW.putR true dX0_init_62 fk_X0_31 (fun _ => ⟨rfl, fun _ _ _ w => (by cases w; rfl)⟩) rfl (by decide) rfl ?_
  show xW Y_X0_init (some 0) (d + 2) 10 2120 65 [(0, vR (some 1))] [] _ _ _
  refine xW.aload_n dX0_init_65 0 rfl ?_
  refine xW.iconst dX0_init_66 (by unfold inR; omega) ?_
  refine xW.putI dX0_init_67 fk_X0_34 rfl (by decide) rfl ?_
  show xW Y_X0_init (some 0) (d + 2) 10 2120 70 [(0, vR (some 1))] [] _ _ _
  refine xW.aload_n dX0_init_70 0 rfl ?_
  refine xW.getR (o := some 2) dX0_init_71 fk_X0_9 rfl (by decide) rfl (by simp [x_updP, pRows]) ?_
  show xW Y_X0_init (some 0) (d + 2) 10 2120 74 [(0, vR (some 1))] [vR (some 2)] _ _ _
  refine xW.iconst dX0_init_74 (by unfold inR; omega) ?_
  refine xW.iconst dX0_init_75 (by unfold inR; omega) ?_
  refine xW.iast dX0_init_76 rfl (by decide) (by decide) (by decide) ?_
  show xW Y_X0_init (some 0) (d + 2) 10 2120 77 [(0, vR (some 1))] [] _ _ _
  refine xW.aload_n dX0_init_77 0 rfl ?_
  refine xW.getR (o := some 2) dX0_init_78 fk_X0_9 rfl (by decide) rfl (by simp [x_updP, pRows]) ?_
  show xW Y_X0_init (some 0) (d + 2) 10 2120 81 [(0, vR (some 1))] [vR (some 2)] _ _ _
  refine xW.iconst dX0_init_81 (by unfold inR; omega) ?_
  refine xW.bipush dX0_init_82 (by unfold inR; omega) rfl ?_
  refine xW.iast dX0_init_84 rfl (by decide) (by decide) (by decide) ?_
  show xW Y_X0_init (some 0) (d + 2) 10 2120 85 [(0, vR (some 1))] [] _ _ _
  refine xW.aload_n dX0_init_85 0 rfl ?_
  refine xW.getR (o := some 2) dX0_init_86 fk_X0_9 rfl (by decide) rfl (by simp [x_updP, pRows]) ?_
  show xW Y_X0_init (some 0) (d + 2) 10 2120 89 [(0, vR (some 1))] [vR (some 2)] _ _ _
  refine xW.iconst dX0_init_89 (by unfold inR; omega) ?_
  refine xW.iconst dX0_init_90 (by unfold inR; omega) ?_
  refine xW.iast dX0_init_91 rfl (by decide) (by decide) (by decide) ?_
  show xW Y_X0_init (some 0) (d + 2) 10 2120 92 [(0, vR (some 1))] [] _ _ _
  exact xW.vret dX0_init_92 rfl ⟨Nat.le_of_ble_eq_true rfl, Nat.le_of_ble_eq_true rfl⟩ k
theorem i_X0_26 {d : Nat} {P : xP} {M : xM} {Q : xH → Option xV → Prop} (hr : x_raw 27 P M) (k : Q (37, pCourt 26 P, mCourt 26 M) none) : xC Y_X0_init (some 0) (d + 2) 10 2120 [vR (some 26)] (27, P, M) Q := by
  refine xC.of pl_X0_init (by decide) rfl ?_
  refine xW.aload_n dX0_init_0 0 rfl ?_
  refine xW.objI dX0_init_1 ol_X0 oi_inst oi_code (by decide) ?_
  show xW Y_X0_init (some 0) (d + 2) 10 2120 4 [(0, vR (some 26))] [] _ _ _
  refine xW.aload_n dX0_init_4 0 rfl ?_
  refine xW.bipush dX0_init_5 (by unfold inR; omega) rfl ?_
  refine xW.newI (N := 64) dX0_init_7 ac_int rfl rfl (Nat.le_of_ble_eq_true rfl) (fun _ => rfl) (by decide) (x_raw_b hr (by decide) (by decide)) ⟨Nat.le_of_ble_eq_true rfl, Nat.le_of_ble_eq_true rfl⟩ ?_
  show xW Y_X0_init (some 0) (d + 2) 10 2120 9 [(0, vR (some 26))] [vR (some 27), vR (some 26)] _ _ _
  refine xW.putR true dX0_init_9 fk_X0_9 (fun _ => ⟨rfl, fun _ _ _ w => (by cases w; rfl)⟩) rfl (by decide) rfl ?_
  show xW Y_X0_init (some 0) (d + 2) 10 2120 12 [(0, vR (some 26))] [] _ _ _
  refine xW.aload_n dX0_init_12 0 rfl ?_
  refine xW.sipush dX0_init_13 (by unfold inR; omega) rfl ?_
  refine xW.newI (N := 1920) dX0_init_16 ac_int rfl rfl (Nat.le_of_ble_eq_true rfl) (fun _ => rfl) (by decide) (x_raw_b (x_raw_P (x_raw_mono (n' := 28) hr (by decide)) (by decide)) (by decide) (by decide)) ⟨Nat.le_of_ble_eq_true rfl, Nat.le_of_ble_eq_true rfl⟩ ?_
  show xW Y_X0_init (some 0) (d + 2) 10 2120 18 [(0, vR (some 26))] [vR (some 28), vR (some 26)] _ _ _
  refine xW.putR true dX0_init_18 fk_X0_15 (fun _ => ⟨rfl, fun _ _ _ w => (by cases w; rfl)⟩) rfl (by decide) rfl ?_
  show xW Y_X0_init (some 0) (d + 2) 10 2120 21 [(0, vR (some 26))] [] _ _ _
  refine xW.aload_n dX0_init_21 0 rfl ?_
  refine xW.newO dX0_init_22 nk_X0_18 rfl (Or.inr (x_no4_4)) (fun w => absurd w (by decide)) (fun w => absurd w (by decide)) (by decide) (x_raw_b (x_raw_P (x_raw_mono (n' := 29) (x_raw_P (x_raw_mono (n' := 28) hr (by decide)) (by decide)) (by decide)) (by decide)) (by decide) (by decide)) ⟨Nat.le_of_ble_eq_true rfl, Nat.le_of_ble_eq_true rfl⟩ ?_
  show xW Y_X0_init (some 0) (d + 2) 10 2120 25 [(0, vR (some 26))] [vR (some 29), vR (some 26)] _ _ _
  refine xW.dup dX0_init_25 rfl ?_
  refine xW.callI (As := []) (rest := [vR (some 29), vR (some 26)]) dX0_init_26 mk_X0_20 rfl rfl im_X5_init rfl rfl (by decide) ⟨Nat.le_of_ble_eq_true rfl, Nat.le_of_ble_eq_true rfl⟩ (i_X5_29 (d := d + 0) (x_raw_mono (n' := 30) (x_raw_P (x_raw_mono (n' := 29) (x_raw_P (x_raw_mono (n' := 28) hr (by decide)) (by decide)) (by decide)) (by decide)) (by decide)) ?_)
  show xW Y_X0_init (some 0) (d + 2) 10 2120 29 [(0, vR (some 26))] [vR (some 29), vR (some 26)] _ _ _
  refine xW.putR true dX0_init_29 fk_X0_21 (fun _ => ⟨rfl, fun _ _ _ w => (by cases w; rfl)⟩) rfl (by decide) rfl ?_
  show xW Y_X0_init (some 0) (d + 2) 10 2120 32 [(0, vR (some 26))] [] _ _ _
  refine xW.aload_n dX0_init_32 0 rfl ?_
  refine xW.newO dX0_init_33 nk_X0_18 rfl (Or.inr (x_no4_4)) (fun w => absurd w (by decide)) (fun w => absurd w (by decide)) (by decide) (x_raw_b (x_raw_P (x_raw_mono (n' := 31) (x_raw_P (x_raw_mono (n' := 30) (x_raw_P (x_raw_mono (n' := 29) (x_raw_P (x_raw_mono (n' := 28) hr (by decide)) (by decide)) (by decide)) (by decide)) (by decide)) (by decide)) (by decide)) (by decide)) (by decide) (by decide)) ⟨Nat.le_of_ble_eq_true rfl, Nat.le_of_ble_eq_true rfl⟩ ?_
  show xW Y_X0_init (some 0) (d + 2) 10 2120 36 [(0, vR (some 26))] [vR (some 31), vR (some 26)] _ _ _
  refine xW.dup dX0_init_36 rfl ?_
  refine xW.callI (As := []) (rest := [vR (some 31), vR (some 26)]) dX0_init_37 mk_X0_20 rfl rfl im_X5_init rfl rfl (by decide) ⟨Nat.le_of_ble_eq_true rfl, Nat.le_of_ble_eq_true rfl⟩ (i_X5_31 (d := d + 0) (x_raw_mono (n' := 32) (x_raw_P (x_raw_mono (n' := 31) (x_raw_P (x_raw_mono (n' := 30) (x_raw_P (x_raw_mono (n' := 29) (x_raw_P (x_raw_mono (n' := 28) hr (by decide)) (by decide)) (by decide)) (by decide)) (by decide)) (by decide)) (by decide)) (by decide)) (by decide)) ?_)
  show xW Y_X0_init (some 0) (d + 2) 10 2120 40 [(0, vR (some 26))] [vR (some 31), vR (some 26)] _ _ _
  refine xW.putR true dX0_init_40 fk_X0_25 (fun _ => ⟨rfl, fun _ _ _ w => (by cases w; rfl)⟩) rfl (by decide) rfl ?_
  show xW Y_X0_init (some 0) (d + 2) 10 2120 43 [(0, vR (some 26))] [] _ _ _
  refine xW.aload_n dX0_init_43 0 rfl ?_
  refine xW.newO dX0_init_44 nk_X0_18 rfl (Or.inr (x_no4_4)) (fun w => absurd w (by decide)) (fun w => absurd w (by decide)) (by decide) (x_raw_b (x_raw_P (x_raw_mono (n' := 33) (x_raw_P (x_raw_mono (n' := 32) (x_raw_P (x_raw_mono (n' := 31) (x_raw_P (x_raw_mono (n' := 30) (x_raw_P (x_raw_mono (n' := 29) (x_raw_P (x_raw_mono (n' := 28) hr (by decide)) (by decide)) (by decide)) (by decide)) (by decide)) (by decide)) (by decide)) (by decide)) (by decide)) (by decide)) (by decide)) (by decide)) (by decide) (by decide)) ⟨Nat.le_of_ble_eq_true rfl, Nat.le_of_ble_eq_true rfl⟩ ?_
  show xW Y_X0_init (some 0) (d + 2) 10 2120 47 [(0, vR (some 26))] [vR (some 33), vR (some 26)] _ _ _
  refine xW.dup dX0_init_47 rfl ?_
  refine xW.callI (As := []) (rest := [vR (some 33), vR (some 26)]) dX0_init_48 mk_X0_20 rfl rfl im_X5_init rfl rfl (by decide) ⟨Nat.le_of_ble_eq_true rfl, Nat.le_of_ble_eq_true rfl⟩ (i_X5_33 (d := d + 0) (x_raw_mono (n' := 34) (x_raw_P (x_raw_mono (n' := 33) (x_raw_P (x_raw_mono (n' := 32) (x_raw_P (x_raw_mono (n' := 31) (x_raw_P (x_raw_mono (n' := 30) (x_raw_P (x_raw_mono (n' := 29) (x_raw_P (x_raw_mono (n' := 28) hr (by decide)) (by decide)) (by decide)) (by decide)) (by decide)) (by decide)) (by decide)) (by decide)) (by decide)) (by decide)) (by decide)) (by decide)) (by decide)) ?_)
  show xW Y_X0_init (some 0) (d + 2) 10 2120 51 [(0, vR (some 26))] [vR (some 33), vR (some 26)] _ _ _
  refine xW.putR true dX0_init_51 fk_X0_28 (fun _ => ⟨rfl, fun _ _ _ w => (by cases w; rfl)⟩) rfl (by decide) rfl ?_
  show xW Y_X0_init (some 0) (d + 2) 10 2120 54 [(0, vR (some 26))] [] _ _ _
  refine xW.aload_n dX0_init_54 0 rfl ?_
  refine xW.newO dX0_init_55 nk_X0_18 rfl (Or.inr (x_no4_4)) (fun w => absurd w (by decide)) (fun w => absurd w (by decide)) (by decide) (x_raw_b (x_raw_P (x_raw_mono (n' := 35) (x_raw_P (x_raw_mono (n' := 34) (x_raw_P (x_raw_mono (n' := 33) (x_raw_P (x_raw_mono (n' := 32) (x_raw_P (x_raw_mono (n' := 31) (x_raw_P (x_raw_mono (n' := 30) (x_raw_P (x_raw_mono (n' := 29) (x_raw_P (x_raw_mono (n' := 28) hr (by decide)) (by decide)) (by decide)) (by decide)) (by decide)) (by decide)) (by decide)) (by decide)) (by decide)) (by decide)) (by decide)) (by decide)) (by decide)) (by decide)) (by decide)) (by decide)) (by decide) (by decide)) ⟨Nat.le_of_ble_eq_true rfl, Nat.le_of_ble_eq_true rfl⟩ ?_
  show xW Y_X0_init (some 0) (d + 2) 10 2120 58 [(0, vR (some 26))] [vR (some 35), vR (some 26)] _ _ _
  refine xW.dup dX0_init_58 rfl ?_
  refine xW.callI (As := []) (rest := [vR (some 35), vR (some 26)]) dX0_init_59 mk_X0_20 rfl rfl im_X5_init rfl rfl (by decide) ⟨Nat.le_of_ble_eq_true rfl, Nat.le_of_ble_eq_true rfl⟩ (i_X5_35 (d := d + 0) (x_raw_mono (n' := 36) (x_raw_P (x_raw_mono (n' := 35) (x_raw_P (x_raw_mono (n' := 34) (x_raw_P (x_raw_mono (n' := 33) (x_raw_P (x_raw_mono (n' := 32) (x_raw_P (x_raw_mono (n' := 31) (x_raw_P (x_raw_mono (n' := 30) (x_raw_P (x_raw_mono (n' := 29) (x_raw_P (x_raw_mono (n' := 28) hr (by decide)) (by decide)) (by decide)) (by decide)) (by decide)) (by decide)) (by decide)) (by decide)) (by decide)) (by decide)) (by decide)) (by decide)) (by decide)) (by decide)) (by decide)) (by decide)) (by decide)) ?_)
  show xW Y_X0_init (some 0) (d + 2) 10 2120 62 [(0, vR (some 26))] [vR (some 35), vR (some 26)] _ _ _
  refine xW.putR true dX0_init_62 fk_X0_31 (fun _ => ⟨rfl, fun _ _ _ w => (by cases w; rfl)⟩) rfl (by decide) rfl ?_
  show xW Y_X0_init (some 0) (d + 2) 10 2120 65 [(0, vR (some 26))] [] _ _ _
  refine xW.aload_n dX0_init_65 0 rfl ?_
  refine xW.iconst dX0_init_66 (by unfold inR; omega) ?_
  refine xW.putI dX0_init_67 fk_X0_34 rfl (by decide) rfl ?_
  show xW Y_X0_init (some 0) (d + 2) 10 2120 70 [(0, vR (some 26))] [] _ _ _
  refine xW.aload_n dX0_init_70 0 rfl ?_
  refine xW.getR (o := some 27) dX0_init_71 fk_X0_9 rfl (by decide) rfl (by simp [x_updP, pRows]) ?_
  show xW Y_X0_init (some 0) (d + 2) 10 2120 74 [(0, vR (some 26))] [vR (some 27)] _ _ _
  refine xW.iconst dX0_init_74 (by unfold inR; omega) ?_
  refine xW.iconst dX0_init_75 (by unfold inR; omega) ?_
  refine xW.iast dX0_init_76 rfl (by decide) (by decide) (by decide) ?_
  show xW Y_X0_init (some 0) (d + 2) 10 2120 77 [(0, vR (some 26))] [] _ _ _
  refine xW.aload_n dX0_init_77 0 rfl ?_
  refine xW.getR (o := some 27) dX0_init_78 fk_X0_9 rfl (by decide) rfl (by simp [x_updP, pRows]) ?_
  show xW Y_X0_init (some 0) (d + 2) 10 2120 81 [(0, vR (some 26))] [vR (some 27)] _ _ _
  refine xW.iconst dX0_init_81 (by unfold inR; omega) ?_
  refine xW.bipush dX0_init_82 (by unfold inR; omega) rfl ?_
  refine xW.iast dX0_init_84 rfl (by decide) (by decide) (by decide) ?_
  show xW Y_X0_init (some 0) (d + 2) 10 2120 85 [(0, vR (some 26))] [] _ _ _
  refine xW.aload_n dX0_init_85 0 rfl ?_
  refine xW.getR (o := some 27) dX0_init_86 fk_X0_9 rfl (by decide) rfl (by simp [x_updP, pRows]) ?_
  show xW Y_X0_init (some 0) (d + 2) 10 2120 89 [(0, vR (some 26))] [vR (some 27)] _ _ _
  refine xW.iconst dX0_init_89 (by unfold inR; omega) ?_
  refine xW.iconst dX0_init_90 (by unfold inR; omega) ?_
  refine xW.iast dX0_init_91 rfl (by decide) (by decide) (by decide) ?_
  show xW Y_X0_init (some 0) (d + 2) 10 2120 92 [(0, vR (some 26))] [] _ _ _
  exact xW.vret dX0_init_92 rfl ⟨Nat.le_of_ble_eq_true rfl, Nat.le_of_ble_eq_true rfl⟩ k
theorem i_X2 {d : Nat} {P : xP} {M : xM} {Q : xH → Option xV → Prop} (hr : x_raw 13 P M) (k : Q (15, pLaw P, M) none) : xC Y_X2_init (some 0) (d + 1) 2 308 [vR (some 12)] (13, P, M) Q := by
  refine xC.of pl_X2_init (by decide) rfl ?_
  refine xW.aload_n dX2_init_0 0 rfl ?_
  refine xW.objI dX2_init_1 ol_X2 oi_inst oi_code (by decide) ?_
  show xW Y_X2_init (some 0) (d + 1) 2 308 4 [(0, vR (some 12))] [] _ _ _
  refine xW.aload_n dX2_init_4 0 rfl ?_
  refine xW.bipush dX2_init_5 (by unfold inR; omega) rfl ?_
  refine xW.newI (N := 8) dX2_init_7 ac_int rfl rfl (Nat.le_of_ble_eq_true rfl) (fun _ => rfl) (by decide) (x_raw_b hr (by decide) (by decide)) ⟨Nat.le_of_ble_eq_true rfl, Nat.le_of_ble_eq_true rfl⟩ ?_
  show xW Y_X2_init (some 0) (d + 1) 2 308 9 [(0, vR (some 12))] [vR (some 13), vR (some 12)] _ _ _
  refine xW.putR true dX2_init_9 fk_X2_11 (fun _ => ⟨rfl, fun _ _ _ w => (by cases w; rfl)⟩) rfl (by decide) rfl ?_
  show xW Y_X2_init (some 0) (d + 1) 2 308 12 [(0, vR (some 12))] [] _ _ _
  refine xW.aload_n dX2_init_12 0 rfl ?_
  refine xW.sipush dX2_init_13 (by unfold inR; omega) rfl ?_
  refine xW.newI (N := 300) dX2_init_16 ac_int rfl rfl (Nat.le_of_ble_eq_true rfl) (fun _ => rfl) (by decide) (x_raw_b (x_raw_P (x_raw_mono (n' := 14) hr (by decide)) (by decide)) (by decide) (by decide)) ⟨Nat.le_of_ble_eq_true rfl, Nat.le_of_ble_eq_true rfl⟩ ?_
  show xW Y_X2_init (some 0) (d + 1) 2 308 18 [(0, vR (some 12))] [vR (some 14), vR (some 12)] _ _ _
  refine xW.putR true dX2_init_18 fk_X2_19 (fun _ => ⟨rfl, fun _ _ _ w => (by cases w; rfl)⟩) rfl (by decide) rfl ?_
  show xW Y_X2_init (some 0) (d + 1) 2 308 21 [(0, vR (some 12))] [] _ _ _
  exact xW.vret dX2_init_21 rfl ⟨Nat.le_of_ble_eq_true rfl, Nat.le_of_ble_eq_true rfl⟩ k
theorem i_X1 {d : Nat} {P : xP} {M : xM} {Q : xH → Option xV → Prop} (hr : x_raw 16 P M) (k : Q (26, pFore P, M) none) : xC Y_X1_init (some 0) (d + 1) 10 215 [vR (some 15), vR (some 1), vR (some 12)] (16, P, M) Q := by
  refine xC.of pl_X1_init (by decide) rfl ?_
  refine xW.aload_n dX1_init_0 0 rfl ?_
  refine xW.objI dX1_init_1 ol_X1 oi_inst oi_code (by decide) ?_
  show xW Y_X1_init (some 0) (d + 1) 10 215 4 [(0, vR (some 15)), (1, vR (some 1)), (2, vR (some 12))] [] _ _ _
  refine xW.aload_n dX1_init_4 0 rfl ?_
  refine xW.bipush dX1_init_5 (by unfold inR; omega) rfl ?_
  refine xW.newI (N := 61) dX1_init_7 ac_int rfl rfl (Nat.le_of_ble_eq_true rfl) (fun _ => rfl) (by decide) (x_raw_b hr (by decide) (by decide)) ⟨Nat.le_of_ble_eq_true rfl, Nat.le_of_ble_eq_true rfl⟩ ?_
  show xW Y_X1_init (some 0) (d + 1) 10 215 9 [(0, vR (some 15)), (1, vR (some 1)), (2, vR (some 12))] [vR (some 16), vR (some 15)] _ _ _
  refine xW.putR true dX1_init_9 fk_X1_9 (fun _ => ⟨rfl, fun _ _ _ w => (by cases w; rfl)⟩) rfl (by decide) rfl ?_
  show xW Y_X1_init (some 0) (d + 1) 10 215 12 [(0, vR (some 15)), (1, vR (some 1)), (2, vR (some 12))] [] _ _ _
  refine xW.aload_n dX1_init_12 0 rfl ?_
  refine xW.bipush dX1_init_13 (by unfold inR; omega) rfl ?_
  refine xW.newI (N := 61) dX1_init_15 ac_int rfl rfl (Nat.le_of_ble_eq_true rfl) (fun _ => rfl) (by decide) (x_raw_b (x_raw_P (x_raw_mono (n' := 17) hr (by decide)) (by decide)) (by decide) (by decide)) ⟨Nat.le_of_ble_eq_true rfl, Nat.le_of_ble_eq_true rfl⟩ ?_
  show xW Y_X1_init (some 0) (d + 1) 10 215 17 [(0, vR (some 15)), (1, vR (some 1)), (2, vR (some 12))] [vR (some 17), vR (some 15)] _ _ _
  refine xW.putR true dX1_init_17 fk_X1_15 (fun _ => ⟨rfl, fun _ _ _ w => (by cases w; rfl)⟩) rfl (by decide) rfl ?_
  show xW Y_X1_init (some 0) (d + 1) 10 215 20 [(0, vR (some 15)), (1, vR (some 1)), (2, vR (some 12))] [] _ _ _
  refine xW.aload_n dX1_init_20 0 rfl ?_
  refine xW.bipush dX1_init_21 (by unfold inR; omega) rfl ?_
  refine xW.newI (N := 61) dX1_init_23 ac_int rfl rfl (Nat.le_of_ble_eq_true rfl) (fun _ => rfl) (by decide) (x_raw_b (x_raw_P (x_raw_mono (n' := 18) (x_raw_P (x_raw_mono (n' := 17) hr (by decide)) (by decide)) (by decide)) (by decide)) (by decide) (by decide)) ⟨Nat.le_of_ble_eq_true rfl, Nat.le_of_ble_eq_true rfl⟩ ?_
  show xW Y_X1_init (some 0) (d + 1) 10 215 25 [(0, vR (some 15)), (1, vR (some 1)), (2, vR (some 12))] [vR (some 18), vR (some 15)] _ _ _
  refine xW.putR true dX1_init_25 fk_X1_18 (fun _ => ⟨rfl, fun _ _ _ w => (by cases w; rfl)⟩) rfl (by decide) rfl ?_
  show xW Y_X1_init (some 0) (d + 1) 10 215 28 [(0, vR (some 15)), (1, vR (some 1)), (2, vR (some 12))] [] _ _ _
  refine xW.aload_n dX1_init_28 0 rfl ?_
  refine xW.iconst dX1_init_29 (by unfold inR; omega) ?_
  refine xW.iconst dX1_init_30 (by unfold inR; omega) ?_
  refine xW.newM dX1_init_31 tl_rows (x_raw_P (x_raw_mono (n' := 19) (x_raw_P (x_raw_mono (n' := 18) (x_raw_P (x_raw_mono (n' := 17) hr (by decide)) (by decide)) (by decide)) (by decide)) (by decide)) (by decide)) ⟨Nat.le_of_ble_eq_true rfl, Nat.le_of_ble_eq_true rfl⟩ ?_
  show xW Y_X1_init (some 0) (d + 1) 10 215 35 [(0, vR (some 15)), (1, vR (some 1)), (2, vR (some 12))] [vR (some 19), vR (some 15)] _ _ _
  refine xW.putR true dX1_init_35 fk_X1_23 (fun _ => ⟨rfl, fun _ _ _ w => (by cases w; rfl)⟩) rfl (by decide) rfl ?_
  show xW Y_X1_init (some 0) (d + 1) 10 215 38 [(0, vR (some 15)), (1, vR (some 1)), (2, vR (some 12))] [] _ _ _
  refine xW.aload_n dX1_init_38 0 rfl ?_
  refine xW.iconst dX1_init_39 (by unfold inR; omega) ?_
  refine xW.newI (N := 4) dX1_init_40 ac_int rfl rfl (Nat.le_of_ble_eq_true rfl) (fun _ => rfl) (by decide) (x_raw_b (x_raw_P (x_raw_mono (n' := 23) (x_raw_P (x_raw_mono (n' := 19) (x_raw_P (x_raw_mono (n' := 18) (x_raw_P (x_raw_mono (n' := 17) hr (by decide)) (by decide)) (by decide)) (by decide)) (by decide)) (by decide)) (by decide)) (by decide)) (by decide) (by decide)) ⟨Nat.le_of_ble_eq_true rfl, Nat.le_of_ble_eq_true rfl⟩ ?_
  show xW Y_X1_init (some 0) (d + 1) 10 215 42 [(0, vR (some 15)), (1, vR (some 1)), (2, vR (some 12))] [vR (some 23), vR (some 15)] _ _ _
  refine xW.putR true dX1_init_42 fk_X1_26 (fun _ => ⟨rfl, fun _ _ _ w => (by cases w; rfl)⟩) rfl (by decide) rfl ?_
  show xW Y_X1_init (some 0) (d + 1) 10 215 45 [(0, vR (some 15)), (1, vR (some 1)), (2, vR (some 12))] [] _ _ _
  refine xW.aload_n dX1_init_45 0 rfl ?_
  refine xW.iconst dX1_init_46 (by unfold inR; omega) ?_
  refine xW.newI (N := 5) dX1_init_47 ac_int rfl rfl (Nat.le_of_ble_eq_true rfl) (fun _ => rfl) (by decide) (x_raw_b (x_raw_P (x_raw_mono (n' := 24) (x_raw_P (x_raw_mono (n' := 23) (x_raw_P (x_raw_mono (n' := 19) (x_raw_P (x_raw_mono (n' := 18) (x_raw_P (x_raw_mono (n' := 17) hr (by decide)) (by decide)) (by decide)) (by decide)) (by decide)) (by decide)) (by decide)) (by decide)) (by decide)) (by decide)) (by decide) (by decide)) ⟨Nat.le_of_ble_eq_true rfl, Nat.le_of_ble_eq_true rfl⟩ ?_
  show xW Y_X1_init (some 0) (d + 1) 10 215 49 [(0, vR (some 15)), (1, vR (some 1)), (2, vR (some 12))] [vR (some 24), vR (some 15)] _ _ _
  refine xW.putR true dX1_init_49 fk_X1_29 (fun _ => ⟨rfl, fun _ _ _ w => (by cases w; rfl)⟩) rfl (by decide) rfl ?_
  show xW Y_X1_init (some 0) (d + 1) 10 215 52 [(0, vR (some 15)), (1, vR (some 1)), (2, vR (some 12))] [] _ _ _
  refine xW.aload_n dX1_init_52 0 rfl ?_
  refine xW.iconst dX1_init_53 (by unfold inR; omega) ?_
  refine xW.newI (N := 5) dX1_init_54 ac_int rfl rfl (Nat.le_of_ble_eq_true rfl) (fun _ => rfl) (by decide) (x_raw_b (x_raw_P (x_raw_mono (n' := 25) (x_raw_P (x_raw_mono (n' := 24) (x_raw_P (x_raw_mono (n' := 23) (x_raw_P (x_raw_mono (n' := 19) (x_raw_P (x_raw_mono (n' := 18) (x_raw_P (x_raw_mono (n' := 17) hr (by decide)) (by decide)) (by decide)) (by decide)) (by decide)) (by decide)) (by decide)) (by decide)) (by decide)) (by decide)) (by decide)) (by decide)) (by decide) (by decide)) ⟨Nat.le_of_ble_eq_true rfl, Nat.le_of_ble_eq_true rfl⟩ ?_
  show xW Y_X1_init (some 0) (d + 1) 10 215 56 [(0, vR (some 15)), (1, vR (some 1)), (2, vR (some 12))] [vR (some 25), vR (some 15)] _ _ _
  refine xW.putR true dX1_init_56 fk_X1_32 (fun _ => ⟨rfl, fun _ _ _ w => (by cases w; rfl)⟩) rfl (by decide) rfl ?_
  show xW Y_X1_init (some 0) (d + 1) 10 215 59 [(0, vR (some 15)), (1, vR (some 1)), (2, vR (some 12))] [] _ _ _
  refine xW.aload_n dX1_init_59 0 rfl ?_
  refine xW.aload_n dX1_init_60 1 rfl ?_
  refine xW.putR true dX1_init_61 fk_X1_35 (fun _ => ⟨rfl, fun _ _ _ w => (by cases w; rfl)⟩) rfl (by decide) rfl ?_
  show xW Y_X1_init (some 0) (d + 1) 10 215 64 [(0, vR (some 15)), (1, vR (some 1)), (2, vR (some 12))] [] _ _ _
  refine xW.aload_n dX1_init_64 0 rfl ?_
  refine xW.aload_n dX1_init_65 2 rfl ?_
  refine xW.putR true dX1_init_66 fk_X1_39 (fun _ => ⟨rfl, fun _ _ _ w => (by cases w; rfl)⟩) rfl (by decide) rfl ?_
  show xW Y_X1_init (some 0) (d + 1) 10 215 69 [(0, vR (some 15)), (1, vR (some 1)), (2, vR (some 12))] [] _ _ _
  exact xW.vret dX1_init_69 rfl ⟨Nat.le_of_ble_eq_true rfl, Nat.le_of_ble_eq_true rfl⟩ k
theorem i_X6 {d : Nat} {P : xP} {M : xM} {Q : xH → Option xV → Prop} (hr : x_raw 38 P M) (k : Q (42, pTape P, M) none) : xC Y_X6_init (some 0) (d + 1) 4 1203 [vR (some 37)] (38, P, M) Q := by
  refine xC.of pl_X6_init (by decide) rfl ?_
  refine xW.aload_n dX6_init_0 0 rfl ?_
  refine xW.objI dX6_init_1 ol_X6 oi_inst oi_code (by decide) ?_
  show xW Y_X6_init (some 0) (d + 1) 4 1203 4 [(0, vR (some 37))] [] _ _ _
  refine xW.aload_n dX6_init_4 0 rfl ?_
  refine xW.sipush dX6_init_5 (by unfold inR; omega) rfl ?_
  refine xW.newI (N := 300) dX6_init_8 ac_int rfl rfl (Nat.le_of_ble_eq_true rfl) (fun _ => rfl) (by decide) (x_raw_b hr (by decide) (by decide)) ⟨Nat.le_of_ble_eq_true rfl, Nat.le_of_ble_eq_true rfl⟩ ?_
  show xW Y_X6_init (some 0) (d + 1) 4 1203 10 [(0, vR (some 37))] [vR (some 38), vR (some 37)] _ _ _
  refine xW.putR true dX6_init_10 fk_X6_9 (fun _ => ⟨rfl, fun _ _ _ w => (by cases w; rfl)⟩) rfl (by decide) rfl ?_
  show xW Y_X6_init (some 0) (d + 1) 4 1203 13 [(0, vR (some 37))] [] _ _ _
  refine xW.aload_n dX6_init_13 0 rfl ?_
  refine xW.sipush dX6_init_14 (by unfold inR; omega) rfl ?_
  refine xW.newI (N := 301) dX6_init_17 ac_int rfl rfl (Nat.le_of_ble_eq_true rfl) (fun _ => rfl) (by decide) (x_raw_b (x_raw_P (x_raw_mono (n' := 39) hr (by decide)) (by decide)) (by decide) (by decide)) ⟨Nat.le_of_ble_eq_true rfl, Nat.le_of_ble_eq_true rfl⟩ ?_
  show xW Y_X6_init (some 0) (d + 1) 4 1203 19 [(0, vR (some 37))] [vR (some 39), vR (some 37)] _ _ _
  refine xW.putR true dX6_init_19 fk_X6_13 (fun _ => ⟨rfl, fun _ _ _ w => (by cases w; rfl)⟩) rfl (by decide) rfl ?_
  show xW Y_X6_init (some 0) (d + 1) 4 1203 22 [(0, vR (some 37))] [] _ _ _
  refine xW.aload_n dX6_init_22 0 rfl ?_
  refine xW.sipush dX6_init_23 (by unfold inR; omega) rfl ?_
  refine xW.newI (N := 301) dX6_init_26 ac_int rfl rfl (Nat.le_of_ble_eq_true rfl) (fun _ => rfl) (by decide) (x_raw_b (x_raw_P (x_raw_mono (n' := 40) (x_raw_P (x_raw_mono (n' := 39) hr (by decide)) (by decide)) (by decide)) (by decide)) (by decide) (by decide)) ⟨Nat.le_of_ble_eq_true rfl, Nat.le_of_ble_eq_true rfl⟩ ?_
  show xW Y_X6_init (some 0) (d + 1) 4 1203 28 [(0, vR (some 37))] [vR (some 40), vR (some 37)] _ _ _
  refine xW.putR true dX6_init_28 fk_X6_16 (fun _ => ⟨rfl, fun _ _ _ w => (by cases w; rfl)⟩) rfl (by decide) rfl ?_
  show xW Y_X6_init (some 0) (d + 1) 4 1203 31 [(0, vR (some 37))] [] _ _ _
  refine xW.aload_n dX6_init_31 0 rfl ?_
  refine xW.sipush dX6_init_32 (by unfold inR; omega) rfl ?_
  refine xW.newI (N := 301) dX6_init_35 ac_int rfl rfl (Nat.le_of_ble_eq_true rfl) (fun _ => rfl) (by decide) (x_raw_b (x_raw_P (x_raw_mono (n' := 41) (x_raw_P (x_raw_mono (n' := 40) (x_raw_P (x_raw_mono (n' := 39) hr (by decide)) (by decide)) (by decide)) (by decide)) (by decide)) (by decide)) (by decide) (by decide)) ⟨Nat.le_of_ble_eq_true rfl, Nat.le_of_ble_eq_true rfl⟩ ?_
  show xW Y_X6_init (some 0) (d + 1) 4 1203 37 [(0, vR (some 37))] [vR (some 41), vR (some 37)] _ _ _
  refine xW.putR true dX6_init_37 fk_X6_19 (fun _ => ⟨rfl, fun _ _ _ w => (by cases w; rfl)⟩) rfl (by decide) rfl ?_
  show xW Y_X6_init (some 0) (d + 1) 4 1203 40 [(0, vR (some 37))] [] _ _ _
  exact xW.vret dX6_init_40 rfl ⟨Nat.le_of_ble_eq_true rfl, Nat.le_of_ble_eq_true rfl⟩ k
theorem i_X7_43 {d : Nat} {P : xP} {M : xM} {Q : xH → Option xV → Prop} (hr : x_raw 44 P M) (k : Q (48, pText 43 P, M) none) : xC Y_X7_init (some 0) (d + 1) 4 412 [vR (some 43)] (44, P, M) Q := by
  refine xC.of pl_X7_init (by decide) rfl ?_
  refine xW.aload_n dX7_init_0 0 rfl ?_
  refine xW.objI dX7_init_1 ol_X7 oi_inst oi_code (by decide) ?_
  show xW Y_X7_init (some 0) (d + 1) 4 412 4 [(0, vR (some 43))] [] _ _ _
  refine xW.aload_n dX7_init_4 0 rfl ?_
  refine xW.sipush dX7_init_5 (by unfold inR; omega) rfl ?_
  refine xW.newI (N := 300) dX7_init_8 ac_int rfl rfl (Nat.le_of_ble_eq_true rfl) (fun _ => rfl) (by decide) (x_raw_b hr (by decide) (by decide)) ⟨Nat.le_of_ble_eq_true rfl, Nat.le_of_ble_eq_true rfl⟩ ?_
  show xW Y_X7_init (some 0) (d + 1) 4 412 10 [(0, vR (some 43))] [vR (some 44), vR (some 43)] _ _ _
  refine xW.putR true dX7_init_10 fk_X7_11 (fun _ => ⟨rfl, fun _ _ _ w => (by cases w; rfl)⟩) rfl (by decide) rfl ?_
  show xW Y_X7_init (some 0) (d + 1) 4 412 13 [(0, vR (some 43))] [] _ _ _
  refine xW.aload_n dX7_init_13 0 rfl ?_
  refine xW.bipush dX7_init_14 (by unfold inR; omega) rfl ?_
  refine xW.newI (N := 8) dX7_init_16 ac_int rfl rfl (Nat.le_of_ble_eq_true rfl) (fun _ => rfl) (by decide) (x_raw_b (x_raw_P (x_raw_mono (n' := 45) hr (by decide)) (by decide)) (by decide) (by decide)) ⟨Nat.le_of_ble_eq_true rfl, Nat.le_of_ble_eq_true rfl⟩ ?_
  show xW Y_X7_init (some 0) (d + 1) 4 412 18 [(0, vR (some 43))] [vR (some 45), vR (some 43)] _ _ _
  refine xW.putR true dX7_init_18 fk_X7_17 (fun _ => ⟨rfl, fun _ _ _ w => (by cases w; rfl)⟩) rfl (by decide) rfl ?_
  show xW Y_X7_init (some 0) (d + 1) 4 412 21 [(0, vR (some 43))] [] _ _ _
  refine xW.aload_n dX7_init_21 0 rfl ?_
  refine xW.bipush dX7_init_22 (by unfold inR; omega) rfl ?_
  refine xW.newI (N := 8) dX7_init_24 ac_int rfl rfl (Nat.le_of_ble_eq_true rfl) (fun _ => rfl) (by decide) (x_raw_b (x_raw_P (x_raw_mono (n' := 46) (x_raw_P (x_raw_mono (n' := 45) hr (by decide)) (by decide)) (by decide)) (by decide)) (by decide) (by decide)) ⟨Nat.le_of_ble_eq_true rfl, Nat.le_of_ble_eq_true rfl⟩ ?_
  show xW Y_X7_init (some 0) (d + 1) 4 412 26 [(0, vR (some 43))] [vR (some 46), vR (some 43)] _ _ _
  refine xW.putR true dX7_init_26 fk_X7_20 (fun _ => ⟨rfl, fun _ _ _ w => (by cases w; rfl)⟩) rfl (by decide) rfl ?_
  show xW Y_X7_init (some 0) (d + 1) 4 412 29 [(0, vR (some 43))] [] _ _ _
  refine xW.aload_n dX7_init_29 0 rfl ?_
  refine xW.bipush dX7_init_30 (by unfold inR; omega) rfl ?_
  refine xW.newI (N := 96) dX7_init_32 ac_int rfl rfl (Nat.le_of_ble_eq_true rfl) (fun _ => rfl) (by decide) (x_raw_b (x_raw_P (x_raw_mono (n' := 47) (x_raw_P (x_raw_mono (n' := 46) (x_raw_P (x_raw_mono (n' := 45) hr (by decide)) (by decide)) (by decide)) (by decide)) (by decide)) (by decide)) (by decide) (by decide)) ⟨Nat.le_of_ble_eq_true rfl, Nat.le_of_ble_eq_true rfl⟩ ?_
  show xW Y_X7_init (some 0) (d + 1) 4 412 34 [(0, vR (some 43))] [vR (some 47), vR (some 43)] _ _ _
  refine xW.putR true dX7_init_34 fk_X7_23 (fun _ => ⟨rfl, fun _ _ _ w => (by cases w; rfl)⟩) rfl (by decide) rfl ?_
  show xW Y_X7_init (some 0) (d + 1) 4 412 37 [(0, vR (some 43))] [] _ _ _
  exact xW.vret dX7_init_37 rfl ⟨Nat.le_of_ble_eq_true rfl, Nat.le_of_ble_eq_true rfl⟩ k
theorem i_X7_48 {d : Nat} {P : xP} {M : xM} {Q : xH → Option xV → Prop} (hr : x_raw 49 P M) (k : Q (53, pText 48 P, M) none) : xC Y_X7_init (some 0) (d + 1) 4 412 [vR (some 48)] (49, P, M) Q := by
  refine xC.of pl_X7_init (by decide) rfl ?_
  refine xW.aload_n dX7_init_0 0 rfl ?_
  refine xW.objI dX7_init_1 ol_X7 oi_inst oi_code (by decide) ?_
  show xW Y_X7_init (some 0) (d + 1) 4 412 4 [(0, vR (some 48))] [] _ _ _
  refine xW.aload_n dX7_init_4 0 rfl ?_
  refine xW.sipush dX7_init_5 (by unfold inR; omega) rfl ?_
  refine xW.newI (N := 300) dX7_init_8 ac_int rfl rfl (Nat.le_of_ble_eq_true rfl) (fun _ => rfl) (by decide) (x_raw_b hr (by decide) (by decide)) ⟨Nat.le_of_ble_eq_true rfl, Nat.le_of_ble_eq_true rfl⟩ ?_
  show xW Y_X7_init (some 0) (d + 1) 4 412 10 [(0, vR (some 48))] [vR (some 49), vR (some 48)] _ _ _
  refine xW.putR true dX7_init_10 fk_X7_11 (fun _ => ⟨rfl, fun _ _ _ w => (by cases w; rfl)⟩) rfl (by decide) rfl ?_
  show xW Y_X7_init (some 0) (d + 1) 4 412 13 [(0, vR (some 48))] [] _ _ _
  refine xW.aload_n dX7_init_13 0 rfl ?_
  refine xW.bipush dX7_init_14 (by unfold inR; omega) rfl ?_
  refine xW.newI (N := 8) dX7_init_16 ac_int rfl rfl (Nat.le_of_ble_eq_true rfl) (fun _ => rfl) (by decide) (x_raw_b (x_raw_P (x_raw_mono (n' := 50) hr (by decide)) (by decide)) (by decide) (by decide)) ⟨Nat.le_of_ble_eq_true rfl, Nat.le_of_ble_eq_true rfl⟩ ?_
  show xW Y_X7_init (some 0) (d + 1) 4 412 18 [(0, vR (some 48))] [vR (some 50), vR (some 48)] _ _ _
  refine xW.putR true dX7_init_18 fk_X7_17 (fun _ => ⟨rfl, fun _ _ _ w => (by cases w; rfl)⟩) rfl (by decide) rfl ?_
  show xW Y_X7_init (some 0) (d + 1) 4 412 21 [(0, vR (some 48))] [] _ _ _
  refine xW.aload_n dX7_init_21 0 rfl ?_
  refine xW.bipush dX7_init_22 (by unfold inR; omega) rfl ?_
  refine xW.newI (N := 8) dX7_init_24 ac_int rfl rfl (Nat.le_of_ble_eq_true rfl) (fun _ => rfl) (by decide) (x_raw_b (x_raw_P (x_raw_mono (n' := 51) (x_raw_P (x_raw_mono (n' := 50) hr (by decide)) (by decide)) (by decide)) (by decide)) (by decide) (by decide)) ⟨Nat.le_of_ble_eq_true rfl, Nat.le_of_ble_eq_true rfl⟩ ?_
  show xW Y_X7_init (some 0) (d + 1) 4 412 26 [(0, vR (some 48))] [vR (some 51), vR (some 48)] _ _ _
  refine xW.putR true dX7_init_26 fk_X7_20 (fun _ => ⟨rfl, fun _ _ _ w => (by cases w; rfl)⟩) rfl (by decide) rfl ?_
  show xW Y_X7_init (some 0) (d + 1) 4 412 29 [(0, vR (some 48))] [] _ _ _
  refine xW.aload_n dX7_init_29 0 rfl ?_
  refine xW.bipush dX7_init_30 (by unfold inR; omega) rfl ?_
  refine xW.newI (N := 96) dX7_init_32 ac_int rfl rfl (Nat.le_of_ble_eq_true rfl) (fun _ => rfl) (by decide) (x_raw_b (x_raw_P (x_raw_mono (n' := 52) (x_raw_P (x_raw_mono (n' := 51) (x_raw_P (x_raw_mono (n' := 50) hr (by decide)) (by decide)) (by decide)) (by decide)) (by decide)) (by decide)) (by decide) (by decide)) ⟨Nat.le_of_ble_eq_true rfl, Nat.le_of_ble_eq_true rfl⟩ ?_
  show xW Y_X7_init (some 0) (d + 1) 4 412 34 [(0, vR (some 48))] [vR (some 52), vR (some 48)] _ _ _
  refine xW.putR true dX7_init_34 fk_X7_23 (fun _ => ⟨rfl, fun _ _ _ w => (by cases w; rfl)⟩) rfl (by decide) rfl ?_
  show xW Y_X7_init (some 0) (d + 1) 4 412 37 [(0, vR (some 48))] [] _ _ _
  exact xW.vret dX7_init_37 rfl ⟨Nat.le_of_ble_eq_true rfl, Nat.le_of_ble_eq_true rfl⟩ k
theorem i_X7_53 {d : Nat} {P : xP} {M : xM} {Q : xH → Option xV → Prop} (hr : x_raw 54 P M) (k : Q (58, pText 53 P, M) none) : xC Y_X7_init (some 0) (d + 1) 4 412 [vR (some 53)] (54, P, M) Q := by
  refine xC.of pl_X7_init (by decide) rfl ?_
  refine xW.aload_n dX7_init_0 0 rfl ?_
  refine xW.objI dX7_init_1 ol_X7 oi_inst oi_code (by decide) ?_
  show xW Y_X7_init (some 0) (d + 1) 4 412 4 [(0, vR (some 53))] [] _ _ _
  refine xW.aload_n dX7_init_4 0 rfl ?_
  refine xW.sipush dX7_init_5 (by unfold inR; omega) rfl ?_
  refine xW.newI (N := 300) dX7_init_8 ac_int rfl rfl (Nat.le_of_ble_eq_true rfl) (fun _ => rfl) (by decide) (x_raw_b hr (by decide) (by decide)) ⟨Nat.le_of_ble_eq_true rfl, Nat.le_of_ble_eq_true rfl⟩ ?_
  show xW Y_X7_init (some 0) (d + 1) 4 412 10 [(0, vR (some 53))] [vR (some 54), vR (some 53)] _ _ _
  refine xW.putR true dX7_init_10 fk_X7_11 (fun _ => ⟨rfl, fun _ _ _ w => (by cases w; rfl)⟩) rfl (by decide) rfl ?_
  show xW Y_X7_init (some 0) (d + 1) 4 412 13 [(0, vR (some 53))] [] _ _ _
  refine xW.aload_n dX7_init_13 0 rfl ?_
  refine xW.bipush dX7_init_14 (by unfold inR; omega) rfl ?_
  refine xW.newI (N := 8) dX7_init_16 ac_int rfl rfl (Nat.le_of_ble_eq_true rfl) (fun _ => rfl) (by decide) (x_raw_b (x_raw_P (x_raw_mono (n' := 55) hr (by decide)) (by decide)) (by decide) (by decide)) ⟨Nat.le_of_ble_eq_true rfl, Nat.le_of_ble_eq_true rfl⟩ ?_
  show xW Y_X7_init (some 0) (d + 1) 4 412 18 [(0, vR (some 53))] [vR (some 55), vR (some 53)] _ _ _
  refine xW.putR true dX7_init_18 fk_X7_17 (fun _ => ⟨rfl, fun _ _ _ w => (by cases w; rfl)⟩) rfl (by decide) rfl ?_
  show xW Y_X7_init (some 0) (d + 1) 4 412 21 [(0, vR (some 53))] [] _ _ _
  refine xW.aload_n dX7_init_21 0 rfl ?_
  refine xW.bipush dX7_init_22 (by unfold inR; omega) rfl ?_
  refine xW.newI (N := 8) dX7_init_24 ac_int rfl rfl (Nat.le_of_ble_eq_true rfl) (fun _ => rfl) (by decide) (x_raw_b (x_raw_P (x_raw_mono (n' := 56) (x_raw_P (x_raw_mono (n' := 55) hr (by decide)) (by decide)) (by decide)) (by decide)) (by decide) (by decide)) ⟨Nat.le_of_ble_eq_true rfl, Nat.le_of_ble_eq_true rfl⟩ ?_
  show xW Y_X7_init (some 0) (d + 1) 4 412 26 [(0, vR (some 53))] [vR (some 56), vR (some 53)] _ _ _
  refine xW.putR true dX7_init_26 fk_X7_20 (fun _ => ⟨rfl, fun _ _ _ w => (by cases w; rfl)⟩) rfl (by decide) rfl ?_
  show xW Y_X7_init (some 0) (d + 1) 4 412 29 [(0, vR (some 53))] [] _ _ _
  refine xW.aload_n dX7_init_29 0 rfl ?_
  refine xW.bipush dX7_init_30 (by unfold inR; omega) rfl ?_
  refine xW.newI (N := 96) dX7_init_32 ac_int rfl rfl (Nat.le_of_ble_eq_true rfl) (fun _ => rfl) (by decide) (x_raw_b (x_raw_P (x_raw_mono (n' := 57) (x_raw_P (x_raw_mono (n' := 56) (x_raw_P (x_raw_mono (n' := 55) hr (by decide)) (by decide)) (by decide)) (by decide)) (by decide)) (by decide)) (by decide) (by decide)) ⟨Nat.le_of_ble_eq_true rfl, Nat.le_of_ble_eq_true rfl⟩ ?_
  show xW Y_X7_init (some 0) (d + 1) 4 412 34 [(0, vR (some 53))] [vR (some 57), vR (some 53)] _ _ _
  refine xW.putR true dX7_init_34 fk_X7_23 (fun _ => ⟨rfl, fun _ _ _ w => (by cases w; rfl)⟩) rfl (by decide) rfl ?_
  show xW Y_X7_init (some 0) (d + 1) 4 412 37 [(0, vR (some 53))] [] _ _ _
  exact xW.vret dX7_init_37 rfl ⟨Nat.le_of_ble_eq_true rfl, Nat.le_of_ble_eq_true rfl⟩ k
theorem i_X7_58 {d : Nat} {P : xP} {M : xM} {Q : xH → Option xV → Prop} (hr : x_raw 59 P M) (k : Q (63, pText 58 P, M) none) : xC Y_X7_init (some 0) (d + 1) 4 412 [vR (some 58)] (59, P, M) Q := by
  refine xC.of pl_X7_init (by decide) rfl ?_
  refine xW.aload_n dX7_init_0 0 rfl ?_
  refine xW.objI dX7_init_1 ol_X7 oi_inst oi_code (by decide) ?_
  show xW Y_X7_init (some 0) (d + 1) 4 412 4 [(0, vR (some 58))] [] _ _ _
  refine xW.aload_n dX7_init_4 0 rfl ?_
  refine xW.sipush dX7_init_5 (by unfold inR; omega) rfl ?_
  refine xW.newI (N := 300) dX7_init_8 ac_int rfl rfl (Nat.le_of_ble_eq_true rfl) (fun _ => rfl) (by decide) (x_raw_b hr (by decide) (by decide)) ⟨Nat.le_of_ble_eq_true rfl, Nat.le_of_ble_eq_true rfl⟩ ?_
  show xW Y_X7_init (some 0) (d + 1) 4 412 10 [(0, vR (some 58))] [vR (some 59), vR (some 58)] _ _ _
  refine xW.putR true dX7_init_10 fk_X7_11 (fun _ => ⟨rfl, fun _ _ _ w => (by cases w; rfl)⟩) rfl (by decide) rfl ?_
  show xW Y_X7_init (some 0) (d + 1) 4 412 13 [(0, vR (some 58))] [] _ _ _
  refine xW.aload_n dX7_init_13 0 rfl ?_
  refine xW.bipush dX7_init_14 (by unfold inR; omega) rfl ?_
  refine xW.newI (N := 8) dX7_init_16 ac_int rfl rfl (Nat.le_of_ble_eq_true rfl) (fun _ => rfl) (by decide) (x_raw_b (x_raw_P (x_raw_mono (n' := 60) hr (by decide)) (by decide)) (by decide) (by decide)) ⟨Nat.le_of_ble_eq_true rfl, Nat.le_of_ble_eq_true rfl⟩ ?_
  show xW Y_X7_init (some 0) (d + 1) 4 412 18 [(0, vR (some 58))] [vR (some 60), vR (some 58)] _ _ _
  refine xW.putR true dX7_init_18 fk_X7_17 (fun _ => ⟨rfl, fun _ _ _ w => (by cases w; rfl)⟩) rfl (by decide) rfl ?_
  show xW Y_X7_init (some 0) (d + 1) 4 412 21 [(0, vR (some 58))] [] _ _ _
  refine xW.aload_n dX7_init_21 0 rfl ?_
  refine xW.bipush dX7_init_22 (by unfold inR; omega) rfl ?_
  refine xW.newI (N := 8) dX7_init_24 ac_int rfl rfl (Nat.le_of_ble_eq_true rfl) (fun _ => rfl) (by decide) (x_raw_b (x_raw_P (x_raw_mono (n' := 61) (x_raw_P (x_raw_mono (n' := 60) hr (by decide)) (by decide)) (by decide)) (by decide)) (by decide) (by decide)) ⟨Nat.le_of_ble_eq_true rfl, Nat.le_of_ble_eq_true rfl⟩ ?_
  show xW Y_X7_init (some 0) (d + 1) 4 412 26 [(0, vR (some 58))] [vR (some 61), vR (some 58)] _ _ _
  refine xW.putR true dX7_init_26 fk_X7_20 (fun _ => ⟨rfl, fun _ _ _ w => (by cases w; rfl)⟩) rfl (by decide) rfl ?_
  show xW Y_X7_init (some 0) (d + 1) 4 412 29 [(0, vR (some 58))] [] _ _ _
  refine xW.aload_n dX7_init_29 0 rfl ?_
  refine xW.bipush dX7_init_30 (by unfold inR; omega) rfl ?_
  refine xW.newI (N := 96) dX7_init_32 ac_int rfl rfl (Nat.le_of_ble_eq_true rfl) (fun _ => rfl) (by decide) (x_raw_b (x_raw_P (x_raw_mono (n' := 62) (x_raw_P (x_raw_mono (n' := 61) (x_raw_P (x_raw_mono (n' := 60) hr (by decide)) (by decide)) (by decide)) (by decide)) (by decide)) (by decide)) (by decide) (by decide)) ⟨Nat.le_of_ble_eq_true rfl, Nat.le_of_ble_eq_true rfl⟩ ?_
  show xW Y_X7_init (some 0) (d + 1) 4 412 34 [(0, vR (some 58))] [vR (some 62), vR (some 58)] _ _ _
  refine xW.putR true dX7_init_34 fk_X7_23 (fun _ => ⟨rfl, fun _ _ _ w => (by cases w; rfl)⟩) rfl (by decide) rfl ?_
  show xW Y_X7_init (some 0) (d + 1) 4 412 37 [(0, vR (some 58))] [] _ _ _
  exact xW.vret dX7_init_37 rfl ⟨Nat.le_of_ble_eq_true rfl, Nat.le_of_ble_eq_true rfl⟩ k
theorem i_X9 {d : Nat} {P : xP} {M : xM} {Q : xH → Option xV → Prop} (hr : x_raw 1 P M) (k : Q (64, pClass P, mClass M) none) : xC Y_X9_init (some 0) (d + 3) 63 7943 [vR (some 0)] (1, P, M) Q := by
  refine xC.of pl_X9_init (by decide) rfl ?_
  refine xW.aload_n dX9_init_0 0 rfl ?_
  refine xW.objI dX9_init_1 ol_X9 oi_inst oi_code (by decide) ?_
  show xW Y_X9_init (some 0) (d + 3) 63 7943 4 [(0, vR (some 0))] [] _ _ _
  refine xW.newO dX9_init_4 nk_X9_9 rfl (Or.inr (x_no4_0)) (fun w => absurd w (by decide)) (fun w => absurd w (by decide)) (by decide) (x_raw_b hr (by decide) (by decide)) ⟨Nat.le_of_ble_eq_true rfl, Nat.le_of_ble_eq_true rfl⟩ ?_
  show xW Y_X9_init (some 0) (d + 3) 63 7943 7 [(0, vR (some 0))] [vR (some 1)] _ _ _
  refine xW.dup dX9_init_7 rfl ?_
  refine xW.callI (As := []) (rest := [vR (some 1)]) dX9_init_8 mk_X9_11 rfl rfl im_X0_init rfl rfl (by decide) ⟨Nat.le_of_ble_eq_true rfl, Nat.le_of_ble_eq_true rfl⟩ (i_X0_1 (d := d + 0) (x_raw_mono (n' := 2) hr (by decide)) ?_)
  show xW Y_X9_init (some 0) (d + 3) 63 7943 11 [(0, vR (some 0))] [vR (some 1)] _ _ _
  refine xW.astore_n dX9_init_11 (by decide) rfl ?_
  show xW Y_X9_init (some 0) (d + 3) 63 7943 12 [(0, vR (some 0)), (1, vR (some 1))] [] _ _ _
  refine xW.newO dX9_init_12 nk_X9_12 rfl (Or.inr (x_no4_2)) (fun w => absurd w (by decide)) (fun w => absurd w (by decide)) (by decide) (x_raw_b (rawC_1 (x_raw_mono (n' := 2) hr (by decide))) (by decide) (by decide)) ⟨Nat.le_of_ble_eq_true rfl, Nat.le_of_ble_eq_true rfl⟩ ?_
  show xW Y_X9_init (some 0) (d + 3) 63 7943 15 [(0, vR (some 0)), (1, vR (some 1))] [vR (some 12)] _ _ _
  refine xW.dup dX9_init_15 rfl ?_
  refine xW.callI (As := []) (rest := [vR (some 12)]) dX9_init_16 mk_X9_14 rfl rfl im_X2_init rfl rfl (by decide) ⟨Nat.le_of_ble_eq_true rfl, Nat.le_of_ble_eq_true rfl⟩ (i_X2 (d := d + 1) (x_raw_mono (n' := 13) (rawC_1 (x_raw_mono (n' := 2) hr (by decide))) (by decide)) ?_)
  show xW Y_X9_init (some 0) (d + 3) 63 7943 19 [(0, vR (some 0)), (1, vR (some 1))] [vR (some 12)] _ _ _
  refine xW.astore_n dX9_init_19 (by decide) rfl ?_
  show xW Y_X9_init (some 0) (d + 3) 63 7943 20 [(0, vR (some 0)), (1, vR (some 1)), (2, vR (some 12))] [] _ _ _
  refine xW.aload_n dX9_init_20 0 rfl ?_
  refine xW.aload_n dX9_init_21 1 rfl ?_
  refine xW.putR true dX9_init_22 fk_X9_15 (fun _ => ⟨rfl, fun _ _ _ w => (by cases w; rfl)⟩) rfl (by decide) rfl ?_
  show xW Y_X9_init (some 0) (d + 3) 63 7943 25 [(0, vR (some 0)), (1, vR (some 1)), (2, vR (some 12))] [] _ _ _
  refine xW.aload_n dX9_init_25 0 rfl ?_
  refine xW.aload_n dX9_init_26 2 rfl ?_
  refine xW.putR true dX9_init_27 fk_X9_19 (fun _ => ⟨rfl, fun _ _ _ w => (by cases w; rfl)⟩) rfl (by decide) rfl ?_
  show xW Y_X9_init (some 0) (d + 3) 63 7943 30 [(0, vR (some 0)), (1, vR (some 1)), (2, vR (some 12))] [] _ _ _
  refine xW.aload_n dX9_init_30 0 rfl ?_
  refine xW.newO dX9_init_31 nk_X9_23 rfl (Or.inl rfl) (fun _ j => x_ft1 j) (fun w => absurd w (by decide)) (by decide) (x_raw_b (x_raw_P (x_raw_P (rawL (x_raw_mono (n' := 13) (rawC_1 (x_raw_mono (n' := 2) hr (by decide))) (by decide))) (by decide)) (by decide)) (by decide) (by decide)) ⟨Nat.le_of_ble_eq_true rfl, Nat.le_of_ble_eq_true rfl⟩ ?_
  show xW Y_X9_init (some 0) (d + 3) 63 7943 34 [(0, vR (some 0)), (1, vR (some 1)), (2, vR (some 12))] [vR (some 15), vR (some 0)] _ _ _
  refine xW.dup dX9_init_34 rfl ?_
  refine xW.aload_n dX9_init_35 1 rfl ?_
  refine xW.aload_n dX9_init_36 2 rfl ?_
  refine xW.callI (As := [vR (some 1), vR (some 12)]) (rest := [vR (some 15), vR (some 0)]) dX9_init_37 mk_X9_25 rfl rfl im_X1_init rfl rfl (by decide) ⟨Nat.le_of_ble_eq_true rfl, Nat.le_of_ble_eq_true rfl⟩ (i_X1 (d := d + 1) (x_raw_mono (n' := 16) (x_raw_P (x_raw_P (rawL (x_raw_mono (n' := 13) (rawC_1 (x_raw_mono (n' := 2) hr (by decide))) (by decide))) (by decide)) (by decide)) (by decide)) ?_)
  show xW Y_X9_init (some 0) (d + 3) 63 7943 40 [(0, vR (some 0)), (1, vR (some 1)), (2, vR (some 12))] [vR (some 15), vR (some 0)] _ _ _
  refine xW.putR true dX9_init_40 fk_X9_28 (fun _ => ⟨rfl, fun _ _ _ w => (by cases w; rfl)⟩) rfl (by decide) rfl ?_
  show xW Y_X9_init (some 0) (d + 3) 63 7943 43 [(0, vR (some 0)), (1, vR (some 1)), (2, vR (some 12))] [] _ _ _
  refine xW.aload_n dX9_init_43 0 rfl ?_
  refine xW.newO dX9_init_44 nk_X9_9 rfl (Or.inr (x_no4_0)) (fun w => absurd w (by decide)) (fun w => absurd w (by decide)) (by decide) (x_raw_b (x_raw_P (rawF (x_raw_mono (n' := 16) (x_raw_P (x_raw_P (rawL (x_raw_mono (n' := 13) (rawC_1 (x_raw_mono (n' := 2) hr (by decide))) (by decide))) (by decide)) (by decide)) (by decide))) (by decide)) (by decide) (by decide)) ⟨Nat.le_of_ble_eq_true rfl, Nat.le_of_ble_eq_true rfl⟩ ?_
  show xW Y_X9_init (some 0) (d + 3) 63 7943 47 [(0, vR (some 0)), (1, vR (some 1)), (2, vR (some 12))] [vR (some 26), vR (some 0)] _ _ _
  refine xW.dup dX9_init_47 rfl ?_
  refine xW.callI (As := []) (rest := [vR (some 26), vR (some 0)]) dX9_init_48 mk_X9_11 rfl rfl im_X0_init rfl rfl (by decide) ⟨Nat.le_of_ble_eq_true rfl, Nat.le_of_ble_eq_true rfl⟩ (i_X0_26 (d := d + 0) (x_raw_mono (n' := 27) (x_raw_P (rawF (x_raw_mono (n' := 16) (x_raw_P (x_raw_P (rawL (x_raw_mono (n' := 13) (rawC_1 (x_raw_mono (n' := 2) hr (by decide))) (by decide))) (by decide)) (by decide)) (by decide))) (by decide)) (by decide)) ?_)
  show xW Y_X9_init (some 0) (d + 3) 63 7943 51 [(0, vR (some 0)), (1, vR (some 1)), (2, vR (some 12))] [vR (some 26), vR (some 0)] _ _ _
  refine xW.putR true dX9_init_51 fk_X9_32 (fun _ => ⟨rfl, fun _ _ _ w => (by cases w; rfl)⟩) rfl (by decide) rfl ?_
  show xW Y_X9_init (some 0) (d + 3) 63 7943 54 [(0, vR (some 0)), (1, vR (some 1)), (2, vR (some 12))] [] _ _ _
  refine xW.aload_n dX9_init_54 0 rfl ?_
  refine xW.newO dX9_init_55 nk_X9_35 rfl (Or.inr (x_no4_5)) (fun w => absurd w (by decide)) (fun w => absurd w (by decide)) (by decide) (x_raw_b (x_raw_P (rawC_26 (x_raw_mono (n' := 27) (x_raw_P (rawF (x_raw_mono (n' := 16) (x_raw_P (x_raw_P (rawL (x_raw_mono (n' := 13) (rawC_1 (x_raw_mono (n' := 2) hr (by decide))) (by decide))) (by decide)) (by decide)) (by decide))) (by decide)) (by decide))) (by decide)) (by decide) (by decide)) ⟨Nat.le_of_ble_eq_true rfl, Nat.le_of_ble_eq_true rfl⟩ ?_
  show xW Y_X9_init (some 0) (d + 3) 63 7943 58 [(0, vR (some 0)), (1, vR (some 1)), (2, vR (some 12))] [vR (some 37), vR (some 0)] _ _ _
  refine xW.dup dX9_init_58 rfl ?_
  refine xW.callI (As := []) (rest := [vR (some 37), vR (some 0)]) dX9_init_59 mk_X9_37 rfl rfl im_X6_init rfl rfl (by decide) ⟨Nat.le_of_ble_eq_true rfl, Nat.le_of_ble_eq_true rfl⟩ (i_X6 (d := d + 1) (x_raw_mono (n' := 38) (x_raw_P (rawC_26 (x_raw_mono (n' := 27) (x_raw_P (rawF (x_raw_mono (n' := 16) (x_raw_P (x_raw_P (rawL (x_raw_mono (n' := 13) (rawC_1 (x_raw_mono (n' := 2) hr (by decide))) (by decide))) (by decide)) (by decide)) (by decide))) (by decide)) (by decide))) (by decide)) (by decide)) ?_)
  show xW Y_X9_init (some 0) (d + 3) 63 7943 62 [(0, vR (some 0)), (1, vR (some 1)), (2, vR (some 12))] [vR (some 37), vR (some 0)] _ _ _
  refine xW.putR true dX9_init_62 fk_X9_38 (fun _ => ⟨rfl, fun _ _ _ w => (by cases w; rfl)⟩) rfl (by decide) rfl ?_
  show xW Y_X9_init (some 0) (d + 3) 63 7943 65 [(0, vR (some 0)), (1, vR (some 1)), (2, vR (some 12))] [] _ _ _
  refine xW.aload_n dX9_init_65 0 rfl ?_
  refine xW.iconst dX9_init_66 (by unfold inR; omega) ?_
  refine xW.newR (N := 4) dX9_init_67 tl_text ao_text rfl rfl (Nat.le_of_ble_eq_true rfl) (fun w => absurd w (by decide)) (by decide) (x_raw_b (x_raw_P (rawT (x_raw_mono (n' := 38) (x_raw_P (rawC_26 (x_raw_mono (n' := 27) (x_raw_P (rawF (x_raw_mono (n' := 16) (x_raw_P (x_raw_P (rawL (x_raw_mono (n' := 13) (rawC_1 (x_raw_mono (n' := 2) hr (by decide))) (by decide))) (by decide)) (by decide)) (by decide))) (by decide)) (by decide))) (by decide)) (by decide))) (by decide)) (by decide) (by decide)) ⟨Nat.le_of_ble_eq_true rfl, Nat.le_of_ble_eq_true rfl⟩ ?_
  show xW Y_X9_init (some 0) (d + 3) 63 7943 70 [(0, vR (some 0)), (1, vR (some 1)), (2, vR (some 12))] [vR (some 42), vR (some 0)] _ _ _
  refine xW.putR true dX9_init_70 fk_X9_44 (fun _ => ⟨rfl, fun _ _ _ w => (by cases w; rfl)⟩) rfl (by decide) rfl ?_
  show xW Y_X9_init (some 0) (d + 3) 63 7943 73 [(0, vR (some 0)), (1, vR (some 1)), (2, vR (some 12))] [] _ _ _
  refine xW.iconst dX9_init_73 (by unfold inR; omega) ?_
  refine xW.istore_n dX9_init_74 (by decide) rfl ?_
  show xW Y_X9_init (some 0) (d + 3) 63 7943 75 [(0, vR (some 0)), (1, vR (some 1)), (2, vR (some 12)), (3, vI 0)] [] _ _ _
  refine xW.iload_n dX9_init_75 3 rfl ?_
  refine xW.iconst dX9_init_76 (by unfold inR; omega) ?_
  refine xW.cmpge dX9_init_77 (tgt := 99) rfl (fun w => absurd w (show ¬ (4 : Int) ≤ 0 by decide)) (fun _ => ?_)
  show xW Y_X9_init (some 0) (d + 3) 63 7943 80 [(0, vR (some 0)), (1, vR (some 1)), (2, vR (some 12)), (3, vI 0)] [] _ _ _
  refine xW.aload_n dX9_init_80 0 rfl ?_
  refine xW.getR (o := some 42) dX9_init_81 fk_X9_44 rfl (by decide) rfl (by simp [x_updP, pTape, pText]) ?_
  show xW Y_X9_init (some 0) (d + 3) 63 7943 84 [(0, vR (some 0)), (1, vR (some 1)), (2, vR (some 12)), (3, vI 0)] [vR (some 42)] _ _ _
  refine xW.iload_n dX9_init_84 3 rfl ?_
  refine xW.newO dX9_init_85 nk_X9_42 rfl (Or.inr (x_no4_6)) (fun w => absurd w (by decide)) (fun w => absurd w (by decide)) (by decide) (x_raw_b (x_raw_P (x_raw_mono (n' := 43) (x_raw_P (rawT (x_raw_mono (n' := 38) (x_raw_P (rawC_26 (x_raw_mono (n' := 27) (x_raw_P (rawF (x_raw_mono (n' := 16) (x_raw_P (x_raw_P (rawL (x_raw_mono (n' := 13) (rawC_1 (x_raw_mono (n' := 2) hr (by decide))) (by decide))) (by decide)) (by decide)) (by decide))) (by decide)) (by decide))) (by decide)) (by decide))) (by decide)) (by decide)) (by decide)) (by decide) (by decide)) ⟨Nat.le_of_ble_eq_true rfl, Nat.le_of_ble_eq_true rfl⟩ ?_
  show xW Y_X9_init (some 0) (d + 3) 63 7943 88 [(0, vR (some 0)), (1, vR (some 1)), (2, vR (some 12)), (3, vI 0)] [vR (some 43), vI 0, vR (some 42)] _ _ _
  refine xW.dup dX9_init_88 rfl ?_
  refine xW.callI (As := []) (rest := [vR (some 43), vI 0, vR (some 42)]) dX9_init_89 mk_X9_48 rfl rfl im_X7_init rfl rfl (by decide) ⟨Nat.le_of_ble_eq_true rfl, Nat.le_of_ble_eq_true rfl⟩ (i_X7_43 (d := d + 1) (x_raw_mono (n' := 44) (x_raw_P (x_raw_mono (n' := 43) (x_raw_P (rawT (x_raw_mono (n' := 38) (x_raw_P (rawC_26 (x_raw_mono (n' := 27) (x_raw_P (rawF (x_raw_mono (n' := 16) (x_raw_P (x_raw_P (rawL (x_raw_mono (n' := 13) (rawC_1 (x_raw_mono (n' := 2) hr (by decide))) (by decide))) (by decide)) (by decide)) (by decide))) (by decide)) (by decide))) (by decide)) (by decide))) (by decide)) (by decide)) (by decide)) (by decide)) ?_)
  show xW Y_X9_init (some 0) (d + 3) 63 7943 92 [(0, vR (some 0)), (1, vR (some 1)), (2, vR (some 12)), (3, vI 0)] [vR (some 43), vI 0, vR (some 42)] _ _ _
  refine xW.aast (ci := 6) dX9_init_92 rfl (by decide) (by decide) (by decide) rfl (by decide) rfl rfl ?_
  show xW Y_X9_init (some 0) (d + 3) 63 7943 93 [(0, vR (some 0)), (1, vR (some 1)), (2, vR (some 12)), (3, vI 0)] [] _ _ _
  refine xW.iinc (q := 3) dX9_init_93 rfl (by decide) (by unfold inR; omega) rfl ?_
  show xW Y_X9_init (some 0) (d + 3) 63 7943 96 [(0, vR (some 0)), (1, vR (some 1)), (2, vR (some 12)), (3, vI 1)] [] _ _ _
  refine xW.goto dX9_init_96 (tgt := 75) rfl ?_
  show xW Y_X9_init (some 0) (d + 3) 63 7943 75 [(0, vR (some 0)), (1, vR (some 1)), (2, vR (some 12)), (3, vI 1)] [] _ _ _
  refine xW.iload_n dX9_init_75 3 rfl ?_
  refine xW.iconst dX9_init_76 (by unfold inR; omega) ?_
  refine xW.cmpge dX9_init_77 (tgt := 99) rfl (fun w => absurd w (show ¬ (4 : Int) ≤ 1 by decide)) (fun _ => ?_)
  show xW Y_X9_init (some 0) (d + 3) 63 7943 80 [(0, vR (some 0)), (1, vR (some 1)), (2, vR (some 12)), (3, vI 1)] [] _ _ _
  refine xW.aload_n dX9_init_80 0 rfl ?_
  refine xW.getR (o := some 42) dX9_init_81 fk_X9_44 rfl (by decide) rfl (by simp [x_updP, pTape, pText]) ?_
  show xW Y_X9_init (some 0) (d + 3) 63 7943 84 [(0, vR (some 0)), (1, vR (some 1)), (2, vR (some 12)), (3, vI 1)] [vR (some 42)] _ _ _
  refine xW.iload_n dX9_init_84 3 rfl ?_
  refine xW.newO dX9_init_85 nk_X9_42 rfl (Or.inr (x_no4_6)) (fun w => absurd w (by decide)) (fun w => absurd w (by decide)) (by decide) (x_raw_b (x_raw_P (rawX_43 (x_raw_mono (n' := 44) (x_raw_P (x_raw_mono (n' := 43) (x_raw_P (rawT (x_raw_mono (n' := 38) (x_raw_P (rawC_26 (x_raw_mono (n' := 27) (x_raw_P (rawF (x_raw_mono (n' := 16) (x_raw_P (x_raw_P (rawL (x_raw_mono (n' := 13) (rawC_1 (x_raw_mono (n' := 2) hr (by decide))) (by decide))) (by decide)) (by decide)) (by decide))) (by decide)) (by decide))) (by decide)) (by decide))) (by decide)) (by decide)) (by decide)) (by decide))) (by decide)) (by decide) (by decide)) ⟨Nat.le_of_ble_eq_true rfl, Nat.le_of_ble_eq_true rfl⟩ ?_
  show xW Y_X9_init (some 0) (d + 3) 63 7943 88 [(0, vR (some 0)), (1, vR (some 1)), (2, vR (some 12)), (3, vI 1)] [vR (some 48), vI 1, vR (some 42)] _ _ _
  refine xW.dup dX9_init_88 rfl ?_
  refine xW.callI (As := []) (rest := [vR (some 48), vI 1, vR (some 42)]) dX9_init_89 mk_X9_48 rfl rfl im_X7_init rfl rfl (by decide) ⟨Nat.le_of_ble_eq_true rfl, Nat.le_of_ble_eq_true rfl⟩ (i_X7_48 (d := d + 1) (x_raw_mono (n' := 49) (x_raw_P (rawX_43 (x_raw_mono (n' := 44) (x_raw_P (x_raw_mono (n' := 43) (x_raw_P (rawT (x_raw_mono (n' := 38) (x_raw_P (rawC_26 (x_raw_mono (n' := 27) (x_raw_P (rawF (x_raw_mono (n' := 16) (x_raw_P (x_raw_P (rawL (x_raw_mono (n' := 13) (rawC_1 (x_raw_mono (n' := 2) hr (by decide))) (by decide))) (by decide)) (by decide)) (by decide))) (by decide)) (by decide))) (by decide)) (by decide))) (by decide)) (by decide)) (by decide)) (by decide))) (by decide)) (by decide)) ?_)
  show xW Y_X9_init (some 0) (d + 3) 63 7943 92 [(0, vR (some 0)), (1, vR (some 1)), (2, vR (some 12)), (3, vI 1)] [vR (some 48), vI 1, vR (some 42)] _ _ _
  refine xW.aast (ci := 6) dX9_init_92 rfl (by decide) (by decide) (by decide) rfl (by decide) rfl rfl ?_
  show xW Y_X9_init (some 0) (d + 3) 63 7943 93 [(0, vR (some 0)), (1, vR (some 1)), (2, vR (some 12)), (3, vI 1)] [] _ _ _
  refine xW.iinc (q := 3) dX9_init_93 rfl (by decide) (by unfold inR; omega) rfl ?_
  show xW Y_X9_init (some 0) (d + 3) 63 7943 96 [(0, vR (some 0)), (1, vR (some 1)), (2, vR (some 12)), (3, vI 2)] [] _ _ _
  refine xW.goto dX9_init_96 (tgt := 75) rfl ?_
  show xW Y_X9_init (some 0) (d + 3) 63 7943 75 [(0, vR (some 0)), (1, vR (some 1)), (2, vR (some 12)), (3, vI 2)] [] _ _ _
  refine xW.iload_n dX9_init_75 3 rfl ?_
  refine xW.iconst dX9_init_76 (by unfold inR; omega) ?_
  refine xW.cmpge dX9_init_77 (tgt := 99) rfl (fun w => absurd w (show ¬ (4 : Int) ≤ 2 by decide)) (fun _ => ?_)
  show xW Y_X9_init (some 0) (d + 3) 63 7943 80 [(0, vR (some 0)), (1, vR (some 1)), (2, vR (some 12)), (3, vI 2)] [] _ _ _
  refine xW.aload_n dX9_init_80 0 rfl ?_
  refine xW.getR (o := some 42) dX9_init_81 fk_X9_44 rfl (by decide) rfl (by simp [x_updP, pTape, pText]) ?_
  show xW Y_X9_init (some 0) (d + 3) 63 7943 84 [(0, vR (some 0)), (1, vR (some 1)), (2, vR (some 12)), (3, vI 2)] [vR (some 42)] _ _ _
  refine xW.iload_n dX9_init_84 3 rfl ?_
  refine xW.newO dX9_init_85 nk_X9_42 rfl (Or.inr (x_no4_6)) (fun w => absurd w (by decide)) (fun w => absurd w (by decide)) (by decide) (x_raw_b (x_raw_P (rawX_48 (x_raw_mono (n' := 49) (x_raw_P (rawX_43 (x_raw_mono (n' := 44) (x_raw_P (x_raw_mono (n' := 43) (x_raw_P (rawT (x_raw_mono (n' := 38) (x_raw_P (rawC_26 (x_raw_mono (n' := 27) (x_raw_P (rawF (x_raw_mono (n' := 16) (x_raw_P (x_raw_P (rawL (x_raw_mono (n' := 13) (rawC_1 (x_raw_mono (n' := 2) hr (by decide))) (by decide))) (by decide)) (by decide)) (by decide))) (by decide)) (by decide))) (by decide)) (by decide))) (by decide)) (by decide)) (by decide)) (by decide))) (by decide)) (by decide))) (by decide)) (by decide) (by decide)) ⟨Nat.le_of_ble_eq_true rfl, Nat.le_of_ble_eq_true rfl⟩ ?_
  show xW Y_X9_init (some 0) (d + 3) 63 7943 88 [(0, vR (some 0)), (1, vR (some 1)), (2, vR (some 12)), (3, vI 2)] [vR (some 53), vI 2, vR (some 42)] _ _ _
  refine xW.dup dX9_init_88 rfl ?_
  refine xW.callI (As := []) (rest := [vR (some 53), vI 2, vR (some 42)]) dX9_init_89 mk_X9_48 rfl rfl im_X7_init rfl rfl (by decide) ⟨Nat.le_of_ble_eq_true rfl, Nat.le_of_ble_eq_true rfl⟩ (i_X7_53 (d := d + 1) (x_raw_mono (n' := 54) (x_raw_P (rawX_48 (x_raw_mono (n' := 49) (x_raw_P (rawX_43 (x_raw_mono (n' := 44) (x_raw_P (x_raw_mono (n' := 43) (x_raw_P (rawT (x_raw_mono (n' := 38) (x_raw_P (rawC_26 (x_raw_mono (n' := 27) (x_raw_P (rawF (x_raw_mono (n' := 16) (x_raw_P (x_raw_P (rawL (x_raw_mono (n' := 13) (rawC_1 (x_raw_mono (n' := 2) hr (by decide))) (by decide))) (by decide)) (by decide)) (by decide))) (by decide)) (by decide))) (by decide)) (by decide))) (by decide)) (by decide)) (by decide)) (by decide))) (by decide)) (by decide))) (by decide)) (by decide)) ?_)
  show xW Y_X9_init (some 0) (d + 3) 63 7943 92 [(0, vR (some 0)), (1, vR (some 1)), (2, vR (some 12)), (3, vI 2)] [vR (some 53), vI 2, vR (some 42)] _ _ _
  refine xW.aast (ci := 6) dX9_init_92 rfl (by decide) (by decide) (by decide) rfl (by decide) rfl rfl ?_
  show xW Y_X9_init (some 0) (d + 3) 63 7943 93 [(0, vR (some 0)), (1, vR (some 1)), (2, vR (some 12)), (3, vI 2)] [] _ _ _
  refine xW.iinc (q := 3) dX9_init_93 rfl (by decide) (by unfold inR; omega) rfl ?_
  show xW Y_X9_init (some 0) (d + 3) 63 7943 96 [(0, vR (some 0)), (1, vR (some 1)), (2, vR (some 12)), (3, vI 3)] [] _ _ _
  refine xW.goto dX9_init_96 (tgt := 75) rfl ?_
  show xW Y_X9_init (some 0) (d + 3) 63 7943 75 [(0, vR (some 0)), (1, vR (some 1)), (2, vR (some 12)), (3, vI 3)] [] _ _ _
  refine xW.iload_n dX9_init_75 3 rfl ?_
  refine xW.iconst dX9_init_76 (by unfold inR; omega) ?_
  refine xW.cmpge dX9_init_77 (tgt := 99) rfl (fun w => absurd w (show ¬ (4 : Int) ≤ 3 by decide)) (fun _ => ?_)
  show xW Y_X9_init (some 0) (d + 3) 63 7943 80 [(0, vR (some 0)), (1, vR (some 1)), (2, vR (some 12)), (3, vI 3)] [] _ _ _
  refine xW.aload_n dX9_init_80 0 rfl ?_
  refine xW.getR (o := some 42) dX9_init_81 fk_X9_44 rfl (by decide) rfl (by simp [x_updP, pTape, pText]) ?_
  show xW Y_X9_init (some 0) (d + 3) 63 7943 84 [(0, vR (some 0)), (1, vR (some 1)), (2, vR (some 12)), (3, vI 3)] [vR (some 42)] _ _ _
  refine xW.iload_n dX9_init_84 3 rfl ?_
  refine xW.newO dX9_init_85 nk_X9_42 rfl (Or.inr (x_no4_6)) (fun w => absurd w (by decide)) (fun w => absurd w (by decide)) (by decide) (x_raw_b (x_raw_P (rawX_53 (x_raw_mono (n' := 54) (x_raw_P (rawX_48 (x_raw_mono (n' := 49) (x_raw_P (rawX_43 (x_raw_mono (n' := 44) (x_raw_P (x_raw_mono (n' := 43) (x_raw_P (rawT (x_raw_mono (n' := 38) (x_raw_P (rawC_26 (x_raw_mono (n' := 27) (x_raw_P (rawF (x_raw_mono (n' := 16) (x_raw_P (x_raw_P (rawL (x_raw_mono (n' := 13) (rawC_1 (x_raw_mono (n' := 2) hr (by decide))) (by decide))) (by decide)) (by decide)) (by decide))) (by decide)) (by decide))) (by decide)) (by decide))) (by decide)) (by decide)) (by decide)) (by decide))) (by decide)) (by decide))) (by decide)) (by decide))) (by decide)) (by decide) (by decide)) ⟨Nat.le_of_ble_eq_true rfl, Nat.le_of_ble_eq_true rfl⟩ ?_
  show xW Y_X9_init (some 0) (d + 3) 63 7943 88 [(0, vR (some 0)), (1, vR (some 1)), (2, vR (some 12)), (3, vI 3)] [vR (some 58), vI 3, vR (some 42)] _ _ _
  refine xW.dup dX9_init_88 rfl ?_
  refine xW.callI (As := []) (rest := [vR (some 58), vI 3, vR (some 42)]) dX9_init_89 mk_X9_48 rfl rfl im_X7_init rfl rfl (by decide) ⟨Nat.le_of_ble_eq_true rfl, Nat.le_of_ble_eq_true rfl⟩ (i_X7_58 (d := d + 1) (x_raw_mono (n' := 59) (x_raw_P (rawX_53 (x_raw_mono (n' := 54) (x_raw_P (rawX_48 (x_raw_mono (n' := 49) (x_raw_P (rawX_43 (x_raw_mono (n' := 44) (x_raw_P (x_raw_mono (n' := 43) (x_raw_P (rawT (x_raw_mono (n' := 38) (x_raw_P (rawC_26 (x_raw_mono (n' := 27) (x_raw_P (rawF (x_raw_mono (n' := 16) (x_raw_P (x_raw_P (rawL (x_raw_mono (n' := 13) (rawC_1 (x_raw_mono (n' := 2) hr (by decide))) (by decide))) (by decide)) (by decide)) (by decide))) (by decide)) (by decide))) (by decide)) (by decide))) (by decide)) (by decide)) (by decide)) (by decide))) (by decide)) (by decide))) (by decide)) (by decide))) (by decide)) (by decide)) ?_)
  show xW Y_X9_init (some 0) (d + 3) 63 7943 92 [(0, vR (some 0)), (1, vR (some 1)), (2, vR (some 12)), (3, vI 3)] [vR (some 58), vI 3, vR (some 42)] _ _ _
  refine xW.aast (ci := 6) dX9_init_92 rfl (by decide) (by decide) (by decide) rfl (by decide) rfl rfl ?_
  show xW Y_X9_init (some 0) (d + 3) 63 7943 93 [(0, vR (some 0)), (1, vR (some 1)), (2, vR (some 12)), (3, vI 3)] [] _ _ _
  refine xW.iinc (q := 3) dX9_init_93 rfl (by decide) (by unfold inR; omega) rfl ?_
  show xW Y_X9_init (some 0) (d + 3) 63 7943 96 [(0, vR (some 0)), (1, vR (some 1)), (2, vR (some 12)), (3, vI 4)] [] _ _ _
  refine xW.goto dX9_init_96 (tgt := 75) rfl ?_
  show xW Y_X9_init (some 0) (d + 3) 63 7943 75 [(0, vR (some 0)), (1, vR (some 1)), (2, vR (some 12)), (3, vI 4)] [] _ _ _
  refine xW.iload_n dX9_init_75 3 rfl ?_
  refine xW.iconst dX9_init_76 (by unfold inR; omega) ?_
  refine xW.cmpge dX9_init_77 (tgt := 99) rfl (fun _ => ?_) (fun w => absurd (show (4 : Int) ≤ 4 by decide) w)
  show xW Y_X9_init (some 0) (d + 3) 63 7943 99 [(0, vR (some 0)), (1, vR (some 1)), (2, vR (some 12)), (3, vI 4)] [] _ _ _
  refine xW.aload_n dX9_init_99 0 rfl ?_
  refine xW.sipush dX9_init_100 (by unfold inR; omega) rfl ?_
  refine xW.newI (N := 256) dX9_init_103 ac_int rfl rfl (Nat.le_of_ble_eq_true rfl) (fun _ => rfl) (by decide) (x_raw_b (x_raw_P (rawX_58 (x_raw_mono (n' := 59) (x_raw_P (rawX_53 (x_raw_mono (n' := 54) (x_raw_P (rawX_48 (x_raw_mono (n' := 49) (x_raw_P (rawX_43 (x_raw_mono (n' := 44) (x_raw_P (x_raw_mono (n' := 43) (x_raw_P (rawT (x_raw_mono (n' := 38) (x_raw_P (rawC_26 (x_raw_mono (n' := 27) (x_raw_P (rawF (x_raw_mono (n' := 16) (x_raw_P (x_raw_P (rawL (x_raw_mono (n' := 13) (rawC_1 (x_raw_mono (n' := 2) hr (by decide))) (by decide))) (by decide)) (by decide)) (by decide))) (by decide)) (by decide))) (by decide)) (by decide))) (by decide)) (by decide)) (by decide)) (by decide))) (by decide)) (by decide))) (by decide)) (by decide))) (by decide)) (by decide))) (by decide)) (by decide) (by decide)) ⟨Nat.le_of_ble_eq_true rfl, Nat.le_of_ble_eq_true rfl⟩ ?_
  show xW Y_X9_init (some 0) (d + 3) 63 7943 105 [(0, vR (some 0)), (1, vR (some 1)), (2, vR (some 12)), (3, vI 4)] [vR (some 63), vR (some 0)] _ _ _
  refine xW.putR true dX9_init_105 fk_X9_49 (fun _ => ⟨rfl, fun _ _ _ w => (by cases w; rfl)⟩) rfl (by decide) rfl ?_
  show xW Y_X9_init (some 0) (d + 3) 63 7943 108 [(0, vR (some 0)), (1, vR (some 1)), (2, vR (some 12)), (3, vI 4)] [] _ _ _
  refine xW.aload_n dX9_init_108 0 rfl ?_
  refine xW.iconst dX9_init_109 (by unfold inR; omega) ?_
  refine xW.putI dX9_init_110 fk_X9_53 rfl (by decide) rfl ?_
  show xW Y_X9_init (some 0) (d + 3) 63 7943 113 [(0, vR (some 0)), (1, vR (some 1)), (2, vR (some 12)), (3, vI 4)] [] _ _ _
  refine xW.aload_n dX9_init_113 0 rfl ?_
  refine xW.iconst dX9_init_114 (by unfold inR; omega) ?_
  refine xW.putI dX9_init_115 fk_X9_57 rfl (by decide) rfl ?_
  show xW Y_X9_init (some 0) (d + 3) 63 7943 118 [(0, vR (some 0)), (1, vR (some 1)), (2, vR (some 12)), (3, vI 4)] [] _ _ _
  exact xW.vret dX9_init_118 rfl ⟨Nat.le_of_ble_eq_true rfl, Nat.le_of_ble_eq_true rfl⟩ k
theorem i_X10 {d : Nat} {P : xP} {M : xM} {Q : xH → Option xV → Prop} (hPP : x_PP (pModel P)) (hr : x_raw 65 P M) (k : Q (82, pModel P, x_blk (mModel M) 66 0 3642 (fun j => mModel M 65 j)) none) : xC Y_X10_init (some 0) (d + 1) 17 11600 [vR (some 64)] (65, P, M) Q := by
  refine xC.of pl_X10_init (by decide) rfl ?_
  refine xW.aload_n dX10_init_0 0 rfl ?_
  refine xW.objI dX10_init_1 ol_X10 oi_inst oi_code (by decide) ?_
  show xW Y_X10_init (some 0) (d + 1) 17 11600 4 [(0, vR (some 64))] [] _ _ _
  refine xW.aload_n dX10_init_4 0 rfl ?_
  refine xW.sipush dX10_init_5 (by unfold inR; omega) rfl ?_
  refine xW.newI (N := 3642) dX10_init_8 ac_int rfl rfl (Nat.le_of_ble_eq_true rfl) (fun _ => rfl) (by decide) (x_raw_b hr (by decide) (by decide)) ⟨Nat.le_of_ble_eq_true rfl, Nat.le_of_ble_eq_true rfl⟩ ?_
  show xW Y_X10_init (some 0) (d + 1) 17 11600 10 [(0, vR (some 64))] [vR (some 65), vR (some 64)] _ _ _
  refine xW.putR true dX10_init_10 fk_X10_7 (fun _ => ⟨rfl, fun _ _ _ w => (by cases w; rfl)⟩) rfl (by decide) rfl ?_
  show xW Y_X10_init (some 0) (d + 1) 17 11600 13 [(0, vR (some 64))] [] _ _ _
  refine xW.aload_n dX10_init_13 0 rfl ?_
  refine xW.sipush dX10_init_14 (by unfold inR; omega) rfl ?_
  refine xW.newI (N := 3642) dX10_init_17 ac_int rfl rfl (Nat.le_of_ble_eq_true rfl) (fun _ => rfl) (by decide) (x_raw_b (x_raw_P (x_raw_mono (n' := 66) hr (by decide)) (by decide)) (by decide) (by decide)) ⟨Nat.le_of_ble_eq_true rfl, Nat.le_of_ble_eq_true rfl⟩ ?_
  show xW Y_X10_init (some 0) (d + 1) 17 11600 19 [(0, vR (some 64))] [vR (some 66), vR (some 64)] _ _ _
  refine xW.putR true dX10_init_19 fk_X10_13 (fun _ => ⟨rfl, fun _ _ _ w => (by cases w; rfl)⟩) rfl (by decide) rfl ?_
  show xW Y_X10_init (some 0) (d + 1) 17 11600 22 [(0, vR (some 64))] [] _ _ _
  refine xW.aload_n dX10_init_22 0 rfl ?_
  refine xW.sipush dX10_init_23 (by unfold inR; omega) rfl ?_
  refine xW.newI (N := 2820) dX10_init_26 ac_int rfl rfl (Nat.le_of_ble_eq_true rfl) (fun _ => rfl) (by decide) (x_raw_b (x_raw_P (x_raw_mono (n' := 67) (x_raw_P (x_raw_mono (n' := 66) hr (by decide)) (by decide)) (by decide)) (by decide)) (by decide) (by decide)) ⟨Nat.le_of_ble_eq_true rfl, Nat.le_of_ble_eq_true rfl⟩ ?_
  show xW Y_X10_init (some 0) (d + 1) 17 11600 28 [(0, vR (some 64))] [vR (some 67), vR (some 64)] _ _ _
  refine xW.putR true dX10_init_28 fk_X10_16 (fun _ => ⟨rfl, fun _ _ _ w => (by cases w; rfl)⟩) rfl (by decide) rfl ?_
  show xW Y_X10_init (some 0) (d + 1) 17 11600 31 [(0, vR (some 64))] [] _ _ _
  refine xW.aload_n dX10_init_31 0 rfl ?_
  refine xW.sipush dX10_init_32 (by unfold inR; omega) rfl ?_
  refine xW.newI (N := 300) dX10_init_35 ac_int rfl rfl (Nat.le_of_ble_eq_true rfl) (fun _ => rfl) (by decide) (x_raw_b (x_raw_P (x_raw_mono (n' := 68) (x_raw_P (x_raw_mono (n' := 67) (x_raw_P (x_raw_mono (n' := 66) hr (by decide)) (by decide)) (by decide)) (by decide)) (by decide)) (by decide)) (by decide) (by decide)) ⟨Nat.le_of_ble_eq_true rfl, Nat.le_of_ble_eq_true rfl⟩ ?_
  show xW Y_X10_init (some 0) (d + 1) 17 11600 37 [(0, vR (some 64))] [vR (some 68), vR (some 64)] _ _ _
  refine xW.putR true dX10_init_37 fk_X10_19 (fun _ => ⟨rfl, fun _ _ _ w => (by cases w; rfl)⟩) rfl (by decide) rfl ?_
  show xW Y_X10_init (some 0) (d + 1) 17 11600 40 [(0, vR (some 64))] [] _ _ _
  refine xW.aload_n dX10_init_40 0 rfl ?_
  refine xW.iconst dX10_init_41 (by unfold inR; omega) ?_
  refine xW.putI dX10_init_42 fk_X10_22 rfl (by decide) rfl ?_
  show xW Y_X10_init (some 0) (d + 1) 17 11600 45 [(0, vR (some 64))] [] _ _ _
  refine xW.aload_n dX10_init_45 0 rfl ?_
  refine xW.iconst dX10_init_46 (by unfold inR; omega) ?_
  refine xW.putI dX10_init_47 fk_X10_26 rfl (by decide) rfl ?_
  show xW Y_X10_init (some 0) (d + 1) 17 11600 50 [(0, vR (some 64))] [] _ _ _
  refine xW.aload_n dX10_init_50 0 rfl ?_
  refine xW.sipush dX10_init_51 (by unfold inR; omega) rfl ?_
  refine xW.newI (N := 160) dX10_init_54 ac_int rfl rfl (Nat.le_of_ble_eq_true rfl) (fun _ => rfl) (by decide) (x_raw_b (x_raw_M (x_raw_M (x_raw_P (x_raw_mono (n' := 69) (x_raw_P (x_raw_mono (n' := 68) (x_raw_P (x_raw_mono (n' := 67) (x_raw_P (x_raw_mono (n' := 66) hr (by decide)) (by decide)) (by decide)) (by decide)) (by decide)) (by decide)) (by decide)) (by decide)) (by decide)) (by decide)) (by decide) (by decide)) ⟨Nat.le_of_ble_eq_true rfl, Nat.le_of_ble_eq_true rfl⟩ ?_
  show xW Y_X10_init (some 0) (d + 1) 17 11600 56 [(0, vR (some 64))] [vR (some 69), vR (some 64)] _ _ _
  refine xW.putR true dX10_init_56 fk_X10_29 (fun _ => ⟨rfl, fun _ _ _ w => (by cases w; rfl)⟩) rfl (by decide) rfl ?_
  show xW Y_X10_init (some 0) (d + 1) 17 11600 59 [(0, vR (some 64))] [] _ _ _
  refine xW.aload_n dX10_init_59 0 rfl ?_
  refine xW.bipush dX10_init_60 (by unfold inR; omega) rfl ?_
  refine xW.newI (N := 9) dX10_init_62 ac_int rfl rfl (Nat.le_of_ble_eq_true rfl) (fun _ => rfl) (by decide) (x_raw_b (x_raw_P (x_raw_mono (n' := 70) (x_raw_M (x_raw_M (x_raw_P (x_raw_mono (n' := 69) (x_raw_P (x_raw_mono (n' := 68) (x_raw_P (x_raw_mono (n' := 67) (x_raw_P (x_raw_mono (n' := 66) hr (by decide)) (by decide)) (by decide)) (by decide)) (by decide)) (by decide)) (by decide)) (by decide)) (by decide)) (by decide)) (by decide)) (by decide)) (by decide) (by decide)) ⟨Nat.le_of_ble_eq_true rfl, Nat.le_of_ble_eq_true rfl⟩ ?_
  show xW Y_X10_init (some 0) (d + 1) 17 11600 64 [(0, vR (some 64))] [vR (some 70), vR (some 64)] _ _ _
  refine xW.putR true dX10_init_64 fk_X10_32 (fun _ => ⟨rfl, fun _ _ _ w => (by cases w; rfl)⟩) rfl (by decide) rfl ?_
  show xW Y_X10_init (some 0) (d + 1) 17 11600 67 [(0, vR (some 64))] [] _ _ _
  refine xW.aload_n dX10_init_67 0 rfl ?_
  refine xW.bipush dX10_init_68 (by unfold inR; omega) rfl ?_
  refine xW.newI (N := 8) dX10_init_70 ac_int rfl rfl (Nat.le_of_ble_eq_true rfl) (fun _ => rfl) (by decide) (x_raw_b (x_raw_P (x_raw_mono (n' := 71) (x_raw_P (x_raw_mono (n' := 70) (x_raw_M (x_raw_M (x_raw_P (x_raw_mono (n' := 69) (x_raw_P (x_raw_mono (n' := 68) (x_raw_P (x_raw_mono (n' := 67) (x_raw_P (x_raw_mono (n' := 66) hr (by decide)) (by decide)) (by decide)) (by decide)) (by decide)) (by decide)) (by decide)) (by decide)) (by decide)) (by decide)) (by decide)) (by decide)) (by decide)) (by decide)) (by decide) (by decide)) ⟨Nat.le_of_ble_eq_true rfl, Nat.le_of_ble_eq_true rfl⟩ ?_
  show xW Y_X10_init (some 0) (d + 1) 17 11600 72 [(0, vR (some 64))] [vR (some 71), vR (some 64)] _ _ _
  refine xW.putR true dX10_init_72 fk_X10_35 (fun _ => ⟨rfl, fun _ _ _ w => (by cases w; rfl)⟩) rfl (by decide) rfl ?_
  show xW Y_X10_init (some 0) (d + 1) 17 11600 75 [(0, vR (some 64))] [] _ _ _
  refine xW.aload_n dX10_init_75 0 rfl ?_
  refine xW.sipush dX10_init_76 (by unfold inR; omega) rfl ?_
  refine xW.newJ (N := 330) dX10_init_79 ac_long rfl rfl (Nat.le_of_ble_eq_true rfl) (fun _ => rfl) (by decide) (x_raw_b (x_raw_P (x_raw_mono (n' := 72) (x_raw_P (x_raw_mono (n' := 71) (x_raw_P (x_raw_mono (n' := 70) (x_raw_M (x_raw_M (x_raw_P (x_raw_mono (n' := 69) (x_raw_P (x_raw_mono (n' := 68) (x_raw_P (x_raw_mono (n' := 67) (x_raw_P (x_raw_mono (n' := 66) hr (by decide)) (by decide)) (by decide)) (by decide)) (by decide)) (by decide)) (by decide)) (by decide)) (by decide)) (by decide)) (by decide)) (by decide)) (by decide)) (by decide)) (by decide)) (by decide)) (by decide) (by decide)) ⟨Nat.le_of_ble_eq_true rfl, Nat.le_of_ble_eq_true rfl⟩ ?_
  show xW Y_X10_init (some 0) (d + 1) 17 11600 81 [(0, vR (some 64))] [vR (some 72), vR (some 64)] _ _ _
  refine xW.putR true dX10_init_81 fk_X10_38 (fun _ => ⟨rfl, fun _ _ _ w => (by cases w; rfl)⟩) rfl (by decide) rfl ?_
  show xW Y_X10_init (some 0) (d + 1) 17 11600 84 [(0, vR (some 64))] [] _ _ _
  refine xW.aload_n dX10_init_84 0 rfl ?_
  refine xW.sipush dX10_init_85 (by unfold inR; omega) rfl ?_
  refine xW.newZ (N := 330) dX10_init_88 ac_boolean rfl rfl (Nat.le_of_ble_eq_true rfl) (fun _ => rfl) (by decide) (x_raw_b (x_raw_P (x_raw_mono (n' := 73) (x_raw_P (x_raw_mono (n' := 72) (x_raw_P (x_raw_mono (n' := 71) (x_raw_P (x_raw_mono (n' := 70) (x_raw_M (x_raw_M (x_raw_P (x_raw_mono (n' := 69) (x_raw_P (x_raw_mono (n' := 68) (x_raw_P (x_raw_mono (n' := 67) (x_raw_P (x_raw_mono (n' := 66) hr (by decide)) (by decide)) (by decide)) (by decide)) (by decide)) (by decide)) (by decide)) (by decide)) (by decide)) (by decide)) (by decide)) (by decide)) (by decide)) (by decide)) (by decide)) (by decide)) (by decide)) (by decide)) (by decide) (by decide)) ⟨Nat.le_of_ble_eq_true rfl, Nat.le_of_ble_eq_true rfl⟩ ?_
  show xW Y_X10_init (some 0) (d + 1) 17 11600 90 [(0, vR (some 64))] [vR (some 73), vR (some 64)] _ _ _
  refine xW.putR true dX10_init_90 fk_X10_42 (fun _ => ⟨rfl, fun _ _ _ w => (by cases w; rfl)⟩) rfl (by decide) rfl ?_
  show xW Y_X10_init (some 0) (d + 1) 17 11600 93 [(0, vR (some 64))] [] _ _ _
  refine xW.aload_n dX10_init_93 0 rfl ?_
  refine xW.bipush dX10_init_94 (by unfold inR; omega) rfl ?_
  refine xW.newI (N := 100) dX10_init_96 ac_int rfl rfl (Nat.le_of_ble_eq_true rfl) (fun _ => rfl) (by decide) (x_raw_b (x_raw_P (x_raw_mono (n' := 74) (x_raw_P (x_raw_mono (n' := 73) (x_raw_P (x_raw_mono (n' := 72) (x_raw_P (x_raw_mono (n' := 71) (x_raw_P (x_raw_mono (n' := 70) (x_raw_M (x_raw_M (x_raw_P (x_raw_mono (n' := 69) (x_raw_P (x_raw_mono (n' := 68) (x_raw_P (x_raw_mono (n' := 67) (x_raw_P (x_raw_mono (n' := 66) hr (by decide)) (by decide)) (by decide)) (by decide)) (by decide)) (by decide)) (by decide)) (by decide)) (by decide)) (by decide)) (by decide)) (by decide)) (by decide)) (by decide)) (by decide)) (by decide)) (by decide)) (by decide)) (by decide)) (by decide)) (by decide) (by decide)) ⟨Nat.le_of_ble_eq_true rfl, Nat.le_of_ble_eq_true rfl⟩ ?_
  show xW Y_X10_init (some 0) (d + 1) 17 11600 98 [(0, vR (some 64))] [vR (some 74), vR (some 64)] _ _ _
  refine xW.putR true dX10_init_98 fk_X10_46 (fun _ => ⟨rfl, fun _ _ _ w => (by cases w; rfl)⟩) rfl (by decide) rfl ?_
  show xW Y_X10_init (some 0) (d + 1) 17 11600 101 [(0, vR (some 64))] [] _ _ _
  refine xW.aload_n dX10_init_101 0 rfl ?_
  refine xW.bipush dX10_init_102 (by unfold inR; omega) rfl ?_
  refine xW.newI (N := 100) dX10_init_104 ac_int rfl rfl (Nat.le_of_ble_eq_true rfl) (fun _ => rfl) (by decide) (x_raw_b (x_raw_P (x_raw_mono (n' := 75) (x_raw_P (x_raw_mono (n' := 74) (x_raw_P (x_raw_mono (n' := 73) (x_raw_P (x_raw_mono (n' := 72) (x_raw_P (x_raw_mono (n' := 71) (x_raw_P (x_raw_mono (n' := 70) (x_raw_M (x_raw_M (x_raw_P (x_raw_mono (n' := 69) (x_raw_P (x_raw_mono (n' := 68) (x_raw_P (x_raw_mono (n' := 67) (x_raw_P (x_raw_mono (n' := 66) hr (by decide)) (by decide)) (by decide)) (by decide)) (by decide)) (by decide)) (by decide)) (by decide)) (by decide)) (by decide)) (by decide)) (by decide)) (by decide)) (by decide)) (by decide)) (by decide)) (by decide)) (by decide)) (by decide)) (by decide)) (by decide)) (by decide)) (by decide) (by decide)) ⟨Nat.le_of_ble_eq_true rfl, Nat.le_of_ble_eq_true rfl⟩ ?_
  show xW Y_X10_init (some 0) (d + 1) 17 11600 106 [(0, vR (some 64))] [vR (some 75), vR (some 64)] _ _ _
  refine xW.putR true dX10_init_106 fk_X10_49 (fun _ => ⟨rfl, fun _ _ _ w => (by cases w; rfl)⟩) rfl (by decide) rfl ?_
  show xW Y_X10_init (some 0) (d + 1) 17 11600 109 [(0, vR (some 64))] [] _ _ _
  refine xW.aload_n dX10_init_109 0 rfl ?_
  refine xW.bipush dX10_init_110 (by unfold inR; omega) rfl ?_
  refine xW.newI (N := 100) dX10_init_112 ac_int rfl rfl (Nat.le_of_ble_eq_true rfl) (fun _ => rfl) (by decide) (x_raw_b (x_raw_P (x_raw_mono (n' := 76) (x_raw_P (x_raw_mono (n' := 75) (x_raw_P (x_raw_mono (n' := 74) (x_raw_P (x_raw_mono (n' := 73) (x_raw_P (x_raw_mono (n' := 72) (x_raw_P (x_raw_mono (n' := 71) (x_raw_P (x_raw_mono (n' := 70) (x_raw_M (x_raw_M (x_raw_P (x_raw_mono (n' := 69) (x_raw_P (x_raw_mono (n' := 68) (x_raw_P (x_raw_mono (n' := 67) (x_raw_P (x_raw_mono (n' := 66) hr (by decide)) (by decide)) (by decide)) (by decide)) (by decide)) (by decide)) (by decide)) (by decide)) (by decide)) (by decide)) (by decide)) (by decide)) (by decide)) (by decide)) (by decide)) (by decide)) (by decide)) (by decide)) (by decide)) (by decide)) (by decide)) (by decide)) (by decide)) (by decide)) (by decide) (by decide)) ⟨Nat.le_of_ble_eq_true rfl, Nat.le_of_ble_eq_true rfl⟩ ?_
  show xW Y_X10_init (some 0) (d + 1) 17 11600 114 [(0, vR (some 64))] [vR (some 76), vR (some 64)] _ _ _
  refine xW.putR true dX10_init_114 fk_X10_52 (fun _ => ⟨rfl, fun _ _ _ w => (by cases w; rfl)⟩) rfl (by decide) rfl ?_
  show xW Y_X10_init (some 0) (d + 1) 17 11600 117 [(0, vR (some 64))] [] _ _ _
  refine xW.aload_n dX10_init_117 0 rfl ?_
  refine xW.bipush dX10_init_118 (by unfold inR; omega) rfl ?_
  refine xW.newI (N := 13) dX10_init_120 ac_int rfl rfl (Nat.le_of_ble_eq_true rfl) (fun _ => rfl) (by decide) (x_raw_b (x_raw_P (x_raw_mono (n' := 77) (x_raw_P (x_raw_mono (n' := 76) (x_raw_P (x_raw_mono (n' := 75) (x_raw_P (x_raw_mono (n' := 74) (x_raw_P (x_raw_mono (n' := 73) (x_raw_P (x_raw_mono (n' := 72) (x_raw_P (x_raw_mono (n' := 71) (x_raw_P (x_raw_mono (n' := 70) (x_raw_M (x_raw_M (x_raw_P (x_raw_mono (n' := 69) (x_raw_P (x_raw_mono (n' := 68) (x_raw_P (x_raw_mono (n' := 67) (x_raw_P (x_raw_mono (n' := 66) hr (by decide)) (by decide)) (by decide)) (by decide)) (by decide)) (by decide)) (by decide)) (by decide)) (by decide)) (by decide)) (by decide)) (by decide)) (by decide)) (by decide)) (by decide)) (by decide)) (by decide)) (by decide)) (by decide)) (by decide)) (by decide)) (by decide)) (by decide)) (by decide)) (by decide)) (by decide)) (by decide) (by decide)) ⟨Nat.le_of_ble_eq_true rfl, Nat.le_of_ble_eq_true rfl⟩ ?_
  show xW Y_X10_init (some 0) (d + 1) 17 11600 122 [(0, vR (some 64))] [vR (some 77), vR (some 64)] _ _ _
  refine xW.putR true dX10_init_122 fk_X10_55 (fun _ => ⟨rfl, fun _ _ _ w => (by cases w; rfl)⟩) rfl (by decide) rfl ?_
  show xW Y_X10_init (some 0) (d + 1) 17 11600 125 [(0, vR (some 64))] [] _ _ _
  refine xW.aload_n dX10_init_125 0 rfl ?_
  refine xW.bipush dX10_init_126 (by unfold inR; omega) rfl ?_
  refine xW.newI (N := 28) dX10_init_128 ac_int rfl rfl (Nat.le_of_ble_eq_true rfl) (fun _ => rfl) (by decide) (x_raw_b (x_raw_P (x_raw_mono (n' := 78) (x_raw_P (x_raw_mono (n' := 77) (x_raw_P (x_raw_mono (n' := 76) (x_raw_P (x_raw_mono (n' := 75) (x_raw_P (x_raw_mono (n' := 74) (x_raw_P (x_raw_mono (n' := 73) (x_raw_P (x_raw_mono (n' := 72) (x_raw_P (x_raw_mono (n' := 71) (x_raw_P (x_raw_mono (n' := 70) (x_raw_M (x_raw_M (x_raw_P (x_raw_mono (n' := 69) (x_raw_P (x_raw_mono (n' := 68) (x_raw_P (x_raw_mono (n' := 67) (x_raw_P (x_raw_mono (n' := 66) hr (by decide)) (by decide)) (by decide)) (by decide)) (by decide)) (by decide)) (by decide)) (by decide)) (by decide)) (by decide)) (by decide)) (by decide)) (by decide)) (by decide)) (by decide)) (by decide)) (by decide)) (by decide)) (by decide)) (by decide)) (by decide)) (by decide)) (by decide)) (by decide)) (by decide)) (by decide)) (by decide)) (by decide)) (by decide) (by decide)) ⟨Nat.le_of_ble_eq_true rfl, Nat.le_of_ble_eq_true rfl⟩ ?_
  show xW Y_X10_init (some 0) (d + 1) 17 11600 130 [(0, vR (some 64))] [vR (some 78), vR (some 64)] _ _ _
  refine xW.putR true dX10_init_130 fk_X10_58 (fun _ => ⟨rfl, fun _ _ _ w => (by cases w; rfl)⟩) rfl (by decide) rfl ?_
  show xW Y_X10_init (some 0) (d + 1) 17 11600 133 [(0, vR (some 64))] [] _ _ _
  refine xW.aload_n dX10_init_133 0 rfl ?_
  refine xW.bipush dX10_init_134 (by unfold inR; omega) rfl ?_
  refine xW.newI (N := 8) dX10_init_136 ac_int rfl rfl (Nat.le_of_ble_eq_true rfl) (fun _ => rfl) (by decide) (x_raw_b (x_raw_P (x_raw_mono (n' := 79) (x_raw_P (x_raw_mono (n' := 78) (x_raw_P (x_raw_mono (n' := 77) (x_raw_P (x_raw_mono (n' := 76) (x_raw_P (x_raw_mono (n' := 75) (x_raw_P (x_raw_mono (n' := 74) (x_raw_P (x_raw_mono (n' := 73) (x_raw_P (x_raw_mono (n' := 72) (x_raw_P (x_raw_mono (n' := 71) (x_raw_P (x_raw_mono (n' := 70) (x_raw_M (x_raw_M (x_raw_P (x_raw_mono (n' := 69) (x_raw_P (x_raw_mono (n' := 68) (x_raw_P (x_raw_mono (n' := 67) (x_raw_P (x_raw_mono (n' := 66) hr (by decide)) (by decide)) (by decide)) (by decide)) (by decide)) (by decide)) (by decide)) (by decide)) (by decide)) (by decide)) (by decide)) (by decide)) (by decide)) (by decide)) (by decide)) (by decide)) (by decide)) (by decide)) (by decide)) (by decide)) (by decide)) (by decide)) (by decide)) (by decide)) (by decide)) (by decide)) (by decide)) (by decide)) (by decide)) (by decide)) (by decide) (by decide)) ⟨Nat.le_of_ble_eq_true rfl, Nat.le_of_ble_eq_true rfl⟩ ?_
  show xW Y_X10_init (some 0) (d + 1) 17 11600 138 [(0, vR (some 64))] [vR (some 79), vR (some 64)] _ _ _
  refine xW.putR true dX10_init_138 fk_X10_61 (fun _ => ⟨rfl, fun _ _ _ w => (by cases w; rfl)⟩) rfl (by decide) rfl ?_
  show xW Y_X10_init (some 0) (d + 1) 17 11600 141 [(0, vR (some 64))] [] _ _ _
  refine xW.aload_n dX10_init_141 0 rfl ?_
  refine xW.iconst dX10_init_142 (by unfold inR; omega) ?_
  refine xW.newI (N := 5) dX10_init_143 ac_int rfl rfl (Nat.le_of_ble_eq_true rfl) (fun _ => rfl) (by decide) (x_raw_b (x_raw_P (x_raw_mono (n' := 80) (x_raw_P (x_raw_mono (n' := 79) (x_raw_P (x_raw_mono (n' := 78) (x_raw_P (x_raw_mono (n' := 77) (x_raw_P (x_raw_mono (n' := 76) (x_raw_P (x_raw_mono (n' := 75) (x_raw_P (x_raw_mono (n' := 74) (x_raw_P (x_raw_mono (n' := 73) (x_raw_P (x_raw_mono (n' := 72) (x_raw_P (x_raw_mono (n' := 71) (x_raw_P (x_raw_mono (n' := 70) (x_raw_M (x_raw_M (x_raw_P (x_raw_mono (n' := 69) (x_raw_P (x_raw_mono (n' := 68) (x_raw_P (x_raw_mono (n' := 67) (x_raw_P (x_raw_mono (n' := 66) hr (by decide)) (by decide)) (by decide)) (by decide)) (by decide)) (by decide)) (by decide)) (by decide)) (by decide)) (by decide)) (by decide)) (by decide)) (by decide)) (by decide)) (by decide)) (by decide)) (by decide)) (by decide)) (by decide)) (by decide)) (by decide)) (by decide)) (by decide)) (by decide)) (by decide)) (by decide)) (by decide)) (by decide)) (by decide)) (by decide)) (by decide)) (by decide)) (by decide) (by decide)) ⟨Nat.le_of_ble_eq_true rfl, Nat.le_of_ble_eq_true rfl⟩ ?_
  show xW Y_X10_init (some 0) (d + 1) 17 11600 145 [(0, vR (some 64))] [vR (some 80), vR (some 64)] _ _ _
  refine xW.putR true dX10_init_145 fk_X10_64 (fun _ => ⟨rfl, fun _ _ _ w => (by cases w; rfl)⟩) rfl (by decide) rfl ?_
  show xW Y_X10_init (some 0) (d + 1) 17 11600 148 [(0, vR (some 64))] [] _ _ _
  refine xW.aload_n dX10_init_148 0 rfl ?_
  refine xW.iconst dX10_init_149 (by unfold inR; omega) ?_
  refine xW.newI (N := 5) dX10_init_150 ac_int rfl rfl (Nat.le_of_ble_eq_true rfl) (fun _ => rfl) (by decide) (x_raw_b (x_raw_P (x_raw_mono (n' := 81) (x_raw_P (x_raw_mono (n' := 80) (x_raw_P (x_raw_mono (n' := 79) (x_raw_P (x_raw_mono (n' := 78) (x_raw_P (x_raw_mono (n' := 77) (x_raw_P (x_raw_mono (n' := 76) (x_raw_P (x_raw_mono (n' := 75) (x_raw_P (x_raw_mono (n' := 74) (x_raw_P (x_raw_mono (n' := 73) (x_raw_P (x_raw_mono (n' := 72) (x_raw_P (x_raw_mono (n' := 71) (x_raw_P (x_raw_mono (n' := 70) (x_raw_M (x_raw_M (x_raw_P (x_raw_mono (n' := 69) (x_raw_P (x_raw_mono (n' := 68) (x_raw_P (x_raw_mono (n' := 67) (x_raw_P (x_raw_mono (n' := 66) hr (by decide)) (by decide)) (by decide)) (by decide)) (by decide)) (by decide)) (by decide)) (by decide)) (by decide)) (by decide)) (by decide)) (by decide)) (by decide)) (by decide)) (by decide)) (by decide)) (by decide)) (by decide)) (by decide)) (by decide)) (by decide)) (by decide)) (by decide)) (by decide)) (by decide)) (by decide)) (by decide)) (by decide)) (by decide)) (by decide)) (by decide)) (by decide)) (by decide)) (by decide)) (by decide) (by decide)) ⟨Nat.le_of_ble_eq_true rfl, Nat.le_of_ble_eq_true rfl⟩ ?_
  show xW Y_X10_init (some 0) (d + 1) 17 11600 152 [(0, vR (some 64))] [vR (some 81), vR (some 64)] _ _ _
  refine xW.putR true dX10_init_152 fk_X10_67 (fun _ => ⟨rfl, fun _ _ _ w => (by cases w; rfl)⟩) rfl (by decide) rfl ?_
  show xW Y_X10_init (some 0) (d + 1) 17 11600 155 [(0, vR (some 64))] [] _ _ _
  refine xW.aload_n dX10_init_155 0 rfl ?_
  refine xW.getR (o := some 65) dX10_init_156 fk_X10_7 rfl (by decide) rfl (by simp [x_updP]) ?_
  show xW Y_X10_init (some 0) (d + 1) 17 11600 159 [(0, vR (some 64))] [vR (some 65)] _ _ _
  refine xW.bipush dX10_init_159 (by unfold inR; omega) rfl ?_
  refine xW.bipush dX10_init_161 (by unfold inR; omega) rfl ?_
  refine xW.iast dX10_init_163 rfl (by decide) (by decide) (by decide) ?_
  show xW Y_X10_init (some 0) (d + 1) 17 11600 164 [(0, vR (some 64))] [] _ _ _
  refine xW.aload_n dX10_init_164 0 rfl ?_
  refine xW.getR (o := some 65) dX10_init_165 fk_X10_7 rfl (by decide) rfl (by simp [x_updP]) ?_
  show xW Y_X10_init (some 0) (d + 1) 17 11600 168 [(0, vR (some 64))] [vR (some 65)] _ _ _
  refine xW.iconst dX10_init_168 (by unfold inR; omega) ?_
  refine xW.iconst dX10_init_169 (by unfold inR; omega) ?_
  refine xW.iast dX10_init_170 rfl (by decide) (by decide) (by decide) ?_
  show xW Y_X10_init (some 0) (d + 1) 17 11600 171 [(0, vR (some 64))] [] _ _ _
  refine xW.aload_n dX10_init_171 0 rfl ?_
  refine xW.getR (o := some 65) dX10_init_172 fk_X10_7 rfl (by decide) rfl (by simp [x_updP]) ?_
  show xW Y_X10_init (some 0) (d + 1) 17 11600 175 [(0, vR (some 64))] [vR (some 65)] _ _ _
  refine xW.bipush dX10_init_175 (by unfold inR; omega) rfl ?_
  refine xW.iconst dX10_init_177 (by unfold inR; omega) ?_
  refine xW.iast dX10_init_178 rfl (by decide) (by decide) (by decide) ?_
  show xW Y_X10_init (some 0) (d + 1) 17 11600 179 [(0, vR (some 64))] [] _ _ _
  refine xW.aload_n dX10_init_179 0 rfl ?_
  refine xW.getR (o := some 65) dX10_init_180 fk_X10_7 rfl (by decide) rfl (by simp [x_updP]) ?_
  show xW Y_X10_init (some 0) (d + 1) 17 11600 183 [(0, vR (some 64))] [vR (some 65)] _ _ _
  refine xW.bipush dX10_init_183 (by unfold inR; omega) rfl ?_
  refine xW.iconst dX10_init_185 (by unfold inR; omega) ?_
  refine xW.iast dX10_init_186 rfl (by decide) (by decide) (by decide) ?_
  show xW Y_X10_init (some 0) (d + 1) 17 11600 187 [(0, vR (some 64))] [] _ _ _
  refine xW.aload_n dX10_init_187 0 rfl ?_
  refine xW.getR (o := some 65) dX10_init_188 fk_X10_7 rfl (by decide) rfl (by simp [x_updP]) ?_
  show xW Y_X10_init (some 0) (d + 1) 17 11600 191 [(0, vR (some 64))] [vR (some 65)] _ _ _
  refine xW.aload_n dX10_init_191 0 rfl ?_
  refine xW.getR (o := some 66) dX10_init_192 fk_X10_13 rfl (by decide) rfl (by simp [x_updP]) ?_
  show xW Y_X10_init (some 0) (d + 1) 17 11600 195 [(0, vR (some 64))] [vR (some 66), vR (some 65)] _ _ _
  refine xW.callSV (F := fun M1 => M1 = x_blk (mModel M) 66 0 3642 (fun j => mModel M 65 j)) [vR (some 65), vR (some 66)] [] dX10_init_195 ms_X10_70 rfl rfl (by decide) ⟨Nat.le_of_ble_eq_true rfl, Nat.le_of_ble_eq_true rfl⟩ (c_X10_copy (by decide) hPP ⟨rfl, rfl, by decide⟩ ⟨rfl, rfl, by decide⟩ (by decide) rfl) (fun M1 e1 => ?_)
  subst e1
  show xW Y_X10_init (some 0) (d + 1) 17 11600 198 [(0, vR (some 64))] [] _ _ _
  exact xW.vret dX10_init_198 rfl ⟨Nat.le_of_ble_eq_true rfl, Nat.le_of_ble_eq_true rfl⟩ k
