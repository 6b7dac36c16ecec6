/-! THE CLAIM OUT OF ONE WALK OF THE LAW'S BODY. Your part is whole_start (and what it stands on); all else here is the same for every law, but numbers. -/
def R_law : String := "VaneCourtLaw"
def lw_P (b : Addr) (xs : List Int32) (args : Array Value) (s : State) : Prop := args = #[.ref b] ∧ s.IntsAt b xs ∧ xs.length ≤ 3072 ∧ (Jvm.Cond.and given_1 narrow_1).before args s = true
def lw_Q (_ : Array Value) (s : State) (o : Outcome) (t : State) : Prop := o = .returned (some (.int 1)) ∧ Framed s o t [] 600000 7302249
def lw_Z (below : List Frame) (a : Array Value) (s : State) : State → Prop := fun t => ∃ o, t.status = .running ∧ Ended t below o ∧ lw_Q a s o t
/-- the law's own end, with 1 on the stack, nothing written that was there before, its room as the claim has it -/
theorem lw_ret {p : Program} {l : Launch} {e : Env} {s : State} {m : MethodId} {below : List Frame} {meth : Method} {c : Code} {b : Nat} (hx : p.tables.exec = Jvm.exec) (hb : c.code = code) (hr : meth.sig.returnType = ret) (hlocks : meth.locks = false) {pc : Nat} {H : Heap} {ls : Array Slot} (hdg : decode code pc = .ok (.ireturn, 1)) : W p l e room_1 s m #[Value.ref b] below meth c H [] 600000 7302249 (lw_Z below #[Value.ref b] s) (F0 m pc ls [.int 1]) := by
  intro T hT X
  obtain ⟨fs, hret, hrun, hended, hW, hframe⟩ := X.leave (v := some (.int 1)) (hlocks := hlocks) (fun h => by rw [hr] at h; cases h)
  have hmeth' : T.vm.method? m = some meth := X.method'
  refine ⟨T.setFrames fs, ?_, .returned (some (.int 1)), hrun, hended, rfl, ⟨_, rfl⟩, hW, hframe⟩
  jvm_step X.here [X.here.top, hx, hb, hdg, hmeth', hr, ret, narrow_b1]
  (try refine ⟨rfl, ?_⟩); (try refine ⟨rfl, ?_⟩)
  first | (intro acts; rw [hret _ acts rfl rfl rfl]) | rw [hret _ _ rfl rfl rfl]
  exact Steps.refl _
def lw_At (p : Program) (s : State) (m : MethodId) (meth : Method) (c : Code) (b L : Nat) (xs : Nat → Int32) : Prop :=
  p.tables.exec = Jvm.exec ∧ c.code = code ∧ meth.sig.returnType = ret ∧ c.maxLocals = 4 ∧ s.vm.findClass R_law = some m.cls ∧ (∀ w ∈ lw_tbl, w.before #[Value.ref b] s = true) ∧ va_X b L xs s s.heap ∧ b < s.heap.size ∧ meth.locks = false ∧ (Jvm.Cond.and given_1 narrow_1).before #[Value.ref b] s = true ∧ (Jvm.Cond.code x code maxLocals ret).before #[Value.ref b] s = true ∧ meth.name = x.name
def lawTs : List Nat := [216, 269, 332, 355, 368, 391, 414, 437, 450, 473, 506, 519, 542, 565, 598, 611, 644, 667, 700, 733, 786, 845, 868, 908, 931, 954, 1029, 1062, 1121, 1134, 1147, 1160, 1209, 1232, 1255, 1268, 1301, 1350, 1373, 1406, 1419, 1432]
section Loop
variable {p : Program} {l : Launch} {e : Env} {s : State} {m : MethodId} {below : List Frame} {meth : Method} {c : Code} {b Ln : Nat} {xs : Nat → Int32} {G : xG} {g : Option Nat} {h : xH} {H : Heap} {locs : List Loc} {ls : Array Slot} {cells slots : Nat} {QQ : State → Prop} {i : Int} {P : xP} {M : xM} {st : List Value}
theorem lawTable {z : Int} (hz : inR z) (C : x_C YL g G p s m #[Value.ref b] meth c H locs h) (kd : W p l e room_1 s m #[Value.ref b] below meth c H locs cells slots QQ (F0 m 1455 ls st)) (kt : ∀ t ∈ lawTs, W p l e room_1 s m #[Value.ref b] below meth c H locs cells slots QQ (F0 m t ls st)) : W p l e room_1 s m #[Value.ref b] below meth c H locs cells slots QQ (F0 m 33 ls (.int (Int32.ofInt z) :: st)) := by
  by_cases ho : z < 0 ∨ 41 < z
  · exact lv_tableOut (cc := code) (x := Int32.ofInt z) (tgt := 1455) C.2.1.1 C.2.1.2.1 dL_law_33 (by rw [x_inR hz]; exact ho) (by decide) kd
  · have hi2 : z.toNat < lawTs.length := by show z.toNat < 42; omega
    have h2 : (#[183, 236, 299, 322, 335, 358, 381, 404, 417, 440, 473, 486, 509, 532, 565, 578, 611, 634, 667, 700, 753, 812, 835, 875, 898, 921, 996, 1029, 1088, 1101, 1114, 1127, 1176, 1199, 1222, 1235, 1268, 1317, 1340, 1373, 1386, 1399] : Array Int).toList.map (fun o : Int => ((33 : Nat) : Int) + o) = lawTs.map (fun t : Nat => (t : Int)) := by decide
    have e2 := congrArg (fun q : List Int => q[z.toNat]?) h2
    simp only [List.getElem?_map] at e2
    rw [List.getElem?_eq_getElem hi2] at e2
    cases h4 : (#[183, 236, 299, 322, 335, 358, 381, 404, 417, 440, 473, 486, 509, 532, 565, 578, 611, 634, 667, 700, 753, 812, 835, 875, 898, 921, 996, 1029, 1088, 1101, 1114, 1127, 1176, 1199, 1222, 1235, 1268, 1317, 1340, 1373, 1386, 1399] : Array Int).toList[z.toNat]? with
    | none => rw [h4] at e2; cases e2
    | some o =>
      rw [h4] at e2
      have e3 : ((33 : Nat) : Int) + o = ((lawTs[z.toNat]) : Int) := Option.some.inj e2
      exact lv_tableIn (cc := code) (x := Int32.ofInt z) (off := o) C.2.1.1 C.2.1.2.1 dL_law_33 (by rw [x_inR hz]; omega) (by rw [x_inR hz]; omega) (by rw [x_inR hz, ← Array.getElem?_toList, Int.sub_zero]; exact h4) e3 (kt _ (List.getElem_mem hi2))
theorem nat_i32 {n : Nat} (h : n ≤ 3072) : Int32.ofNat n = Int32.ofInt (n : Int) := by
  first
    | rfl
    | exact (Int32.ofInt_eq_ofNat).symm
    | simp
theorem law_loop : ∀ (q : Nat) (i : Int) (G : xG) (H : Heap) (locs : List Loc) (ls : Array Slot) (P : xP) (M : xM) (cells slots : Nat), (Ln : Int) - i < q → 0 ≤ i → 6 * (cells : Int) ≤ 600 + i → 6 * (slots : Int) ≤ 180000 + 8 * i → LX s b Ln xs G → LL G b ls i → x_C YL none G p s m #[Value.ref b] meth c H locs (82, P, M) → x_PP P → Rel M → i ≤ 3078 →
    W p l e room_1 s m #[Value.ref b] below meth c H locs cells slots (lw_Z below #[Value.ref b] s) (F0 m 18 ls []) := by
  intro q
  induction q with
  | zero =>
    intro i G H locs ls P M cells slots hq h0 hc hs X hl C hP hR h78
    have hL := X.2.2.2
    refine lv_iload_n (cc := code) C.2.1.1 C.2.1.2.1 dL_law_18 rfl (lv_at hl 3 rfl) ?_
    refine lv_aload_n (cc := code) C.2.1.1 C.2.1.2.1 dL_law_19 rfl (lv_at hl 0 rfl) ?_
    refine va_slen (cc := code) (A := x_A G) C.2.1.1 C.2.1.2.1 X.1 X.2.1 (show ¬ G.2.2.1 ≤ b by rw [X.2.2.1]; exact Nat.not_le.mpr X.2.1) C.2.2.2.2.2.1 dL_law_20 ?_
    refine lv_bipush (cc := code) (v := Int32.ofInt 6) C.2.1.1 C.2.1.2.1 dL_law_21 rfl ?_
    refine lv_isub (cc := code) (x := Int32.ofNat Ln) (y := Int32.ofInt 6) C.2.1.1 C.2.1.2.1 dL_law_23 ?_
    rw [nat_i32 hL, ← Int32.ofInt_sub]
    refine lv_icmp_gt (cc := code) (x := Int32.ofInt i) (y := Int32.ofInt ((Ln : Int) - 6)) (tgt := 1461) C.2.1.1 C.2.1.2.1 dL_law_24 (by decide) (fun _ => ?_) (fun w => absurd ((x_lt (by unfold inR; omega) (by unfold inR; omega)).mpr (by omega)) w)
    refine lv_iconst (cc := code) (v := 1) C.2.1.1 C.2.1.2.1 dL_law_1461 rfl ?_
    refine va_forget (fun q hq => by have := C.2.2.2.2.2.1.2.2 q hq; rw [← X.2.2.1]; exact this) ?_
    refine W.widen (k := 600000) (n := 7302249) (by omega) (by omega) ?_
    exact lw_ret C.2.1.1 C.2.1.2.1 C.2.1.2.2.2.1 C.2.1.2.2.2.2.1 dL_law_1462
  | succ q ih =>
    intro i G H locs ls P M cells slots hq h0 hcb hsb X hl C hP hR h78
    have hL := X.2.2.2
    have hbA : ¬ G.2.2.1 ≤ b := by rw [X.2.2.1]; exact Nat.not_le.mpr X.2.1
    refine lv_iload_n (cc := code) C.2.1.1 C.2.1.2.1 dL_law_18 rfl (lv_at hl 3 rfl) ?_
    refine lv_aload_n (cc := code) C.2.1.1 C.2.1.2.1 dL_law_19 rfl (lv_at hl 0 rfl) ?_
    refine va_slen (cc := code) (A := x_A G) C.2.1.1 C.2.1.2.1 X.1 X.2.1 hbA C.2.2.2.2.2.1 dL_law_20 ?_
    refine lv_bipush (cc := code) (v := Int32.ofInt 6) C.2.1.1 C.2.1.2.1 dL_law_21 rfl ?_
    refine lv_isub (cc := code) (x := Int32.ofNat Ln) (y := Int32.ofInt 6) C.2.1.1 C.2.1.2.1 dL_law_23 ?_
    rw [nat_i32 hL, ← Int32.ofInt_sub]
    refine lv_icmp_gt (cc := code) (x := Int32.ofInt i) (y := Int32.ofInt ((Ln : Int) - 6)) (tgt := 1461) C.2.1.1 C.2.1.2.1 dL_law_24 (by decide) (fun _ => ?_) (fun w => ?_)
    · refine lv_iconst (cc := code) (v := 1) C.2.1.1 C.2.1.2.1 dL_law_1461 rfl ?_
      refine va_forget (fun q hq => by have := C.2.2.2.2.2.1.2.2 q hq; rw [← X.2.2.1]; exact this) ?_
      refine W.widen (k := 600000) (n := 7302249) (by omega) (by omega) ?_
      exact lw_ret C.2.1.1 C.2.1.2.1 C.2.1.2.2.2.1 C.2.1.2.2.2.2.1 dL_law_1462
    · have hle : i + 6 ≤ (Ln : Int) := by
        by_cases z : (Ln : Int) - 6 < i
        · exact absurd ((x_lt (by unfold inR; omega) (by unfold inR; omega)).mpr z) w
        · omega
      have hi : 0 ≤ i ∧ i + 6 ≤ (Ln : Int) := ⟨h0, hle⟩
      have hc : cells ≤ 1000 ∧ slots ≤ 100000 := by omega
      have hri : inR i := by unfold inR; omega
      have fin : ∀ G' H' locs' P' M', LX s b Ln xs G' → LL G' b ls i → x_C YL none G' p s m #[Value.ref b] meth c H' locs' (82, P', M') → x_PP P' → Rel M' → W p l e room_1 s m #[Value.ref b] below meth c H' locs' (cells + 1) (slots + 8) (lw_Z below #[Value.ref b] s) (F0 m 1455 ls []) := fun G' H' locs' P' M' X' hl' C' hP' hR' => by
        refine lv_iinc (cc := code) (k := 3) (x := Int32.ofInt i) (v := Int32.ofInt (i + 6)) C'.2.1.1 C'.2.1.2.1 dL_law_1455 hl' rfl (Int32.ofInt_add i 6).symm (by decide) rfl (fun ls' hl2 => ?_)
        refine lv_goto (cc := code) (tgt := 18) C'.2.1.1 C'.2.1.2.1 dL_law_1458 (by decide) ?_
        exact ih (i + 6) G' H' locs' ls' P' M' (cells + 1) (slots + 8) (by omega) (by omega) (by omega) (by omega) X' (lv_sub hl2 [1, 2, 3, 0] rfl) C' hP' hR' (by omega)
      have kend : ∀ H' locs' M', x_C YL none G p s m #[Value.ref b] meth c H' locs' (82, P, M') → Rel M' → W p l e room_1 s m #[Value.ref b] below meth c H' locs' cells slots (lw_Z below #[Value.ref b] s) (F0 m 1455 ls []) := fun H' locs' M' C' R' => W.widen (k := cells + 1) (n := slots + 8) (by omega) (by omega) (fin G H' locs' P M' X hl C' hP R')
      refine lv_aload_n (cc := code) C.2.1.1 C.2.1.2.1 dL_law_27 rfl (lv_at hl 0 rfl) ?_
      refine lv_iload_n (cc := code) C.2.1.1 C.2.1.2.1 dL_law_28 rfl (lv_at hl 3 rfl) ?_
      refine va_sld (cc := code) (A := x_A G) (i := Int32.ofInt i) C.2.1.1 C.2.1.2.1 X.1 X.2.1 hbA C.2.2.2.2.2.1 (x_in hri (by omega) (by omega)) dL_law_29 ?_
      refine lv_bipush (cc := code) (v := Int32.ofInt 63) C.2.1.1 C.2.1.2.1 dL_law_30 rfl ?_
      refine lv_iand (cc := code) C.2.1.1 C.2.1.2.1 dL_law_32 ?_
      rw [← Int32.ofInt_toInt (xs (Int32.ofInt i).toNatClampNeg &&& Int32.ofInt 63)]
      refine lawTable (x_inR_of _) C (kend H locs M C hR) ?_
      show ∀ t ∈ lawTs, W p l e room_1 s m #[Value.ref b] below meth c H locs cells slots (lw_Z below #[Value.ref b] s) (F0 m t ls [])
      unfold lawTs
      exact List.forall_mem_cons.mpr ⟨law_newCase C X hl hi hP hR hc kend, List.forall_mem_cons.mpr ⟨law_feed C X hl hi hP hR hc kend, List.forall_mem_cons.mpr ⟨law_end C X hl hi hP hR hc kend, List.forall_mem_cons.mpr ⟨law_text C X hl hP hR hc fin, List.forall_mem_cons.mpr ⟨law_fault C X hl hi hP hR hc kend, List.forall_mem_cons.mpr ⟨law_by C X hl hi hP hR hc kend, List.forall_mem_cons.mpr ⟨law_call C X hl hi hP hR hc kend, List.forall_mem_cons.mpr ⟨law_delay C X hl hi hP hR hc kend, List.forall_mem_cons.mpr ⟨law_appeal C X hl hi hP hR hc kend, List.forall_mem_cons.mpr ⟨law_gust C X hl hi hP hR hc kend, List.forall_mem_cons.mpr ⟨law_withdraw C X hl hi hP hR hc kend, List.forall_mem_cons.mpr ⟨law_hour C X hl hi hP hR hc kend, List.forall_mem_cons.mpr ⟨law_played C X hl hi hP hR hc kend, List.forall_mem_cons.mpr ⟨law_decades C X hl hi hP hR hc kend, List.forall_mem_cons.mpr ⟨law_undo C X hl hi hP hR hc kend, List.forall_mem_cons.mpr ⟨law_ofCase C X hl hi hP hR hc kend, List.forall_mem_cons.mpr ⟨law_is C X hl hi hP hR hc kend, List.forall_mem_cons.mpr ⟨law_book C X hl hi hP hR hc kend, List.forall_mem_cons.mpr ⟨law_foretold C X hl hi hP hR hc kend, List.forall_mem_cons.mpr ⟨law_ends C X hl hi hP hR hc kend, List.forall_mem_cons.mpr ⟨law_best C X hl hi hP hR hc kend, List.forall_mem_cons.mpr ⟨law_harshest C X hl hi hP hR hc kend, List.forall_mem_cons.mpr ⟨law_odds C X hl hi hP hR hc kend, List.forall_mem_cons.mpr ⟨law_clash C X hl hi hP hR hc kend, List.forall_mem_cons.mpr ⟨law_leastFacts C X hl hi hP hR hc kend, List.forall_mem_cons.mpr ⟨law_game C X hl hi hP hR hc kend, List.forall_mem_cons.mpr ⟨law_session C X hl hi hP hR hc kend, List.forall_mem_cons.mpr ⟨law_record C X hl hi hP hR hc kend, List.forall_mem_cons.mpr ⟨law_turned C X hl hi hP hR hc kend, List.forall_mem_cons.mpr ⟨law_fewestWrong C X hl hi hP hR hc kend, List.forall_mem_cons.mpr ⟨law_whose C X hl hi hP hR hc kend, List.forall_mem_cons.mpr ⟨law_learn C X hl hi hP hR hc kend, List.forall_mem_cons.mpr ⟨law_codes C X hl hi hP hR hc kend, List.forall_mem_cons.mpr ⟨law_sure C X hl hi hP hR hc kend, List.forall_mem_cons.mpr ⟨law_toBring C X hl hi hP hR hc kend, List.forall_mem_cons.mpr ⟨law_counsel C X hl hi hP hR hc kend, List.forall_mem_cons.mpr ⟨law_hired C X hl hi hP hR hc kend, List.forall_mem_cons.mpr ⟨law_calm C X hl hi hP hR hc kend, List.forall_mem_cons.mpr ⟨law_standing C X hl hi hP hR hc kend, List.forall_mem_cons.mpr ⟨law_image C X hl hi hP hR hc kend, List.forall_mem_cons.mpr ⟨law_back C X hl hi hP hR hc kend, List.forall_mem_cons.mpr ⟨law_about C X hl hi hP hR hc kend, fun _ w => absurd w List.not_mem_nil⟩⟩⟩⟩⟩⟩⟩⟩⟩⟩⟩⟩⟩⟩⟩⟩⟩⟩⟩⟩⟩⟩⟩⟩⟩⟩⟩⟩⟩⟩⟩⟩⟩⟩⟩⟩⟩⟩⟩⟩⟩⟩
end Loop
