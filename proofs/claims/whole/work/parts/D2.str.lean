/-! the class's String: cell 1000; its bytes: cell 1001 -/
theorem vk_S_at {B : List Int32} {a v : Nat} {A : Nat → Prop} {U : State} {H : Heap} (h : vk_S 1 [B.length] [B] (fun _ => a) (fun _ => v) A U H) : va_T .byte v B.length (fun j => .int (B.getD j 0)) A U H := (h.1 0 (by decide)).2.2.2
section Str
variable {Y Y' : xY} {g : Option Nat} {d mc ms mc' ms' pc : Nat} {L : xL} {st rest As : List xV} {cs : Nat × Nat} {h : xH} {Q : xH → Option xV → Prop}
theorem x_ad1000 (G : xG) : x_ad G 1000 = G.2.2.2.2.1 := rfl
theorem x_ad1001 (G : xG) : x_ad G 1001 = G.2.2.2.2.2.1 := rfl
theorem x_ad1002 (G : xG) : x_ad G 1002 = G.2.2.2.2.2.2 := rfl
theorem fl_J0_9 : Cond.fieldLink RJ0 9 RJ0 "value" "[B" ∈ x_TBL := x_TBL_in (List.mem_append_right _ (mt_7 (List.mem_of_getElem? (i := 222) rfl))) rfl
theorem fl_J0_15 : Cond.fieldLink RJ0 15 RJ0 "coder" "B" ∈ x_TBL := x_TBL_in (List.mem_append_right _ (mt_7 (List.mem_of_getElem? (i := 223) rfl))) rfl
theorem fl_J0_38 : Cond.fieldLink RJ0 38 RJ0 "COMPACT_STRINGS" "Z" ∈ x_TBL := x_TBL_in (List.mem_append_right _ (mt_2 (List.mem_of_getElem? (i := 70) rfl))) rfl
theorem fl_J0_1053 : Cond.fieldLink RJ0 1053 RJ3 "SIOOBE_FORMATTER" "Ljava/util/function/BiFunction;" ∈ x_TBL := x_TBL_in (List.mem_append_right _ (mt_2 (List.mem_of_getElem? (i := 86) rfl))) rfl
theorem im_J0_length_8abf5 : Cond.instanceMethod Y_J0_length_8abf5.1 ∈ x_TBL := x_TBL_in (List.mem_append_right _ (mt_2 (List.mem_of_getElem? (i := 63) rfl))) rfl
theorem se_J0_length_8abf5 : Cond.selects Y_J0_length_8abf5.1.cls Y_J0_length_8abf5.1 Y_J0_length_8abf5.1 ∈ x_TBL := x_TBL_in (List.mem_append_right _ (mt_2 (List.mem_of_getElem? (i := 64) rfl))) rfl
theorem im_J0_charAt_5068e : Cond.instanceMethod Y_J0_charAt_5068e.1 ∈ x_TBL := x_TBL_in (List.mem_append_right _ (mt_2 (List.mem_of_getElem? (i := 73) rfl))) rfl
theorem se_J0_charAt_5068e : Cond.selects Y_J0_charAt_5068e.1.cls Y_J0_charAt_5068e.1 Y_J0_charAt_5068e.1 ∈ x_TBL := x_TBL_in (List.mem_append_right _ (mt_2 (List.mem_of_getElem? (i := 74) rfl))) rfl
theorem im_J0_coder_7d493 : Cond.instanceMethod Y_J0_coder_7d493.1 ∈ x_TBL := x_TBL_in (List.mem_append_right _ (mt_2 (List.mem_of_getElem? (i := 67) rfl))) rfl
theorem se_J0_coder_7d493 : Cond.selects Y_J0_coder_7d493.1.cls Y_J0_coder_7d493.1 Y_J0_coder_7d493.1 ∈ x_TBL := x_TBL_in (List.mem_append_right _ (mt_2 (List.mem_of_getElem? (i := 68) rfl))) rfl
theorem im_J0_isLatin1_aae02 : Cond.instanceMethod Y_J0_isLatin1_aae02.1 ∈ x_TBL := x_TBL_in (List.mem_append_right _ (mt_2 (List.mem_of_getElem? (i := 77) rfl))) rfl
theorem se_J0_isLatin1_aae02 : Cond.selects Y_J0_isLatin1_aae02.1.cls Y_J0_isLatin1_aae02.1 Y_J0_isLatin1_aae02.1 ∈ x_TBL := x_TBL_in (List.mem_append_right _ (mt_2 (List.mem_of_getElem? (i := 78) rfl))) rfl
theorem xW.ldcS (hY : Y.1.cls = RX6) (hd : decode Y.2.1 pc = .ok (.ldc 61, 2)) (k : xW Y g d mc ms (pc + 2) L (vR (some 1000) :: st) cs h Q) : xW Y g d mc ms pc L st cs h Q := by
  intro l G p e s m args below meth c H locs ls C S
  refine va_ldcS (own := RX6) C.2.1.1 C.2.1.2.1 (by rw [← hY]; exact C.2.1.2.2.2.2.2.2.1) C.2.2.2.1.1 hd ?_
  exact k l G p e s m args below meth c H locs ls C ⟨S.1, S.2.1, List.forall_mem_cons.mpr ⟨trivial, S.2.2⟩⟩
theorem xW.gV (hY : Y.1.cls = RJ0) (hd : decode Y.2.1 pc = .ok (.getfield 9, 3)) (k : xW Y g d mc ms (pc + 3) L (vR (some 1001) :: st) cs h Q) : xW Y g d mc ms pc L (vR (some 1000) :: st) cs h Q := by
  intro l G p e s m args below meth c H locs ls C S
  obtain ⟨s1, s2⟩ := List.forall_mem_cons.mp S.2.2
  refine vk_getf (o := "java/lang/String") (n := "value") (d := "[B") (own := RJ0) (ref := RJ0) C.2.1.1 C.2.1.2.1 (C.2.2.2.1.2.1.1 0 (by decide)).2.2.1 C.2.2.2.2.2.1 (by rw [← hY]; exact C.2.1.2.2.2.2.2.2.1) (C.2.1.2.2.2.2.2.2.2 _ (List.mem_cons_of_mem _ fl_J0_9)) (fun x hx => hx) hd ?_
  exact k l G p e s m args below meth c H locs ls C ⟨S.1, S.2.1, List.forall_mem_cons.mpr ⟨trivial, s2⟩⟩
theorem xW.gC (hY : Y.1.cls = RJ0) (hd : decode Y.2.1 pc = .ok (.getfield 15, 3)) (k : xW Y g d mc ms (pc + 3) L (vI 0 :: st) cs h Q) : xW Y g d mc ms pc L (vR (some 1000) :: st) cs h Q := by
  intro l G p e s m args below meth c H locs ls C S
  obtain ⟨s1, s2⟩ := List.forall_mem_cons.mp S.2.2
  refine vk_getf (o := "java/lang/String") (n := "coder") (d := "B") (own := RJ0) (ref := RJ0) C.2.1.1 C.2.1.2.1 (C.2.2.2.1.2.1.1 0 (by decide)).2.1 C.2.2.2.2.2.1 (by rw [← hY]; exact C.2.1.2.2.2.2.2.2.1) (C.2.1.2.2.2.2.2.2.2 _ (List.mem_cons_of_mem _ fl_J0_15)) (fun x hx => hx) hd ?_
  exact k l G p e s m args below meth c H locs ls C ⟨S.1, S.2.1, List.forall_mem_cons.mpr ⟨(by decide : inR 0), s2⟩⟩
theorem xW.gZ (hY : Y.1.cls = RJ0) (hd : decode Y.2.1 pc = .ok (.getstatic 38, 3)) (k : xW Y g d mc ms (pc + 3) L (vI 1 :: st) cs h Q) : xW Y g d mc ms pc L st cs h Q := by
  intro l G p e s m args below meth c H locs ls C S
  refine va_gets (C := "java/lang/String") (n := "COMPACT_STRINGS") (d := "Z") (own := RJ0) (ref := RJ0) C.2.1.1 C.2.1.2.1 C.2.2.2.1.2.2.1 C.2.2.2.2.2.1 (by rw [← hY]; exact C.2.1.2.2.2.2.2.2.1) (C.2.1.2.2.2.2.2.2.2 _ (List.mem_cons_of_mem _ fl_J0_38)) (fun x hx => hx) hd ?_
  exact k l G p e s m args below meth c H locs ls C ⟨S.1, S.2.1, List.forall_mem_cons.mpr ⟨(by decide : inR 1), S.2.2⟩⟩
theorem xW.gF (hY : Y.1.cls = RJ0) (hd : decode Y.2.1 pc = .ok (.getstatic 1053, 3)) (k : ∀ o, xW Y g d mc ms (pc + 3) L (vR o :: st) cs h Q) : xW Y g d mc ms pc L st cs h Q := by
  intro l G p e s m args below meth c H locs ls C S
  rcases C.2.2.2.1.2.2.2.1 with z | z
  · refine va_gets (C := "jdk/internal/util/Preconditions") (n := "SIOOBE_FORMATTER") (d := "Ljava/util/function/BiFunction;") (own := RJ0) (ref := RJ3) C.2.1.1 C.2.1.2.1 z C.2.2.2.2.2.1 (by rw [← hY]; exact C.2.1.2.2.2.2.2.2.1) (C.2.1.2.2.2.2.2.2.2 _ (List.mem_cons_of_mem _ fl_J0_1053)) (fun x hx => hx) hd ?_
    exact k none l G p e s m args below meth c H locs ls C ⟨S.1, S.2.1, List.forall_mem_cons.mpr ⟨trivial, S.2.2⟩⟩
  · refine va_gets (C := "jdk/internal/util/Preconditions") (n := "SIOOBE_FORMATTER") (d := "Ljava/util/function/BiFunction;") (own := RJ0) (ref := RJ3) C.2.1.1 C.2.1.2.1 z C.2.2.2.2.2.1 (by rw [← hY]; exact C.2.1.2.2.2.2.2.2.1) (C.2.1.2.2.2.2.2.2.2 _ (List.mem_cons_of_mem _ fl_J0_1053)) (fun x hx => hx) hd ?_
    exact k (some 1002) l G p e s m args below meth c H locs ls C ⟨S.1, S.2.1, List.forall_mem_cons.mpr ⟨trivial, S.2.2⟩⟩
def wN : Int := (x_bytes.length : Int)
theorem wN_r : 0 ≤ wN ∧ wN ≤ 300 := by decide +kernel
def wB8 (i : Int) : Int := (x_bytes.getD i.toNat 0).toInt
theorem wB8_r (i : Int) : inR (wB8 i) := by
  unfold wB8 inR
  generalize x_bytes.getD i.toNat 0 = x
  have h1 := Int32.le_toInt x
  have h2 := Int32.toInt_lt x
  omega
theorem xW.lenB (hd : decode Y.2.1 pc = .ok (.arraylength, 1)) (k : xW Y g d mc ms (pc + 1) L (vI wN :: st) cs h Q) : xW Y g d mc ms pc L (vR (some 1001) :: st) cs h Q := by
  intro l G p e s m args below meth c H locs ls C S
  obtain ⟨s1, s2⟩ := List.forall_mem_cons.mp S.2.2
  refine va_tlen (v := Int32.ofInt wN) C.2.1.1 C.2.1.2.1 (vk_S_at (B := x_bytes) C.2.2.2.1.2.1) C.2.2.2.2.2.1 (by decide +kernel) hd ?_
  exact k l G p e s m args below meth c H locs ls C ⟨S.1, S.2.1, List.forall_mem_cons.mpr ⟨(by decide +kernel : inR wN), s2⟩⟩
theorem xW.baldB {i : Int} (hd : decode Y.2.1 pc = .ok (.baload, 1)) (hi : 0 ≤ i ∧ i < wN) (k : xW Y g d mc ms (pc + 1) L (vI (wB8 i) :: st) cs h Q) : xW Y g d mc ms pc L (vI i :: vR (some 1001) :: st) cs h Q := by
  intro l G p e s m args below meth c H locs ls C S
  obtain ⟨s1, s2⟩ := List.forall_mem_cons.mp S.2.2
  obtain ⟨-, s3⟩ := List.forall_mem_cons.mp s2
  have s1' : inR i := s1
  have tn := x_toNat s1' hi.1
  have hT : va_T .byte G.2.2.2.2.2.1 x_bytes.length (fun j => .int (x_bytes.getD j 0)) (x_A G) s s.heap := vk_S_at (B := x_bytes) C.2.2.2.1.2.1
  have hin : vp_in (Int32.ofInt i) x_bytes.length := by
    have h2 : i < ((x_bytes.length : Nat) : Int) := hi.2
    generalize x_bytes.length = N at h2 ⊢
    intro q
    rcases q with q | q
    · have := Int32.lt_iff_toInt_lt.mp q
      rw [Int32.toInt_ofInt_of_le (by omega) (by omega)] at this
      have : i < (0 : Int32).toInt := this
      rw [show (0 : Int32).toInt = 0 from rfl] at this
      omega
    · omega
  refine va_tb (i := Int32.ofInt i) (v := .int (Int32.ofInt (wB8 i))) C.2.1.1 C.2.1.2.1 hT C.2.2.2.2.2.1 hin ?_ hd ?_
  · show Value.int (x_bytes.getD (Int32.ofInt i).toNatClampNeg 0) = .int (Int32.ofInt (wB8 i))
    rw [show (Int32.ofInt i).toNatClampNeg = i.toNat by omega]
    unfold wB8
    rw [Int32.ofInt_toInt]
  · exact k l G p e s m args below meth c H locs ls C ⟨S.1, S.2.1, List.forall_mem_cons.mpr ⟨wB8_r i, s3⟩⟩
theorem xW.i2c {z : Int} (hd : decode Y.2.1 pc = .ok (.i2c, 1)) (hz : ((Int32.ofInt z).toUInt32 % 65536).toInt32 = Int32.ofInt z) (k : xW Y g d mc ms (pc + 1) L (vI z :: st) cs h Q) : xW Y g d mc ms pc L (vI z :: st) cs h Q := by
  intro l G p e s m args below meth c H locs ls C S
  exact lv_i2c (x := Int32.ofInt z) (v := Int32.ofInt z) C.2.1.1 C.2.1.2.1 hd hz (k l G p e s m args below meth c H locs ls C S)
theorem xW.nret {z : Int} {ty : FieldType} (hd : decode Y.2.1 pc = .ok (.ireturn, 1)) (hY : Y.2.2.2 = some ty) (hz : narrow ty (.int (Int32.ofInt z)) = .int (Int32.ofInt z)) (hc : cs.1 ≤ mc ∧ cs.2 ≤ ms) (k : Q h (some (vI z))) : xW Y g d mc ms pc L [vI z] cs h Q := by
  intro l G p e s m args below meth c H locs ls C S
  have s1 := S.2.2 _ List.mem_cons_self
  refine W.widen hc.1 hc.2 ?_
  exact W.zret (v := Int32.ofInt z) (ty := ty) C.2.1.1 C.2.1.2.1 (by rw [C.2.1.2.2.2.1]; exact hY) hz (fun t ht hW => x_leave C (r := some (vI z)) (fun v hv => by cases hv; exact s1) k ht) (fun q hq => C.2.2.2.2.2.1.2.2 q hq) hd C.2.1.2.2.2.2.1
theorem xW.callVS {idx np : Nat} (hd : decode Y.2.1 pc = .ok (.invokevirtual idx, 3)) (hM : x_MK Y.1.cls idx Y' np) (hi : Cond.instanceMethod Y'.1 ∈ x_TBL) (hsel : Cond.selects Y'.1.cls Y'.1 Y'.1 ∈ x_TBL) (hcn : Y'.1.cls = RJ0) (hst : st = As.reverse ++ vR (some 1000) :: rest) (hnp : As.length = np) (hW : (rest.map x_cat).sum ≤ 8) (hr : cs.1 + mc' ≤ mc ∧ cs.2 + ms' ≤ ms)
    (k : xC Y' g d mc' ms' (vR (some 1000) :: As) h (fun h' r => xW Y g (d + 1) mc ms (pc + 3) L (r.toList ++ rest) (cs.1 + mc', cs.2 + ms') h' Q)) : xW Y g (d + 1) mc ms pc L st cs h Q := by
  intro l G p e s m args below meth c H locs ls C S
  subst hst
  have okA : ∀ v ∈ vR (some 1000) :: As, x_ok v := fun v hv => by
    rcases List.mem_cons.mp hv with rfl | h1
    · trivial
    · exact S.2.2 v (List.mem_append_left _ (List.mem_reverse.mpr h1))
  have okr : ∀ v ∈ rest, x_ok v := fun v hv => S.2.2 v (List.mem_append_right _ (List.mem_cons_of_mem _ hv))
  have hts := C.2.1.2.2.2.2.2.2.2
  have ht : ∀ w ∈ x_TBL, w.before args s = true := fun w hw => hts w (List.mem_cons_of_mem _ hw)
  have hMet := k l G okA C.2.2.2.2.2.2.2
  obtain ⟨hcode, hini, hdd, hml, hl⟩ := hM
  have hrec : ∃ cellB : Cell, H[x_ad G 1000]? = some cellB ∧ cellB.vm.isStatics = false ∧ s.vm.findClass Y'.1.cls = some cellB.cls := by
    rw [hcn]
    exact vk_recv (i := 0) C.2.2.2.1.2.1 (by decide) C.2.2.2.2.2.1
  have hstk : ((As.reverse ++ vR (some 1000) :: rest).map (x_tr (x_ad G))) = (As.map (x_tr (x_ad G))).reverse ++ .ref (x_ad G 1000) :: rest.map (x_tr (x_ad G)) := by
    rw [List.map_append, List.map_reverse]; rfl
  have hWr : 2 * (F0 m pc ls ((As.reverse ++ vR (some 1000) :: rest).map (x_tr (x_ad G)))).monitorRoom + ((rest.map (x_tr (x_ad G))).map fun v => v.category).sum ≤ 8 := lv_room (by rw [x_cat_sum]; exact hW)
  refine x_cont (Y := Y) (a := (Value.ref (x_ad G 1000) :: As.map (x_tr (x_ad G))).toArray) (Q' := fun h' r => xW Y g (d + 1) mc ms (pc + 3) L (r.toList ++ rest) (cs.1 + mc', cs.2 + ms') h' Q) ?_ C ⟨S.1, S.2.1, okr⟩ (fun h' r hq => hq)
  have hp : PreV s H Y'.1.cls (x_ad G 1000) (va_Pc ((vR (some 1000) :: As).map (x_tr (x_ad G))) (fun U => x_hI G g h U.heap ∧ x_K G U ∧ x_St G U U.heap ∧ G.2.2.1 ≤ U.heap.size)) (As.map (x_tr (x_ad G))) := ⟨x_blind, hrec, x_pre (av := vR (some 1000) :: As) C⟩
  rcases hl with hl | ⟨host, hl⟩
  · exact va_runV (As := As.map (x_tr (x_ad G))) (b := x_ad G 1000) (C := Y'.1.cls) (n := np) ⟨C.2.1.1, C.2.1.2.1, C.2.1.2.2.1, C.2.1.2.2.2.2.2.2.1, hts⟩ hMet ⟨callB_of np hts (x_good hcode) rfl rfl rfl (ht _ hini) (ht _ hl) hdd (x_rmok hml), ht _ hi, ht _ hsel⟩ hp rfl (by rw [List.length_map]; exact hnp) S.1.1 hstk hWr hd hr
  · exact va_runVN (As := As.map (x_tr (x_ad G))) (b := x_ad G 1000) (C := Y'.1.cls) (n := np) ⟨C.2.1.1, C.2.1.2.1, C.2.1.2.2.1, C.2.1.2.2.2.2.2.2.1, hts⟩ hMet ⟨va_cnB np hts (x_good hcode) rfl rfl rfl (C.2.2.2.1.2.2.2.2 _ hl rfl) (ht _ hini) hdd (x_rmok hml), ht _ hi, ht _ hsel⟩ hp rfl (by rw [List.length_map]; exact hnp) S.1.1 hstk hWr hd hr
end Str
section Str2
variable {Y Y' : xY} {g : Option Nat} {d mc ms pc n : Nat} {P : xP} {M : xM} {L : xL} {st : List xV} {cs : Nat × Nat} {Q : xH → Option xV → Prop} {F : xM → Int → Prop} {G : xM → Prop}
theorem xW.callVSI {idx np : Nat} (As rest : List xV) (hd : decode Y.2.1 pc = .ok (.invokevirtual idx, 3)) (hM : x_MK Y.1.cls idx Y' np) (hi : Cond.instanceMethod Y'.1 ∈ x_TBL) (hsel : Cond.selects Y'.1.cls Y'.1 Y'.1 ∈ x_TBL) (hcn : Y'.1.cls = RJ0) (hst : st = As.reverse ++ vR (some 1000) :: rest) (hnp : As.length = np) (hW : (rest.map x_cat).sum ≤ 8) (hr : cs.1 ≤ mc ∧ cs.2 ≤ ms)
    (H : xCI Y' g d (vR (some 1000) :: As) n P M F) (k : ∀ M' z, F M' z → xW Y g (d + 1) mc ms (pc + 3) L (vI z :: rest) cs (n, P, M') Q) : xW Y g (d + 1) mc ms pc L st cs (n, P, M) Q :=
  xW.callVS (As := As) (rest := rest) hd hM hi hsel hcn hst hnp hW hr (xC.mono (fun h' r q => by obtain ⟨M', z, rfl, rfl, q⟩ := q; exact k M' z q) H)
theorem xW.rN {z : Int} {ty : FieldType} (hd : decode Y.2.1 pc = .ok (.ireturn, 1)) (hY : Y.2.2.2 = some ty) (hz : narrow ty (.int (Int32.ofInt z)) = .int (Int32.ofInt z)) (k : F M z) : xW Y g d 0 0 pc L [vI z] (0, 0) (n, P, M) (kI n P F) := xW.nret hd hY hz ⟨Nat.le_refl _, Nat.le_refl _⟩ ⟨M, z, rfl, rfl, k⟩
end Str2
