/-- np: how many parameters (the receiver apart) -/
def x_MK (own : String) (idx : Nat) (Y' : xY) (np : Nat) : Prop := Cond.code Y'.1 Y'.2.1 Y'.2.2.1 Y'.2.2.2 ∈ x_TBL ∧ Cond.initialized Y'.1.cls ∈ x_TBL ∧ (Y'.1.cls ≠ "java/lang/invoke/MethodHandle" ∧ Y'.1.cls ≠ "java/lang/invoke/VarHandle" ∧ (parseMethodDescriptor Y'.1.desc).map (fun d => d.parameters.length) = some np) ∧ Y'.2.2.1 ≤ 45 ∧
  (Cond.methodLink own idx Y'.1 ∈ x_TBL ∨ ∃ host, Cond.methodLinkNest own idx Y'.1 host ∈ tables_1)
def x_cat (v : xV) : Nat := match x_isJ v with
  | true => 2
  | false => 1
theorem x_cat_eq (ad : Nat → Nat) (v : xV) : (x_tr ad v).category = x_cat v := by
  rw [x_tr_cat]
  unfold x_cat
  cases x_isJ v <;> rfl
theorem x_cat_sum (ad : Nat → Nat) (st : List xV) : ((st.map (x_tr ad)).map fun v => v.category).sum = (st.map x_cat).sum := by
  rw [List.map_map]
  congr 2
  funext v
  exact x_cat_eq ad v
section Calls2
variable {Y Y' : xY} {g : Option Nat} {d mc ms pc mc' ms' : Nat} {L : xL} {st rest As : List xV} {cs : Nat × Nat} {h : xH} {Q Q' : xH → Option xV → Prop}
theorem x_cont {l : Launch} {G : xG} {p : Program} {e : Env} {s : State} {m : MethodId} {args a : Array Value} {below : List Frame} {meth : Method} {c : Code} {H : Heap} {locs : List Loc} {ls : Array Slot} {st0 : List Value}
    (hr : va_Run p l e (x_rm d mc ms) s m args below meth c H locs cs.1 cs.2 mc' ms' (F0 m pc ls st0) (rest.map (x_tr (x_ad G))) (x_Qc G g Q' a) (x_A G)) (C : x_C Y g G p s m args meth c H locs h) (S : x_LS Y G ls L rest)
    (k : ∀ h' r, Q' h' r → xW Y g d mc ms (pc + 3) L (r.toList ++ rest) (cs.1 + mc', cs.2 + ms') h' Q) : W p l e (x_rm d mc ms) s m args below meth c H locs cs.1 cs.2 (MQ below (x_Qc G g Q) args s mc ms (x_A G)) (F0 m pc ls st0) := by
  intro T hT X
  obtain ⟨v, st₀, t, T', L', h0, X', hL, e1, e2, ⟨⟨h', r, hv, hq, hok, hokr, hhI⟩, hz, hk⟩, st⟩ := hr T hT X
  cases hv
  rw [h0] at hz hk
  have hS := C.2.2.2.2.2.1
  have hS' : va_S (x_A G) s.heap T'.heap (locs ++ L') := ⟨Nat.le_trans hS.1 (by rw [e1]; exact hz), fun q h1 h2 => by rw [e1, hk q (Nat.lt_of_lt_of_le h1 hS.1) h2]; exact hS.2.1 q h1 h2, fun q hq => by
      rcases List.mem_append.mp hq with h | h
      · exact hS.2.2 q h
      · exact hL q h⟩
  have hst : ∀ v ∈ r.toList ++ rest, x_ok v := fun v hv => by
    rcases List.mem_append.mp hv with h1 | h1
    · cases r with
      | none => cases h1
      | some w =>
        rw [Option.toList_some, List.mem_singleton] at h1
        subst h1
        exact hokr v rfl
    · exact S.2.2 v h1
  obtain ⟨t2, a1, b1⟩ := k h' r hq l G p e s m args below meth c T'.heap (locs ++ L') ls ⟨trivial, C.2.1, C.2.2.1, C.2.2.2.1, C.2.2.2.2.1, hS', by rw [e1]; exact hhI, hok⟩ ⟨S.1, S.2.1, hst⟩ T' rfl X'
  refine ⟨t2, st t2 ?_, b1⟩
  have hE : (r.toList ++ rest).map (x_tr (x_ad G)) = (r.map (x_tr (x_ad G))).toList ++ rest.map (x_tr (x_ad G)) := by
    cases r <;> rfl
  rw [hE] at a1
  exact a1
theorem x_blind {G : xG} {av : List xV} : FrameBlind (va_Pc (av.map (x_tr (x_ad G))) (fun U => x_hI G g h U.heap ∧ x_K G U ∧ x_St G U U.heap ∧ G.2.2.1 ≤ U.heap.size)) :=
  fun a U f mk q => ⟨q.1, q.2.1, va_K.moved (u := U) (U := U.calling f mk a) (Vm.Alike.refl U.vm) q.2.2.1, x_St.same (s := U) (U := U.calling f mk a) rfl q.2.2.2.1, q.2.2.2.2⟩
theorem x_pre {G : xG} {av : List xV} {p : Program} {s : State} {m : MethodId} {args : Array Value} {meth : Method} {c : Code} {H : Heap} {locs : List Loc} (C : x_C Y g G p s m args meth c H locs h) : ∀ U : State, U.heap = H → s.WarmedH U.vm → va_Pc (av.map (x_tr (x_ad G))) (fun U => x_hI G g h U.heap ∧ x_K G U ∧ x_St G U U.heap ∧ G.2.2.1 ≤ U.heap.size) (av.map (x_tr (x_ad G))).toArray U := by
  intro U hU hW
  refine ⟨rfl, by rw [hU]; exact C.2.2.2.2.2.2.1, va_K.moved hW.alike C.2.2.1, ?_, by rw [hU]; exact Nat.le_trans C.2.2.2.2.1 C.2.2.2.2.2.1.1⟩
  rw [hU]
  exact x_St.warm hW (C.2.2.2.1.kept (fun a h1 h2 => C.2.2.2.2.2.1.2.1 a h1 h2))
theorem x_rmok {d' : Nat} (hm : Y'.2.2.1 ≤ 45) : (x_rm d' mc' ms').frames + 1 ≤ (x_rm (d' + 1) mc ms).frames ∧ 8 + (Y'.2.2.1 + 11) + (x_rm d' mc' ms').locals ≤ (x_rm (d' + 1) mc ms).locals := by
  constructor
  · exact Nat.le_refl _
  · show 8 + (Y'.2.2.1 + 11) + 64 * d' ≤ 64 * (d' + 1)
    omega
theorem xW.callV {a idx ci np : Nat} {r : vw_C} (hd : decode Y.2.1 pc = .ok (.invokevirtual idx, 3)) (hM : x_MK Y.1.cls idx Y' np) (hi : Cond.instanceMethod Y'.1 ∈ x_TBL) (hsel : Cond.selects Y'.1.cls Y'.1 Y'.1 ∈ x_TBL) (hc : vwCl[ci]? = some r) (hcn : r.1 = Y'.1.cls) (hs : x_sk a = ci + 5) (hn : a < h.1) (hst : st = As.reverse ++ vR (some a) :: rest) (hnp : As.length = np) (hW : (rest.map x_cat).sum ≤ 8) (hr : cs.1 + mc' ≤ mc ∧ cs.2 + ms' ≤ ms)
    (k : xC Y' g d mc' ms' (vR (some a) :: As) h (fun h' r => xW Y g (d + 1) mc ms (pc + 3) L (r.toList ++ rest) (cs.1 + mc', cs.2 + ms') h' Q)) : xW Y g (d + 1) mc ms pc L st cs h Q := by
  intro l G p e s m args below meth c H locs ls C S
  subst hst
  have okA : ∀ v ∈ vR (some a) :: As, x_ok v := fun v hv => by
    rcases List.mem_cons.mp hv with rfl | h1
    · trivial
    · exact S.2.2 v (List.mem_append_left _ (List.mem_reverse.mpr h1))
  have okr : ∀ v ∈ rest, x_ok v := fun v hv => S.2.2 v (List.mem_append_right _ (List.mem_cons_of_mem _ hv))
  have hts := C.2.1.2.2.2.2.2.2.2
  have ht : ∀ w ∈ x_TBL, w.before args s = true := fun w hw => hts w (List.mem_cons_of_mem _ hw)
  have hMet := k l G okA C.2.2.2.2.2.2.2
  obtain ⟨hcode, hini, hdd, hml, hl⟩ := hM
  have he : (x_cw G h)[a]? = some (x_ad G a, .inr (ci, (List.range (x_sn a)).map (x_fv (x_ad G) h.2.1 h.2.2 a ci))) := by
    rw [x_cw_get hn, x_ce_obj hs]
  have hrec : ∃ cellB : Cell, H[x_ad G a]? = some cellB ∧ cellB.vm.isStatics = false ∧ s.vm.findClass Y'.1.cls = some cellB.cls := by
    rw [← hcn]
    exact va_recv C.2.2.1 C.2.2.2.2.2.2.1.2.2 hc he
  have hstk : ((As.reverse ++ vR (some a) :: rest).map (x_tr (x_ad G))) = (As.map (x_tr (x_ad G))).reverse ++ .ref (x_ad G a) :: rest.map (x_tr (x_ad G)) := by
    rw [List.map_append, List.map_reverse]; rfl
  have hWr : 2 * (F0 m pc ls ((As.reverse ++ vR (some a) :: rest).map (x_tr (x_ad G)))).monitorRoom + ((rest.map (x_tr (x_ad G))).map fun v => v.category).sum ≤ 8 := lv_room (by rw [x_cat_sum]; exact hW)
  refine x_cont (Y := Y) (a := (Value.ref (x_ad G a) :: As.map (x_tr (x_ad G))).toArray) (Q' := fun h' r => xW Y g (d + 1) mc ms (pc + 3) L (r.toList ++ rest) (cs.1 + mc', cs.2 + ms') h' Q) ?_ C ⟨S.1, S.2.1, okr⟩ (fun h' r hq => hq)
  have hp : PreV s H Y'.1.cls (x_ad G a) (va_Pc ((vR (some a) :: As).map (x_tr (x_ad G))) (fun U => x_hI G g h U.heap ∧ x_K G U ∧ x_St G U U.heap ∧ G.2.2.1 ≤ U.heap.size)) (As.map (x_tr (x_ad G))) := ⟨x_blind, hrec, x_pre (av := vR (some a) :: As) C⟩
  rcases hl with hl | ⟨host, hl⟩
  · exact va_runV (As := As.map (x_tr (x_ad G))) (b := x_ad G a) (C := Y'.1.cls) (n := np) ⟨C.2.1.1, C.2.1.2.1, C.2.1.2.2.1, C.2.1.2.2.2.2.2.2.1, hts⟩ hMet ⟨callB_of np hts (x_good hcode) rfl rfl rfl (ht _ hini) (ht _ hl) hdd (x_rmok hml), ht _ hi, ht _ hsel⟩ hp rfl (by rw [List.length_map]; exact hnp) S.1.1 hstk hWr hd hr
  · exact va_runVN (As := As.map (x_tr (x_ad G))) (b := x_ad G a) (C := Y'.1.cls) (n := np) ⟨C.2.1.1, C.2.1.2.1, C.2.1.2.2.1, C.2.1.2.2.2.2.2.2.1, hts⟩ hMet ⟨va_cnB np hts (x_good hcode) rfl rfl rfl (C.2.2.2.1.2.2.2.2 _ hl rfl) (ht _ hini) hdd (x_rmok hml), ht _ hi, ht _ hsel⟩ hp rfl (by rw [List.length_map]; exact hnp) S.1.1 hstk hWr hd hr
theorem xW.callS {idx np : Nat} (hd : decode Y.2.1 pc = .ok (.invokestatic idx, 3)) (hM : x_MK Y.1.cls idx Y' np) (hi : Cond.static Y'.1 ∈ x_TBL) (hst : st = As.reverse ++ rest) (hnp : As.length = np) (hW : (rest.map x_cat).sum ≤ 8) (hr : cs.1 + mc' ≤ mc ∧ cs.2 + ms' ≤ ms)
    (k : xC Y' g d mc' ms' As h (fun h' r => xW Y g (d + 1) mc ms (pc + 3) L (r.toList ++ rest) (cs.1 + mc', cs.2 + ms') h' Q)) : xW Y g (d + 1) mc ms pc L st cs h Q := by
  intro l G p e s m args below meth c H locs ls C S
  subst hst
  have okA : ∀ v ∈ As, x_ok v := fun v h1 => S.2.2 v (List.mem_append_left _ (List.mem_reverse.mpr h1))
  have okr : ∀ v ∈ rest, x_ok v := fun v hv => S.2.2 v (List.mem_append_right _ hv)
  have hts := C.2.1.2.2.2.2.2.2.2
  have ht : ∀ w ∈ x_TBL, w.before args s = true := fun w hw => hts w (List.mem_cons_of_mem _ hw)
  have hMet := k l G okA C.2.2.2.2.2.2.2
  obtain ⟨hcode, hini, hdd, hml, hl⟩ := hM
  have hstk : ((As.reverse ++ rest).map (x_tr (x_ad G))) = (As.map (x_tr (x_ad G))).reverse ++ rest.map (x_tr (x_ad G)) := by
    rw [List.map_append, List.map_reverse]
  have hWr : 2 * (F0 m pc ls ((As.reverse ++ rest).map (x_tr (x_ad G)))).monitorRoom + ((rest.map (x_tr (x_ad G))).map fun v => v.category).sum ≤ 8 := lv_room (by rw [x_cat_sum]; exact hW)
  refine x_cont (Y := Y) (a := (As.map (x_tr (x_ad G))).toArray) (Q' := fun h' r => xW Y g (d + 1) mc ms (pc + 3) L (r.toList ++ rest) (cs.1 + mc', cs.2 + ms') h' Q) ?_ C ⟨S.1, S.2.1, okr⟩ (fun h' r hq => hq)
  have hp : PreS s H (va_Pc (As.map (x_tr (x_ad G))) (fun U => x_hI G g h U.heap ∧ x_K G U ∧ x_St G U U.heap ∧ G.2.2.1 ≤ U.heap.size)) (As.map (x_tr (x_ad G))) := ⟨x_blind, x_pre (av := As) C⟩
  rcases hl with hl | ⟨host, hl⟩
  · exact va_runS (As := As.map (x_tr (x_ad G))) (n := np) ⟨C.2.1.1, C.2.1.2.1, C.2.1.2.2.1, C.2.1.2.2.2.2.2.2.1, hts⟩ hMet ⟨callB_of np hts (x_good hcode) rfl rfl rfl (ht _ hini) (ht _ hl) hdd (x_rmok hml), ht _ hi⟩ hp rfl (by rw [List.length_map]; exact hnp) S.1.1 hstk hWr hd hr
  · exact va_runSN (As := As.map (x_tr (x_ad G))) (n := np) ⟨C.2.1.1, C.2.1.2.1, C.2.1.2.2.1, C.2.1.2.2.2.2.2.2.1, hts⟩ hMet ⟨va_cnB np hts (x_good hcode) rfl rfl rfl (C.2.2.2.1.2.2.2.2 _ hl rfl) (ht _ hini) hdd (x_rmok hml), ht _ hi, trivial⟩ hp rfl (by rw [List.length_map]; exact hnp) S.1.1 hstk hWr hd hr
theorem xW.callI {a idx np : Nat} (hd : decode Y.2.1 pc = .ok (.invokespecial idx, 3)) (hM : x_MK Y.1.cls idx Y' np) (hY : Y'.2.2.2 = none) (hnm : Y'.1.name = "<init>") (hi : Cond.instanceMethod Y'.1 ∈ x_TBL) (hst : st = As.reverse ++ vR (some a) :: rest) (hnp : As.length = np) (hW : (rest.map x_cat).sum ≤ 8) (hr : cs.1 + mc' ≤ mc ∧ cs.2 + ms' ≤ ms)
    (k : xC Y' g d mc' ms' (vR (some a) :: As) h (fun h' r => xW Y g (d + 1) mc ms (pc + 3) L (r.toList ++ rest) (cs.1 + mc', cs.2 + ms') h' Q)) : xW Y g (d + 1) mc ms pc L st cs h Q := by
  intro l G p e s m args below meth c H locs ls C S
  subst hst
  obtain ⟨y', b', n', ret'⟩ := Y'
  subst hY
  have okA : ∀ v ∈ vR (some a) :: As, x_ok v := fun v hv => by
    rcases List.mem_cons.mp hv with rfl | h1
    · trivial
    · exact S.2.2 v (List.mem_append_left _ (List.mem_reverse.mpr h1))
  have okr : ∀ v ∈ rest, x_ok v := fun v hv => S.2.2 v (List.mem_append_right _ (List.mem_cons_of_mem _ hv))
  have hts := C.2.1.2.2.2.2.2.2.2
  have ht : ∀ w ∈ x_TBL, w.before args s = true := fun w hw => hts w (List.mem_cons_of_mem _ hw)
  have hMet := k l G okA C.2.2.2.2.2.2.2
  obtain ⟨hcode, hini, hdd, hml, hl⟩ := hM
  have hstk : ((As.reverse ++ vR (some a) :: rest).map (x_tr (x_ad G))) = (As.map (x_tr (x_ad G))).reverse ++ .ref (x_ad G a) :: rest.map (x_tr (x_ad G)) := by
    rw [List.map_append, List.map_reverse]; rfl
  have hWr : 2 * (F0 m pc ls ((As.reverse ++ vR (some a) :: rest).map (x_tr (x_ad G)))).monitorRoom + ((rest.map (x_tr (x_ad G))).map fun v => v.category).sum ≤ 8 := lv_room (by rw [x_cat_sum]; exact hW)
  refine x_cont (Y := Y) (a := (Value.ref (x_ad G a) :: As.map (x_tr (x_ad G))).toArray) (Q' := fun h' r => xW Y g (d + 1) mc ms (pc + 3) L (r.toList ++ rest) (cs.1 + mc', cs.2 + ms') h' Q) ?_ C ⟨S.1, S.2.1, okr⟩ (fun h' r hq => hq)
  have hp : PreS s H (va_Pc ((vR (some a) :: As).map (x_tr (x_ad G))) (fun U => x_hI G g h U.heap ∧ x_K G U ∧ x_St G U U.heap ∧ G.2.2.1 ≤ U.heap.size)) (.ref (x_ad G a) :: As.map (x_tr (x_ad G))) := ⟨x_blind, x_pre (av := vR (some a) :: As) C⟩
  rcases hl with hl | ⟨host, hl⟩
  · exact va_runI (As := As.map (x_tr (x_ad G))) (b := x_ad G a) (n := np) ⟨C.2.1.1, C.2.1.2.1, C.2.1.2.2.1, C.2.1.2.2.2.2.2.2.1, hts⟩ hMet ⟨callB_of np hts (x_good hcode) rfl rfl rfl (ht _ hini) (ht _ hl) hdd (x_rmok (Y' := (y', b', n', none)) hml), hnm, ht _ hi⟩ hp rfl (by rw [List.length_map]; exact hnp) S.1.1 hstk hWr hd hr
  · exact va_runIN (As := As.map (x_tr (x_ad G))) (b := x_ad G a) (n := np) ⟨C.2.1.1, C.2.1.2.1, C.2.1.2.2.1, C.2.1.2.2.2.2.2.2.1, hts⟩ hMet ⟨va_cnB np hts (x_good hcode) rfl rfl rfl (C.2.2.2.1.2.2.2.2 _ hl rfl) (ht _ hini) hdd (x_rmok (Y' := (y', b', n', none)) hml), hnm, ht _ hi⟩ hp rfl (by rw [List.length_map]; exact hnp) S.1.1 hstk hWr hd hr
end Calls2
def x_args : Nat → List xV → xL
  | _, [] => []
  | i, v :: vs => (i, v) :: x_args (i + x_cat v) vs
theorem x_args_eq (G : xG) : ∀ (av : List xV) (i : Nat), lv_args i (av.map (x_tr (x_ad G))) = x_Lm G (x_args i av)
  | [], i => rfl
  | v :: vs, i => by
    show (i, x_tr (x_ad G) v) :: lv_args _ _ = (i, x_tr (x_ad G) v) :: x_Lm G (x_args (i + x_cat v) vs)
    rw [← x_args_eq G vs]
    have e : (if (x_tr (x_ad G) v).category = 2 then i + 2 else i + 1) = i + x_cat v := by
      rw [x_cat_eq]
      unfold x_cat
      cases x_isJ v <;> rfl
    rw [e]
theorem x_sl_len (ad : Nat → Nat) : ∀ av : List xV, (lg_sl (av.map (x_tr ad))).length = (av.map x_cat).sum
  | [] => rfl
  | v :: vs => by
    unfold lg_sl
    rw [List.map_cons, List.flatMap_cons, List.length_append, List.map_cons, List.sum_cons]
    have h1 := x_sl_len ad vs
    unfold lg_sl at h1
    rw [h1, x_cat_eq]
    congr 1
    unfold x_cat
    cases x_isJ v <;> rfl
theorem x_args_ok : ∀ (av : List xV) (i : Nat), (∀ v ∈ av, x_ok v) → ∀ q ∈ x_args i av, x_ok q.2
  | [], i, h, q, hq => by cases hq
  | v :: vs, i, h, q, hq => by
    rcases List.mem_cons.mp hq with rfl | h1
    · exact h v List.mem_cons_self
    · exact x_args_ok vs _ (fun w hw => h w (List.mem_cons_of_mem _ hw)) q h1
/-- Met.ofW, by the method's own name (for members of java/lang/Math too) -/
theorem x_ofW {l : Launch} {y : MethodName} {ws ws' : List Cond} {rm : Room} {Pc : Array Value → State → Prop} {Qc : Array Value → State → Outcome → State → Prop} {mc ms : Nat} {free : Addr → Prop} {cc : ByteArray} {maxL : Nat} {ret : Option FieldType}
    (hy : plainFor y = true) (hw : ws = Cond.code y cc maxL ret :: ws')
    (body : ∀ p e s m args below meth c s₁, BodyLoose p l y (headSpec ws rm) cc maxL ret e s m args below meth c s₁ → c.maxLocals = maxL → Pc args s →
      W p l e (headSpec ws rm).room s m args below meth c s.heap [] 0 0 (MQ below Qc args s mc ms free) (entryFrame m args maxL)) : Met l y ws rm Pc Qc mc ms free := by
  refine MetFree.of_bodySF (code := cc) (maxLocals := maxL) (ret := ret) hy (fun args s m h hn => ?_) (fun p e s m args below meth c s₁ B hml hP _ => ?_)
  · obtain ⟨meth, c, h1, h2, h3, h4, h5, h6, -, -⟩ := Cond.code_spec hn (atoms_spec (ws := ws) h _ (by rw [hw]; exact List.mem_cons_self))
    exact ⟨meth, c, h1, h2, h3, h4, h5, h6⟩
  · have hh0 : s₁.heap = s.heap := by rw [B.state]; rfl
    obtain ⟨t, a1, o, b1, b2, b3⟩ := body p e s m args below meth c s₁ B hml hP s₁ hh0 (Stand.of_body B)
    exact ⟨t, o, a1, b1, b2, ⟨b3.1, b3.2⟩⟩
theorem xC.of {Y : xY} {g : Option Nat} {d mc ms : Nat} {av : List xV} {L : xL} {h : xH} {Q : xH → Option xV → Prop} (hy : plainFor Y.1 = true) (hn : (av.map x_cat).sum ≤ Y.2.2.1) (hL : x_args 0 av = L) (k : xW Y g d mc ms 0 L [] (0, 0) h Q) : xC Y g d mc ms av h Q := by
  intro l G hav hok
  subst hL
  refine x_ofW (cc := Y.2.1) (maxL := Y.2.2.1) (ret := Y.2.2.2) (ws' := x_TBL) hy rfl ?_
  intro p e s m args below meth c s₁ B hml hv
  obtain ⟨rfl, hI, hK, hSt, hbs⟩ := hv
  have hts := atoms_spec (ws := x_ws Y) B.pre
  have hl := lv_entry (av.map (x_tr (x_ad G))) (n := Y.2.2.1) (by rw [x_sl_len]; exact hn)
  rw [x_args_eq] at hl
  rw [lg_entry_eq]
  exact k l G p e s m _ below meth c s.heap [] _ ⟨trivial, ⟨B.exec, B.bytes, hml, B.returns, B.notSynchronized, (name_of_methodNamed B.named B.method).1, findClass_of_methodNamed B.named, hts⟩, hK, hSt, hbs, va_S.rf, hI, hok⟩ ⟨hl, x_args_ok av 0 hav, fun v hv => by cases hv⟩
