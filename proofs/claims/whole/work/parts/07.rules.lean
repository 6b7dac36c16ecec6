def x_words : String := "code veers blows fogs sentence case call delay appeal gust withdraw hour quarter force draw kind gravity hours laws needs unless or and not fact most "
def x_bytes : List Int32 := x_words.toList.map fun ch => Int32.ofNat ch.toNat
def x_K (G : xG) (U : State) : Prop := va_K G.1 vwCl (x_tys G) U
def x_isN (w : Cond) : Bool := match w with
  | .fieldLinkNest .. => true
  | .methodLinkNest .. => true
  | .arrayOver (.object _) => true
  | .arrayOver (.array _) => true
  | _ => false
/-- an array of arrays: its word stands while the classes are alike -/
theorem x_AOA {t : FieldType} {u U : State} (hvm : u.vm.Alike U.vm) (h : (Cond.arrayOver (.array t)).before #[] u = true) : (Cond.arrayOver (.array t)).before #[] U = true := by
  obtain ⟨comp, c, k, h1, h2, h3, h4, h5⟩ := arrayOverA_spec h
  obtain ⟨k', hk', he⟩ := hvm.2.2 _ _ h3
  have hi : (U.vm.classes.findIdx? fun (x : Class) => match x.kind with | .array component _ => component == comp | _ => false) = some c := by
    have hb1 := va_idx_bare U.vm comp
    have hb2 := va_idx_bare u.vm comp
    have hb : U.vm.bare = u.vm.bare := by first | exact hvm.bare_eq | exact hvm.bare_eq.symm
    rw [hb] at hb1
    exact hb1.symm.trans (hb2.trans h2)
  have hkind : k'.kind = .array comp (.array t) := by rw [he]; exact h4
  have f1 : U.vm.findClass (FieldType.array t).toString = some comp := by rw [hvm.findClass]; exact h1
  have f2 : U.vm.findClass ("[" ++ (FieldType.array t).toString) = some c := by rw [hvm.findClass]; exact h5
  unfold Cond.before Cond.holds
  simp only [Cond.value]
  rw [f1, Option.bind_some]
  refine (congrArg (fun o : Option Nat => (o.bind (fun c => (U.vm.classes[c]?).map fun (k : Class) => match k.kind with | .array _ ty => decide (ty = FieldType.array t) && decide (U.vm.findClass ("[" ++ (FieldType.array t).toString) = some c) | _ => false) == some true)) hi).trans ?_
  simp [hk', hkind, f2]
/-- the links between nest mates, and the arrays over classes -/
def x_NW (U : State) : Prop := ∀ w ∈ tables_1, x_isN w = true → va_Nw w U
theorem x_NW.warm {s U : State} (hW : s.WarmedH U.vm) (h : x_NW s) : x_NW U := by
  intro w hw hn
  have h1 := h w hw hn
  cases w with
  | arrayOver ty => cases ty <;> first | exact va_AO.moved hW.alike h1 | exact x_AOA hW.alike h1 | cases hn
  | _ => first | exact h1.warmF hW | exact h1.warmM hW | (exact absurd hn (by decide)) | cases hn
theorem x_NW.same {s U : State} (hv : U.vm = s.vm) (h : x_NW s) : x_NW U := by
  intro w hw hn
  have h1 := h w hw hn
  have ha : s.vm.Alike U.vm := by rw [hv]; exact Vm.Alike.refl s.vm
  cases w with
  | arrayOver ty => cases ty <;> first | exact va_AO.moved ha h1 | exact x_AOA ha h1 | cases hn
  | _ => first | exact va_Nw.same rfl hv.symm h1 | cases hn
def x_St (G : xG) (U : State) (H : Heap) : Prop := vk_R "VaneCourt$Tape" 61 x_words G.2.2.2.2.1 U ∧ vk_S 1 [x_bytes.length] [x_bytes] (fun _ => G.2.2.2.2.1) (fun _ => G.2.2.2.2.2.1) (x_A G) U H ∧ va_Z "java/lang/String" "COMPACT_STRINGS" "Z" (.int 1) (x_A G) U H ∧ (va_Z "jdk/internal/util/Preconditions" "SIOOBE_FORMATTER" "Ljava/util/function/BiFunction;" .null (x_A G) U H ∨ va_Z "jdk/internal/util/Preconditions" "SIOOBE_FORMATTER" "Ljava/util/function/BiFunction;" (.ref G.2.2.2.2.2.2) (x_A G) U H) ∧ x_NW U
theorem x_St.warm {G : xG} {s U : State} {H : Heap} (hW : s.WarmedH U.vm) (h : x_St G s H) : x_St G U H := ⟨h.1.warm hW, h.2.1.moved hW.alike, h.2.2.1.moved hW.alike, h.2.2.2.1.imp (va_Z.moved hW.alike) (va_Z.moved hW.alike), h.2.2.2.2.warm hW⟩
theorem x_St.same {G : xG} {s U : State} {H : Heap} (hv : U.vm = s.vm) (h : x_St G s H) : x_St G U H := ⟨h.1.same hv, h.2.1.moved (by rw [hv]; exact Vm.Alike.refl s.vm), h.2.2.1.moved (by rw [hv]; exact Vm.Alike.refl s.vm), h.2.2.2.1.imp (va_Z.moved (by rw [hv]; exact Vm.Alike.refl s.vm)) (va_Z.moved (by rw [hv]; exact Vm.Alike.refl s.vm)), h.2.2.2.2.same hv⟩
theorem x_St.kept {G : xG} {U : State} {H H1 : Heap} (h : x_St G U H) (hq : ∀ a : Nat, a < H.size → ¬ x_A G a → H1[a]? = H[a]?) : x_St G U H1 := ⟨h.1, h.2.1.kept hq, h.2.2.1.kept hq, h.2.2.2.1.imp (fun z => z.kept hq) (fun z => z.kept hq), h.2.2.2.2⟩
def x_rm (d mc ms : Nat) : Room := { frames := d, cells := mc, slots := ms, locals := 64 * d }
def x_okR (r : Option xV) : Prop := ∀ v, r = some v → x_ok v
def x_Qc (G : xG) (g : Option Nat) (Q : xH → Option xV → Prop) : Array Value → State → Outcome → State → Prop := fun _ st o t => (∃ (h' : xH) (r : Option xV), o = .returned (r.map (x_tr (x_ad G))) ∧ Q h' r ∧ x_okM h'.2.2 ∧ x_okR r ∧ x_hI G g h' t.heap) ∧ va_F (x_A G) st t
def x_FX (Y : xY) (p : Program) (s : State) (m : MethodId) (args : Array Value) (meth : Method) (c : Code) : Prop :=
  p.tables.exec = Jvm.exec ∧ c.code = Y.2.1 ∧ c.maxLocals = Y.2.2.1 ∧ meth.sig.returnType = Y.2.2.2 ∧ meth.locks = false ∧ meth.name = Y.1.name ∧ s.vm.findClass Y.1.cls = some m.cls ∧ ∀ w ∈ x_ws Y, w.before args s = true
def x_C (Y : xY) (g : Option Nat) (G : xG) (p : Program) (s : State) (m : MethodId) (args : Array Value) (meth : Method) (c : Code) (H : Heap) (locs : List Loc) (h : xH) : Prop :=
  True ∧ x_FX Y p s m args meth c ∧ x_K G s ∧ x_St G s s.heap ∧ G.2.2.1 ≤ s.heap.size ∧ va_S (x_A G) s.heap H locs ∧ x_hI G g h H ∧ x_okM h.2.2
def x_Lm (G : xG) (L : xL) : List (Nat × Value) := L.map fun q => (q.1, x_tr (x_ad G) q.2)
def x_LS (Y : xY) (G : xG) (ls : Array Slot) (L : xL) (st : List xV) : Prop := lv_has ls Y.2.2.1 (x_Lm G L) ∧ (∀ q ∈ L, x_ok q.2) ∧ ∀ v ∈ st, x_ok v
/-- from this place on, the method comes to its end with Q -/
def xW (Y : xY) (g : Option Nat) (d mc ms : Nat) (pc : Nat) (L : xL) (st : List xV) (cs : Nat × Nat) (h : xH) (Q : xH → Option xV → Prop) : Prop :=
  ∀ (l : Launch) (G : xG) (p : Program) (e : Env) (s : State) (m : MethodId) (args : Array Value) (below : List Frame) (meth : Method) (c : Code) (H : Heap) (locs : List Loc) (ls : Array Slot),
    x_C Y g G p s m args meth c H locs h → x_LS Y G ls L st →
    W p l e (x_rm d mc ms) s m args below meth c H locs cs.1 cs.2 (MQ below (x_Qc G g Q) args s mc ms (x_A G)) (F0 m pc ls (st.map (x_tr (x_ad G))))
/-- a method's contract -/
def xC (Y : xY) (g : Option Nat) (d mc ms : Nat) (av : List xV) (h : xH) (Q : xH → Option xV → Prop) : Prop :=
  ∀ (l : Launch) (G : xG), (∀ v ∈ av, x_ok v) → x_okM h.2.2 →
    Met l Y.1 (x_ws Y) (x_rm d mc ms) (va_Pc (av.map (x_tr (x_ad G))) (fun U => x_hI G g h U.heap ∧ x_K G U ∧ x_St G U U.heap ∧ G.2.2.1 ≤ U.heap.size)) (x_Qc G g Q) mc ms (x_A G)
section Rules
variable {Y : xY} {g : Option Nat} {d mc ms pc : Nat} {L : xL} {st : List xV} {cs : Nat × Nat} {h : xH} {Q : xH → Option xV → Prop}
theorem xW.iconst {n : Int} (hd : decode Y.2.1 pc = .ok (.iconst n, 1)) (hn : inR n) (k : xW Y g d mc ms (pc + 1) L (vI n :: st) cs h Q) : xW Y g d mc ms pc L st cs h Q := by
  intro l G p e s m args below meth c H locs ls C S
  exact lv_iconst (v := Int32.ofInt n) C.2.1.1 C.2.1.2.1 hd rfl (k l G p e s m args below meth c H locs ls C ⟨S.1, S.2.1, List.forall_mem_cons.mpr ⟨hn, S.2.2⟩⟩)
theorem xW.bipush {n : Int} (hd : decode Y.2.1 pc = .ok (.bipush n, 2)) (hn : inR n) (hv : (Int8.ofInt n).toInt32 = Int32.ofInt n) (k : xW Y g d mc ms (pc + 2) L (vI n :: st) cs h Q) : xW Y g d mc ms pc L st cs h Q := by
  intro l G p e s m args below meth c H locs ls C S
  exact lv_bipush (v := Int32.ofInt n) C.2.1.1 C.2.1.2.1 hd hv (k l G p e s m args below meth c H locs ls C ⟨S.1, S.2.1, List.forall_mem_cons.mpr ⟨hn, S.2.2⟩⟩)
theorem xW.sipush {n : Int} (hd : decode Y.2.1 pc = .ok (.sipush n, 3)) (hn : inR n) (hv : (Int16.ofInt n).toInt32 = Int32.ofInt n) (k : xW Y g d mc ms (pc + 3) L (vI n :: st) cs h Q) : xW Y g d mc ms pc L st cs h Q := by
  intro l G p e s m args below meth c H locs ls C S
  exact lv_sipush (v := Int32.ofInt n) C.2.1.1 C.2.1.2.1 hd hv (k l G p e s m args below meth c H locs ls C ⟨S.1, S.2.1, List.forall_mem_cons.mpr ⟨hn, S.2.2⟩⟩)
theorem xW.lconst {n : Fin 2} {z : Int} (hd : decode Y.2.1 pc = .ok (.lconst n, 1)) (hz : Int64.ofNat (n : Nat) = Int64.ofInt z) (hn : inL z) (k : xW Y g d mc ms (pc + 1) L (vJ z :: st) cs h Q) : xW Y g d mc ms pc L st cs h Q := by
  intro l G p e s m args below meth c H locs ls C S
  exact lv_lconst (v := Int64.ofInt z) C.2.1.1 C.2.1.2.1 hd hz (k l G p e s m args below meth c H locs ls C ⟨S.1, S.2.1, List.forall_mem_cons.mpr ⟨hn, S.2.2⟩⟩)
theorem xW.ldc {n : Int} {i : Nat} {v : Int32} (hd : decode Y.2.1 pc = .ok (.ldc i, 2)) (hw : Cond.constant Y.1.cls i v ∈ x_TBL) (hv : v = Int32.ofInt n) (hn : inR n) (k : xW Y g d mc ms (pc + 2) L (vI n :: st) cs h Q) : xW Y g d mc ms pc L st cs h Q := by
  intro l G p e s m args below meth c H locs ls C S
  subst hv
  exact lv_ldc (v := Int32.ofInt n) C.2.1.1 C.2.1.2.1 C.2.1.2.2.2.2.2.2.1 (C.2.1.2.2.2.2.2.2.2 _ (List.mem_cons_of_mem _ hw)) hd (k l G p e s m args below meth c H locs ls C ⟨S.1, S.2.1, List.forall_mem_cons.mpr ⟨hn, S.2.2⟩⟩)
theorem xW.ldcw {n : Int} {i : Nat} {v : Int32} (hd : decode Y.2.1 pc = .ok (.ldc_w i, 3)) (hw : Cond.constant Y.1.cls i v ∈ x_TBL) (hv : v = Int32.ofInt n) (hn : inR n) (k : xW Y g d mc ms (pc + 3) L (vI n :: st) cs h Q) : xW Y g d mc ms pc L st cs h Q := by
  intro l G p e s m args below meth c H locs ls C S
  subst hv
  exact lv_ldcw (v := Int32.ofInt n) C.2.1.1 C.2.1.2.1 C.2.1.2.2.2.2.2.2.1 (C.2.1.2.2.2.2.2.2.2 _ (List.mem_cons_of_mem _ hw)) hd (k l G p e s m args below meth c H locs ls C ⟨S.1, S.2.1, List.forall_mem_cons.mpr ⟨hn, S.2.2⟩⟩)
theorem xW.ldc2 {n : Int} {i : Nat} {v : Int64} (hd : decode Y.2.1 pc = .ok (.ldc2_w i, 3)) (hw : Cond.constantLong Y.1.cls i v ∈ x_TBL) (hv : v = Int64.ofInt n) (hn : inL n) (k : xW Y g d mc ms (pc + 3) L (vJ n :: st) cs h Q) : xW Y g d mc ms pc L st cs h Q := by
  intro l G p e s m args below meth c H locs ls C S
  subst hv
  exact lv_ldc2 (v := Int64.ofInt n) C.2.1.1 C.2.1.2.1 C.2.1.2.2.2.2.2.2.1 (C.2.1.2.2.2.2.2.2.2 _ (List.mem_cons_of_mem _ hw)) hd (k l G p e s m args below meth c H locs ls C ⟨S.1, S.2.1, List.forall_mem_cons.mpr ⟨hn, S.2.2⟩⟩)
theorem xW.null (hd : decode Y.2.1 pc = .ok (.aconst_null, 1)) (k : xW Y g d mc ms (pc + 1) L (vR none :: st) cs h Q) : xW Y g d mc ms pc L st cs h Q := by
  intro l G p e s m args below meth c H locs ls C S
  exact lv_null C.2.1.1 C.2.1.2.1 hd (k l G p e s m args below meth c H locs ls C ⟨S.1, S.2.1, List.forall_mem_cons.mpr ⟨trivial, S.2.2⟩⟩)
theorem x_at {G : xG} {ls : Array Slot} {nL : Nat} (hl : lv_has ls nL (x_Lm G L)) (q : Nat) {i : Nat} {v : xV} (hq : L[q]? = some (i, v)) : ls[i]? = some (.val (x_tr (x_ad G) v)) :=
  lv_at hl q (by unfold x_Lm; rw [List.getElem?_map, hq]; rfl)
theorem x_okAt (hL : ∀ q ∈ L, x_ok q.2) {q i : Nat} {v : xV} (hq : L[q]? = some (i, v)) : x_ok v := hL _ (List.mem_of_getElem? hq)
theorem xW.iload_n {j : Fin 4} {z : Int} (hd : decode Y.2.1 pc = .ok (.iload_n j, 1)) (q : Nat) (hq : L[q]? = some ((j : Nat), vI z)) (k : xW Y g d mc ms (pc + 1) L (vI z :: st) cs h Q) : xW Y g d mc ms pc L st cs h Q := by
  intro l G p e s m args below meth c H locs ls C S
  exact lv_iload_n C.2.1.1 C.2.1.2.1 hd rfl (x_at S.1 q hq) (k l G p e s m args below meth c H locs ls C ⟨S.1, S.2.1, List.forall_mem_cons.mpr ⟨x_okAt S.2.1 hq, S.2.2⟩⟩)
theorem xW.iload {i : Nat} {z : Int} (hd : decode Y.2.1 pc = .ok (.iload i, 2)) (q : Nat) (hq : L[q]? = some (i, vI z)) (k : xW Y g d mc ms (pc + 2) L (vI z :: st) cs h Q) : xW Y g d mc ms pc L st cs h Q := by
  intro l G p e s m args below meth c H locs ls C S
  exact lv_iload C.2.1.1 C.2.1.2.1 hd (x_at S.1 q hq) (k l G p e s m args below meth c H locs ls C ⟨S.1, S.2.1, List.forall_mem_cons.mpr ⟨x_okAt S.2.1 hq, S.2.2⟩⟩)
theorem xW.lload_n {j : Fin 4} {z : Int} (hd : decode Y.2.1 pc = .ok (.lload_n j, 1)) (q : Nat) (hq : L[q]? = some ((j : Nat), vJ z)) (k : xW Y g d mc ms (pc + 1) L (vJ z :: st) cs h Q) : xW Y g d mc ms pc L st cs h Q := by
  intro l G p e s m args below meth c H locs ls C S
  exact lv_lload_n C.2.1.1 C.2.1.2.1 hd rfl (x_at S.1 q hq) (k l G p e s m args below meth c H locs ls C ⟨S.1, S.2.1, List.forall_mem_cons.mpr ⟨x_okAt S.2.1 hq, S.2.2⟩⟩)
theorem xW.lload {i : Nat} {z : Int} (hd : decode Y.2.1 pc = .ok (.lload i, 2)) (q : Nat) (hq : L[q]? = some (i, vJ z)) (k : xW Y g d mc ms (pc + 2) L (vJ z :: st) cs h Q) : xW Y g d mc ms pc L st cs h Q := by
  intro l G p e s m args below meth c H locs ls C S
  exact lv_lload C.2.1.1 C.2.1.2.1 hd (x_at S.1 q hq) (k l G p e s m args below meth c H locs ls C ⟨S.1, S.2.1, List.forall_mem_cons.mpr ⟨x_okAt S.2.1 hq, S.2.2⟩⟩)
theorem xW.aload_n {j : Fin 4} {o : Option Nat} (hd : decode Y.2.1 pc = .ok (.aload_n j, 1)) (q : Nat) (hq : L[q]? = some ((j : Nat), vR o)) (k : xW Y g d mc ms (pc + 1) L (vR o :: st) cs h Q) : xW Y g d mc ms pc L st cs h Q := by
  intro l G p e s m args below meth c H locs ls C S
  have kk := k l G p e s m args below meth c H locs ls C ⟨S.1, S.2.1, List.forall_mem_cons.mpr ⟨trivial, S.2.2⟩⟩
  cases o with
  | none => exact lv_aload_nN C.2.1.1 C.2.1.2.1 hd rfl (x_at S.1 q hq) kk
  | some a => exact lv_aload_n C.2.1.1 C.2.1.2.1 hd rfl (x_at S.1 q hq) kk
theorem xW.aload {i : Nat} {o : Option Nat} (hd : decode Y.2.1 pc = .ok (.aload i, 2)) (q : Nat) (hq : L[q]? = some (i, vR o)) (k : xW Y g d mc ms (pc + 2) L (vR o :: st) cs h Q) : xW Y g d mc ms pc L st cs h Q := by
  intro l G p e s m args below meth c H locs ls C S
  have kk := k l G p e s m args below meth c H locs ls C ⟨S.1, S.2.1, List.forall_mem_cons.mpr ⟨trivial, S.2.2⟩⟩
  cases o with
  | none => exact lv_aloadN C.2.1.1 C.2.1.2.1 hd (x_at S.1 q hq) kk
  | some a => exact lv_aload C.2.1.1 C.2.1.2.1 hd (x_at S.1 q hq) kk
end Rules
/-- the locals behind a store: sorted by their places; what a long's second half hid is gone -/
def x_ins (i : Nat) (v : xV) : xL → xL
  | [] => [(i, v)]
  | q :: t => match Nat.blt i q.1 with
    | true => (i, v) :: q :: t
    | false => q :: x_ins i v t
def x_drop1 (i : Nat) : xL → xL
  | [] => []
  | q :: t => match Nat.beq q.1 i || (Nat.beq (q.1 + 1) i && x_isJ q.2) with
    | true => x_drop1 i t
    | false => q :: x_drop1 i t
def x_drop2 (i : Nat) : xL → xL
  | [] => []
  | q :: t => match Nat.beq q.1 i || (Nat.beq q.1 (i + 1) || (Nat.beq (q.1 + 1) i && x_isJ q.2)) with
    | true => x_drop2 i t
    | false => q :: x_drop2 i t
theorem x_ins_mem {i : Nat} {v : xV} : ∀ {L : xL} {q : Nat × xV}, q ∈ x_ins i v L → q = (i, v) ∨ q ∈ L
  | [], q, h => Or.inl (List.mem_singleton.mp h)
  | r :: t, q, h => by
    unfold x_ins at h
    split at h
    · rcases List.mem_cons.mp h with h | h
      · exact Or.inl h
      · exact Or.inr h
    · rcases List.mem_cons.mp h with h | h
      · exact Or.inr (List.mem_cons.mpr (Or.inl h))
      · rcases x_ins_mem h with h | h
        · exact Or.inl h
        · exact Or.inr (List.mem_cons_of_mem _ h)
theorem x_drop1_mem {i : Nat} : ∀ {L : xL} {q : Nat × xV}, q ∈ x_drop1 i L → q ∈ L ∧ (Nat.beq q.1 i || (Nat.beq (q.1 + 1) i && x_isJ q.2)) = false
  | [], q, h => by cases h
  | r :: t, q, h => by
    unfold x_drop1 at h
    split at h
    next => exact ⟨List.mem_cons_of_mem _ (x_drop1_mem h).1, (x_drop1_mem h).2⟩
    next hc =>
      rcases List.mem_cons.mp h with h | h
      · subst h
        exact ⟨List.mem_cons_self, hc⟩
      · exact ⟨List.mem_cons_of_mem _ (x_drop1_mem h).1, (x_drop1_mem h).2⟩
theorem x_drop2_mem {i : Nat} : ∀ {L : xL} {q : Nat × xV}, q ∈ x_drop2 i L → q ∈ L ∧ (Nat.beq q.1 i || (Nat.beq q.1 (i + 1) || (Nat.beq (q.1 + 1) i && x_isJ q.2))) = false
  | [], q, h => by cases h
  | r :: t, q, h => by
    unfold x_drop2 at h
    split at h
    next => exact ⟨List.mem_cons_of_mem _ (x_drop2_mem h).1, (x_drop2_mem h).2⟩
    next hc =>
      rcases List.mem_cons.mp h with h | h
      · subst h
        exact ⟨List.mem_cons_self, hc⟩
      · exact ⟨List.mem_cons_of_mem _ (x_drop2_mem h).1, (x_drop2_mem h).2⟩
theorem x_nbeq {a b : Nat} : Nat.beq a b = (a == b) := by rw [Bool.eq_iff_iff, Nat.beq_eq, beq_iff_eq]
theorem x_put1 {G : xG} {ls' : Array Slot} {nL i : Nat} {L : xL} {v : xV} (hl : lv_has ls' nL ((i, x_tr (x_ad G) v) :: (x_Lm G L).filter (fun q => !(q.1 == i) && !(q.1 + 1 == i && q.2.category == 2)))) : lv_has ls' nL (x_Lm G (x_ins i v (x_drop1 i L))) := by
  refine ⟨hl.1, hl.2.1, fun q hq => hl.2.2 q ?_⟩
  obtain ⟨r, hr, rfl⟩ := List.mem_map.mp hq
  rcases x_ins_mem hr with rfl | hr
  · exact List.mem_cons_self
  · obtain ⟨h1, h2⟩ := x_drop1_mem hr
    refine List.mem_cons_of_mem _ (List.mem_filter.mpr ⟨List.mem_map.mpr ⟨r, h1, rfl⟩, ?_⟩)
    simp only [x_tr_cat]
    simp only [x_nbeq] at h2
    revert h2
    cases x_isJ r.2 <;> cases (r.1 == i) <;> cases (r.1 + 1 == i) <;> simp
theorem x_put2 {G : xG} {ls' : Array Slot} {nL i : Nat} {L : xL} {v : xV} (hl : lv_has ls' nL ((i, x_tr (x_ad G) v) :: (x_Lm G L).filter (fun q => !(q.1 == i) && (!(q.1 == i + 1) && !(q.1 + 1 == i && q.2.category == 2))))) : lv_has ls' nL (x_Lm G (x_ins i v (x_drop2 i L))) := by
  refine ⟨hl.1, hl.2.1, fun q hq => hl.2.2 q ?_⟩
  obtain ⟨r, hr, rfl⟩ := List.mem_map.mp hq
  rcases x_ins_mem hr with rfl | hr
  · exact List.mem_cons_self
  · obtain ⟨h1, h2⟩ := x_drop2_mem hr
    refine List.mem_cons_of_mem _ (List.mem_filter.mpr ⟨List.mem_map.mpr ⟨r, h1, rfl⟩, ?_⟩)
    simp only [x_tr_cat]
    simp only [x_nbeq] at h2
    revert h2
    cases x_isJ r.2 <;> cases (r.1 == i) <;> cases (r.1 == i + 1) <;> cases (r.1 + 1 == i) <;> simp
theorem x_okI {L : xL} {i : Nat} {v : xV} (hL : ∀ q ∈ L, x_ok q.2) (hv : x_ok v) : ∀ q ∈ x_ins i v L, x_ok q.2 := by
  intro q hq
  rcases x_ins_mem hq with rfl | h
  · exact hv
  · exact hL q h
section Stores
variable {Y : xY} {g : Option Nat} {d mc ms pc : Nat} {L L' : xL} {st : List xV} {cs : Nat × Nat} {h : xH} {Q : xH → Option xV → Prop}
theorem xW.istore {i : Nat} {z : Int} (hd : decode Y.2.1 pc = .ok (.istore i, 2)) (hi : i < Y.2.2.1) (hl : x_ins i (vI z) (x_drop1 i L) = L') (k : xW Y g d mc ms (pc + 2) L' st cs h Q) : xW Y g d mc ms pc L (vI z :: st) cs h Q := by
  intro l G p e s m args below meth c H locs ls C S
  subst hl
  obtain ⟨s1, s2⟩ := List.forall_mem_cons.mp S.2.2
  exact lv_istore C.2.1.1 C.2.1.2.1 hd S.1 hi rfl (fun ls' hl' => k l G p e s m args below meth c H locs ls' C ⟨x_put1 (v := vI z) hl', x_okI (fun q hq => S.2.1 q (x_drop1_mem hq).1) s1, s2⟩)
theorem xW.istore_n {j : Fin 4} {z : Int} (hd : decode Y.2.1 pc = .ok (.istore_n j, 1)) (hi : (j : Nat) < Y.2.2.1) (hl : x_ins (j : Nat) (vI z) (x_drop1 (j : Nat) L) = L') (k : xW Y g d mc ms (pc + 1) L' st cs h Q) : xW Y g d mc ms pc L (vI z :: st) cs h Q := by
  intro l G p e s m args below meth c H locs ls C S
  subst hl
  obtain ⟨s1, s2⟩ := List.forall_mem_cons.mp S.2.2
  exact lv_istore_n C.2.1.1 C.2.1.2.1 hd rfl S.1 hi rfl (fun ls' hl' => k l G p e s m args below meth c H locs ls' C ⟨x_put1 (v := vI z) hl', x_okI (fun q hq => S.2.1 q (x_drop1_mem hq).1) s1, s2⟩)
theorem xW.lstore {i : Nat} {z : Int} (hd : decode Y.2.1 pc = .ok (.lstore i, 2)) (hi : i + 1 < Y.2.2.1) (hl : x_ins i (vJ z) (x_drop2 i L) = L') (k : xW Y g d mc ms (pc + 2) L' st cs h Q) : xW Y g d mc ms pc L (vJ z :: st) cs h Q := by
  intro l G p e s m args below meth c H locs ls C S
  subst hl
  obtain ⟨s1, s2⟩ := List.forall_mem_cons.mp S.2.2
  exact lv_lstore C.2.1.1 C.2.1.2.1 hd S.1 hi rfl (fun ls' hl' => k l G p e s m args below meth c H locs ls' C ⟨x_put2 (v := vJ z) hl', x_okI (fun q hq => S.2.1 q (x_drop2_mem hq).1) s1, s2⟩)
theorem xW.lstore_n {j : Fin 4} {z : Int} (hd : decode Y.2.1 pc = .ok (.lstore_n j, 1)) (hi : (j : Nat) + 1 < Y.2.2.1) (hl : x_ins (j : Nat) (vJ z) (x_drop2 (j : Nat) L) = L') (k : xW Y g d mc ms (pc + 1) L' st cs h Q) : xW Y g d mc ms pc L (vJ z :: st) cs h Q := by
  intro l G p e s m args below meth c H locs ls C S
  subst hl
  obtain ⟨s1, s2⟩ := List.forall_mem_cons.mp S.2.2
  exact lv_lstore_n C.2.1.1 C.2.1.2.1 hd rfl S.1 hi rfl (fun ls' hl' => k l G p e s m args below meth c H locs ls' C ⟨x_put2 (v := vJ z) hl', x_okI (fun q hq => S.2.1 q (x_drop2_mem hq).1) s1, s2⟩)
theorem xW.astore {i : Nat} {o : Option Nat} (hd : decode Y.2.1 pc = .ok (.astore i, 2)) (hi : i < Y.2.2.1) (hl : x_ins i (vR o) (x_drop1 i L) = L') (k : xW Y g d mc ms (pc + 2) L' st cs h Q) : xW Y g d mc ms pc L (vR o :: st) cs h Q := by
  intro l G p e s m args below meth c H locs ls C S
  subst hl
  obtain ⟨s1, s2⟩ := List.forall_mem_cons.mp S.2.2
  cases o with
  | none => exact lv_astoreN C.2.1.1 C.2.1.2.1 hd S.1 hi rfl (fun ls' hl' => k l G p e s m args below meth c H locs ls' C ⟨x_put1 (v := vR none) hl', x_okI (fun q hq => S.2.1 q (x_drop1_mem hq).1) s1, s2⟩)
  | some a => exact lv_astore C.2.1.1 C.2.1.2.1 hd S.1 hi rfl (fun ls' hl' => k l G p e s m args below meth c H locs ls' C ⟨x_put1 (v := vR (some a)) hl', x_okI (fun q hq => S.2.1 q (x_drop1_mem hq).1) s1, s2⟩)
theorem xW.astore_n {j : Fin 4} {o : Option Nat} (hd : decode Y.2.1 pc = .ok (.astore_n j, 1)) (hi : (j : Nat) < Y.2.2.1) (hl : x_ins (j : Nat) (vR o) (x_drop1 (j : Nat) L) = L') (k : xW Y g d mc ms (pc + 1) L' st cs h Q) : xW Y g d mc ms pc L (vR o :: st) cs h Q := by
  intro l G p e s m args below meth c H locs ls C S
  subst hl
  obtain ⟨s1, s2⟩ := List.forall_mem_cons.mp S.2.2
  cases o with
  | none => exact lv_astore_nN C.2.1.1 C.2.1.2.1 hd rfl S.1 hi rfl (fun ls' hl' => k l G p e s m args below meth c H locs ls' C ⟨x_put1 (v := vR none) hl', x_okI (fun q hq => S.2.1 q (x_drop1_mem hq).1) s1, s2⟩)
  | some a => exact lv_astore_n C.2.1.1 C.2.1.2.1 hd rfl S.1 hi rfl (fun ls' hl' => k l G p e s m args below meth c H locs ls' C ⟨x_put1 (v := vR (some a)) hl', x_okI (fun q hq => S.2.1 q (x_drop1_mem hq).1) s1, s2⟩)
theorem xW.iinc {i q : Nat} {n z : Int} (hd : decode Y.2.1 pc = .ok (.iinc i n, 3)) (hq : L[q]? = some (i, vI z)) (hi : i < Y.2.2.1) (hr : inR (z + n)) (hl : x_ins i (vI (z + n)) (x_drop1 i L) = L') (k : xW Y g d mc ms (pc + 3) L' st cs h Q) : xW Y g d mc ms pc L st cs h Q := by
  intro l G p e s m args below meth c H locs ls C S
  subst hl
  refine lv_iinc (k := q) (x := Int32.ofInt z) (v := Int32.ofInt (z + n)) C.2.1.1 C.2.1.2.1 hd S.1 (by unfold x_Lm; rw [List.getElem?_map, hq]; rfl) (Int32.ofInt_add z n).symm hi rfl (fun ls' hl' => k l G p e s m args below meth c H locs ls' C ⟨x_put1 (v := vI (z + n)) hl', x_okI (fun q hq => S.2.1 q (x_drop1_mem hq).1) hr, S.2.2⟩)
/-- fewer locals, by their places -/
theorem xW.sub (ks : List Nat) (hl : ks.filterMap (fun i => L[i]?) = L') (k : xW Y g d mc ms pc L' st cs h Q) : xW Y g d mc ms pc L st cs h Q := by
  intro l G p e s m args below meth c H locs ls C S
  subst hl
  have hm : ∀ q ∈ ks.filterMap (fun i => L[i]?), q ∈ L := fun q hq => by
    obtain ⟨i, -, hi⟩ := List.mem_filterMap.mp hq
    exact List.mem_of_getElem? hi
  exact k l G p e s m args below meth c H locs ls C ⟨⟨S.1.1, S.1.2.1, fun q hq => by
    obtain ⟨r, hr, rfl⟩ := List.mem_map.mp hq
    exact S.1.2.2 _ (List.mem_map.mpr ⟨r, hm r hr, rfl⟩)⟩, fun q hq => S.2.1 q (hm q hq), S.2.2⟩
theorem xW.mono {Q' : xH → Option xV → Prop} (hQ : ∀ h r, Q h r → Q' h r) (k : xW Y g d mc ms pc L st cs h Q) : xW Y g d mc ms pc L st cs h Q' := by
  intro l G p e s m args below meth c H locs ls C S T hT X
  obtain ⟨t, a, o, b1, b2, ⟨⟨h', r, c1, c2, c3⟩, c4⟩, b4⟩ := k l G p e s m args below meth c H locs ls C S T hT X
  exact ⟨t, a, o, b1, b2, ⟨⟨h', r, c1, hQ h' r c2, c3⟩, c4⟩, b4⟩
theorem xC.mono {av : List xV} {Q' : xH → Option xV → Prop} (hQ : ∀ h r, Q h r → Q' h r) (k : xC Y g d mc ms av h Q) : xC Y g d mc ms av h Q' := by
  intro l G hav hok p e ha hc hk s m args below hf happ hP hT
  obtain ⟨kk, o, a1, a2, a3, ⟨⟨h', r, c1, c2, c3⟩, c4⟩, a5⟩ := k l G hav hok p e ha hc hk s m args below hf happ hP hT
  exact ⟨kk, o, a1, a2, a3, ⟨⟨h', r, c1, hQ h' r c2, c3⟩, c4⟩, a5⟩
end Stores
