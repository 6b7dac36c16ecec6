/-! int[3][5]: the outer row, then its three rows, each put into it at once -/
section Multi
variable {E : CtlPost} {e : Env} {d : Bool} {acts : List Action} {s : State}
theorem x_wN {c comp : ClassId} {k : Class} {ty : FieldType} {len : Nat} {v : Value} (hk : s.vm.classes[c]? = some k) (hkind : k.kind = .array comp ty) (hl : ¬ len > e.platform.arrayLengthLimit) (hh : ¬ len * componentBytes ty > e.platform.maxHeapBytes) (hf : fits ty v = true) (hd : v.isDefault = true)
    {Q : Addr → Pre} (h1 : s.heap.size < e.platform.maxCells) (h2 : s.slotsUsed + len ≤ e.platform.maxSlots) (hq : Q s.heap.size d acts (s.pushCell (arrV c len fun _ => v))) : wp (Jvm.newArray c len v) Q E e d acts s := by
  rw [← arrV_new] at hq
  have e1 : ∀ i w, (Array.replicate len v)[i]? = some w → s.fitsSlot c .none i w = true := fun i w hw => by
    rw [Array.getElem?_replicate] at hw
    by_cases hi : i < len
    · rw [if_pos hi] at hw
      cases hw
      simp [State.fitsSlot, State.slotType?, hk, hkind, hf]
    · rw [if_neg hi] at hw
      cases hw
  have e2 : allocActs (Array.replicate len v) s.heap.size acts = acts := by
    have e3 : ((Array.replicate len v).all (·.isDefault)) = true := by
      rw [Array.all_replicate]
      split <;> simp [hd]
    unfold allocActs
    rw [if_pos e3]
  simp only [Jvm.newArray, Jvm.arrayFits, wp_bind', W.ask, W.ite, hl, if_false, wp_pure', W.theClass, hk, hkind, hh, W.alloc, W.stop, Option.some.injEq, exists_eq_left', Array.size_replicate, e2]
  rw [if_neg (by omega)]
  exact ⟨h1, h2, e1, hq⟩
/-- one turn: a row of five is made and put at place i of the outer row at h -/
def x_tn (h : Nat) (cO cI : ClassId) (f : Nat → Value) (i : Nat) (S : State) : State := (S.pushCell (arrV cI 5 fun _ => .int 0)).setCell h ((arrV cO 3 f).setSlot i (.ref S.heap.size))
theorem x_tn_facts {h i : Nat} {cO cI : ClassId} {f : Nat → Value} {S : State} (hS : S.heap[h]? = some (arrV cO 3 f)) : (x_tn h cO cI f i S).heap.size = S.heap.size + 1 ∧ (x_tn h cO cI f i S).heap[h]? = some (arrV cO 3 (updV f i (.ref S.heap.size))) ∧ (x_tn h cO cI f i S).heap[S.heap.size]? = some (arrV cI 5 fun _ => .int 0) ∧ (∀ q, q < S.heap.size → q ≠ h → (x_tn h cO cI f i S).heap[q]? = S.heap[q]?) ∧ (x_tn h cO cI f i S).vm = S.vm ∧ (x_tn h cO cI f i S).slotsUsed = S.slotsUsed + 5 := by
  have hlt : h < S.heap.size := (Array.getElem?_eq_some_iff.mp hS).1
  have hlt' : h < (S.pushCell (arrV cI 5 fun _ => .int 0)).heap.size := by
    show h < (S.heap.push _).size
    rw [Array.size_push]; omega
  unfold x_tn
  refine ⟨?_, ?_, ?_, fun q hq hne => ?_, rfl, ?_⟩
  · rw [size_setCell]
    show (S.heap.push _).size = _
    rw [Array.size_push]
  · rw [heapAt_setCell_self _ hlt', arrV_store]
  · rw [heapAt_setCell_ne _ (Nat.ne_of_lt hlt)]
    show (S.heap.push _)[S.heap.size]? = _
    rw [Array.getElem?_push_size]
  · rw [heapAt_setCell_ne _ (Ne.symm hne)]
    show (S.heap.push _)[q]? = _
    rw [Array.getElem?_push, if_neg (Nat.ne_of_lt hq)]
  · show S.slotsUsed + (arrV cI 5 fun _ => Value.int 0).slots.size = _
    rw [arrV_size]
theorem x_mk5 {cI cc : ClassId} {kc : Class} (hkc : s.vm.classes[cI]? = some kc) (hkd : kc.kind = .array cc .int) (hl : ¬ 5 > e.platform.arrayLengthLimit) (hh : ¬ 20 > e.platform.maxHeapBytes) (h1 : s.heap.size < e.platform.maxCells) (h2 : s.slotsUsed + 5 ≤ e.platform.maxSlots)
    {Q : Addr → Pre} (hq : Q s.heap.size d acts (s.pushCell (arrV cI 5 fun _ => .int 0))) : wp (multianewarray.make cI [(5 : Int32)]) Q E e d acts s := by
  rw [multianewarray.make]
  have h0 : ¬ (5 : Int32) < 0 := by decide
  have h5 : (5 : Int32).toNatClampNeg = 5 := by decide
  simp only [wp_bind', W.ite, h0, if_false, wp_pure', W.theClass, hkc, hkd, Option.some.injEq, exists_eq_left', h5]
  exact x_wN hkc hkd hl hh rfl rfl h1 h2 hq
theorem x_turn {h i : Nat} {cO cI cc comp : ClassId} {kO kc : Class} {f : Nat → Value} (hO : s.heap[h]? = some (arrV cO 3 f)) (hkO : s.vm.classes[cO]? = some kO) (hkdO : kO.kind = .array comp (.array .int)) (hkc : s.vm.classes[cI]? = some kc) (hkd : kc.kind = .array cc .int) (hl : ¬ 5 > e.platform.arrayLengthLimit) (hh : ¬ 20 > e.platform.maxHeapBytes) (h1 : s.heap.size < e.platform.maxCells) (h2 : s.slotsUsed + 5 ≤ e.platform.maxSlots) (hi : i < 3)
    {Q : ForInStep PUnit → Pre} (hq : ∀ d' acts', Q (ForInStep.yield PUnit.unit) d' acts' (x_tn h cO cI f i s)) : wp (multianewarray.make cI [(5 : Int32)]) (fun a => wp (do Jvm.writeLoc h i (.ref a); Pure.pure (ForInStep.yield PUnit.unit)) Q E e) E e d acts s := by
  refine x_mk5 hkc hkd hl hh h1 h2 ?_
  have hlt : h < s.heap.size := (Array.getElem?_eq_some_iff.mp hO).1
  simp only [wp_bind', wp_pure', W.writeLoc]
  refine ⟨arrV cO 3 f, ?_, (fun w => by cases w), by rw [arrV_size]; exact hi, ?_, hq _ _⟩
  · show (s.heap.push _)[h]? = _
    rw [Array.getElem?_push, if_neg (Nat.ne_of_lt hlt)]
    exact hO
  · show s.fitsSlot cO .none i _ = true
    simp [State.fitsSlot, State.slotType?, hkO, hkdO, fits]
/-- the three turns -/
def x_f0 : Nat → Value := fun _ => .null
def x_f1 (h : Nat) : Nat → Value := updV x_f0 0 (.ref (h + 1))
def x_f2 (h : Nat) : Nat → Value := updV (x_f1 h) 1 (.ref (h + 2))
def x_f3 (h : Nat) : Nat → Value := updV (x_f2 h) 2 (.ref (h + 3))
def x_S0 (cO : ClassId) (S : State) : State := S.pushCell (arrV cO 3 x_f0)
def x_S1 (cO cI : ClassId) (S : State) : State := x_tn S.heap.size cO cI x_f0 0 (x_S0 cO S)
def x_S2 (cO cI : ClassId) (S : State) : State := x_tn S.heap.size cO cI (x_f1 S.heap.size) 1 (x_S1 cO cI S)
def x_S3 (cO cI : ClassId) (S : State) : State := x_tn S.heap.size cO cI (x_f2 S.heap.size) 2 (x_S2 cO cI S)
theorem x_S0_facts (cO : ClassId) (S : State) : (x_S0 cO S).heap.size = S.heap.size + 1 ∧ (x_S0 cO S).heap[S.heap.size]? = some (arrV cO 3 x_f0) ∧ (∀ q, q < S.heap.size → (x_S0 cO S).heap[q]? = S.heap[q]?) ∧ (x_S0 cO S).vm = S.vm ∧ (x_S0 cO S).slotsUsed = S.slotsUsed + 3 := by
  refine ⟨?_, ?_, fun q hq => ?_, rfl, ?_⟩
  · show (S.heap.push _).size = _
    rw [Array.size_push]
  · show (S.heap.push _)[S.heap.size]? = _
    rw [Array.getElem?_push_size]
  · show (S.heap.push _)[q]? = _
    rw [Array.getElem?_push, if_neg (Nat.ne_of_lt hq)]
  · show S.slotsUsed + (arrV cO 3 x_f0).slots.size = _
    rw [arrV_size]
theorem x_S1_facts (cO cI : ClassId) (S : State) : (x_S1 cO cI S).heap.size = S.heap.size + 2 ∧ (x_S1 cO cI S).heap[S.heap.size]? = some (arrV cO 3 (x_f1 S.heap.size)) ∧ (x_S1 cO cI S).heap[S.heap.size + 1]? = some (arrV cI 5 fun _ => .int 0) ∧ (∀ q, q < S.heap.size → (x_S1 cO cI S).heap[q]? = S.heap[q]?) ∧ (x_S1 cO cI S).vm = S.vm ∧ (x_S1 cO cI S).slotsUsed = S.slotsUsed + 8 := by
  obtain ⟨a1, a2, a3, a4, a5⟩ := x_S0_facts cO S
  obtain ⟨b1, b2, b3, b4, b5, b6⟩ := x_tn_facts (i := 0) (cI := cI) a2
  rw [a1] at b1 b2 b3
  exact ⟨b1, b2, b3, fun q hq => by rw [← a3 q hq]; exact b4 q (by omega) (by omega), b5.trans a4, by rw [a5] at b6; exact b6⟩
theorem x_S2_facts (cO cI : ClassId) (S : State) : (x_S2 cO cI S).heap.size = S.heap.size + 3 ∧ (x_S2 cO cI S).heap[S.heap.size]? = some (arrV cO 3 (x_f2 S.heap.size)) ∧ (x_S2 cO cI S).heap[S.heap.size + 1]? = some (arrV cI 5 fun _ => .int 0) ∧ (x_S2 cO cI S).heap[S.heap.size + 2]? = some (arrV cI 5 fun _ => .int 0) ∧ (∀ q, q < S.heap.size → (x_S2 cO cI S).heap[q]? = S.heap[q]?) ∧ (x_S2 cO cI S).vm = S.vm ∧ (x_S2 cO cI S).slotsUsed = S.slotsUsed + 13 := by
  obtain ⟨a1, a2, a6, a3, a4, a5⟩ := x_S1_facts cO cI S
  obtain ⟨b1, b2, b3, b4, b5, b6⟩ := x_tn_facts (i := 1) (cI := cI) a2
  rw [a1] at b1 b2 b3
  exact ⟨b1, b2, by rw [← a6]; exact b4 _ (by omega) (by omega), b3, fun q hq => by rw [← a3 q hq]; exact b4 q (by omega) (by omega), b5.trans a4, by rw [a5] at b6; exact b6⟩
theorem x_S3_facts (cO cI : ClassId) (S : State) : (x_S3 cO cI S).heap.size = S.heap.size + 4 ∧ (x_S3 cO cI S).heap[S.heap.size]? = some (arrV cO 3 (x_f3 S.heap.size)) ∧ (∀ j, j < 3 → (x_S3 cO cI S).heap[S.heap.size + 1 + j]? = some (arrV cI 5 fun _ => .int 0)) ∧ (∀ q, q < S.heap.size → (x_S3 cO cI S).heap[q]? = S.heap[q]?) := by
  obtain ⟨a1, a2, a6, a7, a3, a4, a5⟩ := x_S2_facts cO cI S
  obtain ⟨b1, b2, b3, b4, b5, b6⟩ := x_tn_facts (i := 2) (cI := cI) a2
  rw [a1] at b1 b2 b3
  refine ⟨b1, b2, fun j hj => ?_, fun q hq => by rw [← a3 q hq]; exact b4 q (by omega) (by omega)⟩
  have : j = 0 ∨ j = 1 ∨ j = 2 := by omega
  rcases this with rfl | rfl | rfl
  · rw [← a6]; exact b4 _ (by omega) (by omega)
  · rw [← a7]; exact b4 _ (by omega) (by omega)
  · exact b3
theorem x_mk35 {cO cI cc : ClassId} {kO kc : Class} (hkO : s.vm.classes[cO]? = some kO) (hkdO : kO.kind = .array cI (.array .int)) (hkc : s.vm.classes[cI]? = some kc) (hkd : kc.kind = .array cc .int) (hl : ¬ 5 > e.platform.arrayLengthLimit) (hh : ¬ 20 > e.platform.maxHeapBytes) (h1 : s.heap.size + 4 ≤ e.platform.maxCells) (h2 : s.slotsUsed + 18 ≤ e.platform.maxSlots)
    {Q : Addr → Pre} (hq : ∀ d' acts', Q s.heap.size d' acts' (x_S3 cO cI s)) : wp (multianewarray.make cO [(3 : Int32), (5 : Int32)]) Q E e d acts s := by
  have c3 : ¬ (3 : Int32) < 0 := by decide
  have n3 : (3 : Int32).toNatClampNeg = 3 := by decide
  have z3 : ((3 : Int32) == 0) = false := by decide
  rw [multianewarray.make]
  simp only [wp_bind', W.ite, c3, if_false, wp_pure', W.theClass, hkO, hkdO, Option.some.injEq, exists_eq_left', n3]
  refine x_wN hkO hkdO (by omega) (by show ¬ 3 * 4 > _; omega) rfl rfl (by omega) (by omega) ?_
  obtain ⟨a1, a2, a3, a4, a5⟩ := x_S0_facts cO s
  obtain ⟨b1, b2, -, b3, b4, b5⟩ := x_S1_facts cO cI s
  obtain ⟨d1, d2, -, -, d3, d4, d5⟩ := x_S2_facts cO cI s
  rw [if_neg (by rw [z3]; decide), wp_bind', Std.Legacy.Range.forIn_eq_forIn_range']
  have hsz : ([:3] : Std.Legacy.Range).size = 3 := by simp [Std.Legacy.Range.size]
  rw [hsz]
  show wp (forIn [0, 1, 2] PUnit.unit _) _ E e d acts _
  simp only [List.forIn_cons, List.forIn_nil, wp_bind', wp_pure']
  have k0 : s.vm.classes[cI]? = some kc := hkc
  refine x_turn (s := x_S0 cO s) (i := 0) a2 (by rw [a4]; exact hkO) hkdO (by rw [a4]; exact hkc) hkd hl hh (by rw [a1]; omega) (by rw [a5]; omega) (by decide) (fun d1' acts1 => ?_)
  simp only [wp_bind', wp_pure']
  refine x_turn (s := x_S1 cO cI s) (i := 1) b2 (by rw [b4]; exact hkO) hkdO (by rw [b4]; exact hkc) hkd hl hh (by rw [b1]; omega) (by rw [b5]; omega) (by decide) (fun d2' acts2 => ?_)
  simp only [wp_bind', wp_pure']
  refine x_turn (s := x_S2 cO cI s) (i := 2) d2 (by rw [d4]; exact hkO) hkdO (by rw [d4]; exact hkc) hkd hl hh (by rw [d1]; omega) (by rw [d5]; omega) (by decide) (fun d3' acts3 => ?_)
  simp only [wp_bind', wp_pure']
  exact hq _ _
end Multi
section MultiW
variable {p : Program} {l : Launch} {e : Env} {R : Room} {s : State} {m : MethodId} {args : Array Value} {below : List Frame} {meth : Method} {c : Code} {T : State} {locs : List Loc} {cells slots : Nat}
theorem x_standT {h i : Nat} {cO cI : ClassId} {f : Nat → Value} (X : Stand p l e R s m args below meth c T locs cells slots) (hO : T.heap[h]? = some (arrV cO 3 f)) : Stand p l e R s m args below meth c (x_tn h cO cI f i T) (locs ++ [⟨h, i⟩]) (cells + 1) (slots + 5) := by
  have hlt : h < T.heap.size := (Array.getElem?_eq_some_iff.mp hO).1
  have hcell : (T.pushCell (arrV cI 5 fun _ => .int 0)).heap[h]? = some (arrV cO 3 f) := by
    show (T.heap.push _)[h]? = _
    rw [Array.getElem?_push, if_neg (Nat.ne_of_lt hlt)]
    exact hO
  have X1 := (X.pushed (arrV cI 5 fun _ => .int 0)).stored hcell i (.ref T.heap.size)
  rw [arrV_size] at X1
  exact X1
theorem x_stand3 (cO cI : ClassId) (X : Stand p l e R s m args below meth c T locs cells slots) : Stand p l e R s m args below meth c (x_S3 cO cI T) (((locs ++ [⟨T.heap.size, 0⟩]) ++ [⟨T.heap.size, 1⟩]) ++ [⟨T.heap.size, 2⟩]) (cells + 4) (slots + 18) := by
  have X0 := X.pushed (arrV cO 3 x_f0)
  rw [arrV_size] at X0
  exact x_standT (x_standT (x_standT X0 (x_S0_facts cO T).2.1) (x_S1_facts cO cI T).2.1) (x_S2_facts cO cI T).2.1
theorem x_S3_top (cO cI : ClassId) (S : State) (f : JFrame) : x_S3 cO cI (S.setTop f) = (x_S3 cO cI S).setTop f := rfl
theorem x_multi (X : Stand p l e R s m args below meth c T locs cells slots) (hexec : p.tables.exec = Jvm.exec) {own : String} {index : Nat} (hown : s.vm.findClass own = some m.cls) (hclink : (Cond.classLink own index "[[I").before args s = true) (hover : (Cond.arrayOver (.array .int)).before args s = true) (harr : (Cond.arrayClass .int).before args s = true)
    {pc : Nat} {ls : Array Slot} {rest : List Value} (hdg : decode c.code pc = .ok (.multianewarray index 2, 4)) (hcells : cells + 4 ≤ R.cells) (hslots : slots + 18 ≤ R.slots) :
    ∃ (vm₁ : Vm) (cO cI : ClassId), s.WarmedH vm₁ ∧ s.vm.findClass ("[" ++ (FieldType.array .int).toString) = some cO ∧ s.vm.findClass (FieldType.array .int).toString = some cI ∧
      Stand p l e R s m args below meth c (x_S3 cO cI (T.setVm vm₁)) (((locs ++ [⟨T.heap.size, 0⟩]) ++ [⟨T.heap.size, 1⟩]) ++ [⟨T.heap.size, 2⟩]) (cells + 4) (slots + 18) ∧
      ∀ target, Steps p.tables e below ((x_S3 cO cI (T.setVm vm₁)).setTop (F0 m (pc + 4) ls (.ref T.heap.size :: rest))) target → Steps p.tables e below (T.setTop (F0 m pc ls (.int 5 :: .int 3 :: rest))) target := by
  have hpl : e.platform.magicAccessors = ({} : Platform).magicAccessors := by rw [X.admits.platform]
  obtain ⟨cI, cO, kO, hcI, -, hkO, hkdO, hnO⟩ := arrayOverA_spec hover
  obtain ⟨cI', kC, cc, hcI', hkC, hkdC⟩ := Cond.arrayClass_spec harr
  have ecI : cI' = cI := Option.some.inj (hcI'.symm.trans hcI)
  subst ecI
  obtain ⟨c0, hfc0, hcl⟩ := Cond.classLink_spec hown hclink e.platform hpl
  have ecO : c0 = cO := Option.some.inj (hfc0.symm.trans hnO)
  subst ecO
  generalize hg : F0 m pc ls (.int 5 :: .int 3 :: rest) = g
  have hgm : g.method = m := by rw [← hg]
  have hgp : g.pc = pc := by rw [← hg]
  have hgs : g.stack = .int 5 :: .int 3 :: rest := by rw [← hg]
  have hgF : F0 m (pc + 4) ls (.ref T.heap.size :: rest) = { g with pc := g.pc + 4, stack := .ref T.heap.size :: rest } := by rw [← hg]
  rw [hgF]
  rw [← hgp] at hdg
  subst hgm
  obtain ⟨hg₁, hwarm₁, hready₁⟩ := State.classEntry (e := e) X.warmed hcl
  generalize T.vm.noted g.method.cls index (.cls c0) = vm₁ at hg₁ hwarm₁ hready₁
  have hal : s.vm.Alike vm₁ := hwarm₁.alike
  obtain ⟨kO₁, hkO₁, heO⟩ := hal.2.2 _ _ hkO
  obtain ⟨kC₁, hkC₁, heC⟩ := hal.2.2 _ _ hkC
  have hkdO₁ : kO₁.kind = .array cI' (.array .int) := by rw [heO]; exact hkdO
  have hkdC₁ : kC₁.kind = .array cc .int := by rw [heC]; exact hkdC
  have X₁ := X.noted hwarm₁
  have XF := x_stand3 c0 cI' X₁
  obtain ⟨hr1, hr2⟩ := X.roomAbove hcells hslots
  refine ⟨vm₁, c0, cI', hwarm₁, hnO, hcI, XF, fun target hrest => ?_⟩
  have hl2 : ¬ 5 > e.platform.arrayLengthLimit := by rw [Launch.admits_arrayLengthLimit X.admits]; omega
  have hh2 : ¬ 20 > e.platform.maxHeapBytes := by rw [Launch.admits_maxHeapBytes X.admits]; omega
  jvm_step X.here [hexec, hdg]
  simp only [multianewarray.sem, wp_bind', W.resolveClassAt_links (State.method?_setTop g X.here.top) hg₁]
  rw [W.popN, if_neg (by decide)]
  refine ⟨g, State.topJava?_setTop' (s := T.setVm vm₁) g X.here.top, [.int 3, .int 5], rest, rfl, hgs, ?_⟩
  simp only [List.mapM_cons, List.mapM_nil, wp_bind', wp_pure']
  have eS : ((T.setTop g).setVm vm₁).setTop { g with stack := rest } = (T.setVm vm₁).setTop { g with stack := rest } := by
    show ((T.setVm vm₁).setTop g).setTop _ = _
    rw [State.setTop_setTop]
  rw [eS]
  have v1 : ((T.setVm vm₁).setTop { g with stack := rest }).vm = vm₁ := rfl
  have v2 : ((T.setVm vm₁).setTop { g with stack := rest }).heap.size = T.heap.size := rfl
  have v3 : ((T.setVm vm₁).setTop { g with stack := rest }).slotsUsed = T.slotsUsed := rfl
  refine x_mk35 (s := (T.setVm vm₁).setTop { g with stack := rest }) (cO := c0) (cI := cI') (cc := cc) (kO := kO₁) (kc := kC₁) (by rw [v1]; exact hkO₁) hkdO₁ (by rw [v1]; exact hkC₁) hkdC₁ hl2 hh2 (by rw [v2]; exact hr1) (by rw [v3]; exact hr2) (fun d' acts' => ?_)
  rw [x_S3_top]
  simp only [wp_bind', W.mark, W.pushRef, State.topJava?_setTop' _ XF.here.top, Option.some.injEq, exists_eq_left', State.setTop_setTop, State.heap_setTop]
  intro acts
  simp [jvm, XF.here.top]
  exact hrest
end MultiW
