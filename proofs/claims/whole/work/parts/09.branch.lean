section Branch
variable {Y : xY} {g : Option Nat} {d mc ms pc : Nat} {L : xL} {st : List xV} {cs : Nat × Nat} {h : xH} {Q : xH → Option xV → Prop}
theorem x_0 : inR 0 := by decide
theorem xW.ifeq {z off : Int} {tgt : Nat} (hd : decode Y.2.1 pc = .ok (.ifCond .eq off, 3)) (ht : (pc : Int) + off = (tgt : Int)) (kt : z = 0 → xW Y g d mc ms tgt L st cs h Q) (kf : ¬ z = 0 → xW Y g d mc ms (pc + 3) L st cs h Q) : xW Y g d mc ms pc L (vI z :: st) cs h Q := by
  intro l G p e s m args below meth c H locs ls C S
  obtain ⟨s1, s2⟩ := List.forall_mem_cons.mp S.2.2
  exact lv_if_eq (x := Int32.ofInt z) C.2.1.1 C.2.1.2.1 hd ht (fun q => kt ((x_eq s1 x_0).mp q) l G p e s m args below meth c H locs ls C ⟨S.1, S.2.1, s2⟩) (fun q => kf (fun z => q ((x_eq s1 x_0).mpr z)) l G p e s m args below meth c H locs ls C ⟨S.1, S.2.1, s2⟩)
theorem xW.ifne {z off : Int} {tgt : Nat} (hd : decode Y.2.1 pc = .ok (.ifCond .ne off, 3)) (ht : (pc : Int) + off = (tgt : Int)) (kt : ¬ z = 0 → xW Y g d mc ms tgt L st cs h Q) (kf : z = 0 → xW Y g d mc ms (pc + 3) L st cs h Q) : xW Y g d mc ms pc L (vI z :: st) cs h Q := by
  intro l G p e s m args below meth c H locs ls C S
  obtain ⟨s1, s2⟩ := List.forall_mem_cons.mp S.2.2
  exact lv_if_ne (x := Int32.ofInt z) C.2.1.1 C.2.1.2.1 hd ht (fun q => kt (fun z => q ((x_eq s1 x_0).mpr z)) l G p e s m args below meth c H locs ls C ⟨S.1, S.2.1, s2⟩) (fun q => kf ((x_eq s1 x_0).mp q) l G p e s m args below meth c H locs ls C ⟨S.1, S.2.1, s2⟩)
theorem xW.iflt {z off : Int} {tgt : Nat} (hd : decode Y.2.1 pc = .ok (.ifCond .lt off, 3)) (ht : (pc : Int) + off = (tgt : Int)) (kt : z < 0 → xW Y g d mc ms tgt L st cs h Q) (kf : ¬ z < 0 → xW Y g d mc ms (pc + 3) L st cs h Q) : xW Y g d mc ms pc L (vI z :: st) cs h Q := by
  intro l G p e s m args below meth c H locs ls C S
  obtain ⟨s1, s2⟩ := List.forall_mem_cons.mp S.2.2
  exact lv_if_lt (x := Int32.ofInt z) C.2.1.1 C.2.1.2.1 hd ht (fun q => kt ((x_lt s1 x_0).mp q) l G p e s m args below meth c H locs ls C ⟨S.1, S.2.1, s2⟩) (fun q => kf (fun z => q ((x_lt s1 x_0).mpr z)) l G p e s m args below meth c H locs ls C ⟨S.1, S.2.1, s2⟩)
theorem xW.ifge {z off : Int} {tgt : Nat} (hd : decode Y.2.1 pc = .ok (.ifCond .ge off, 3)) (ht : (pc : Int) + off = (tgt : Int)) (kt : 0 ≤ z → xW Y g d mc ms tgt L st cs h Q) (kf : ¬ 0 ≤ z → xW Y g d mc ms (pc + 3) L st cs h Q) : xW Y g d mc ms pc L (vI z :: st) cs h Q := by
  intro l G p e s m args below meth c H locs ls C S
  obtain ⟨s1, s2⟩ := List.forall_mem_cons.mp S.2.2
  exact lv_if_ge (x := Int32.ofInt z) C.2.1.1 C.2.1.2.1 hd ht (fun q => kt ((x_le x_0 s1).mp q) l G p e s m args below meth c H locs ls C ⟨S.1, S.2.1, s2⟩) (fun q => kf (fun z => q ((x_le x_0 s1).mpr z)) l G p e s m args below meth c H locs ls C ⟨S.1, S.2.1, s2⟩)
theorem xW.ifgt {z off : Int} {tgt : Nat} (hd : decode Y.2.1 pc = .ok (.ifCond .gt off, 3)) (ht : (pc : Int) + off = (tgt : Int)) (kt : 0 < z → xW Y g d mc ms tgt L st cs h Q) (kf : ¬ 0 < z → xW Y g d mc ms (pc + 3) L st cs h Q) : xW Y g d mc ms pc L (vI z :: st) cs h Q := by
  intro l G p e s m args below meth c H locs ls C S
  obtain ⟨s1, s2⟩ := List.forall_mem_cons.mp S.2.2
  exact lv_if_gt (x := Int32.ofInt z) C.2.1.1 C.2.1.2.1 hd ht (fun q => kt ((x_lt x_0 s1).mp q) l G p e s m args below meth c H locs ls C ⟨S.1, S.2.1, s2⟩) (fun q => kf (fun z => q ((x_lt x_0 s1).mpr z)) l G p e s m args below meth c H locs ls C ⟨S.1, S.2.1, s2⟩)
theorem xW.ifle {z off : Int} {tgt : Nat} (hd : decode Y.2.1 pc = .ok (.ifCond .le off, 3)) (ht : (pc : Int) + off = (tgt : Int)) (kt : z ≤ 0 → xW Y g d mc ms tgt L st cs h Q) (kf : ¬ z ≤ 0 → xW Y g d mc ms (pc + 3) L st cs h Q) : xW Y g d mc ms pc L (vI z :: st) cs h Q := by
  intro l G p e s m args below meth c H locs ls C S
  obtain ⟨s1, s2⟩ := List.forall_mem_cons.mp S.2.2
  exact lv_if_le (x := Int32.ofInt z) C.2.1.1 C.2.1.2.1 hd ht (fun q => kt ((x_le s1 x_0).mp q) l G p e s m args below meth c H locs ls C ⟨S.1, S.2.1, s2⟩) (fun q => kf (fun z => q ((x_le s1 x_0).mpr z)) l G p e s m args below meth c H locs ls C ⟨S.1, S.2.1, s2⟩)
theorem xW.cmpeq {x y off : Int} {tgt : Nat} (hd : decode Y.2.1 pc = .ok (.if_icmp .eq off, 3)) (ht : (pc : Int) + off = (tgt : Int)) (kt : x = y → xW Y g d mc ms tgt L st cs h Q) (kf : ¬ x = y → xW Y g d mc ms (pc + 3) L st cs h Q) : xW Y g d mc ms pc L (vI y :: vI x :: st) cs h Q := by
  intro l G p e s m args below meth c H locs ls C S
  obtain ⟨s1, s2⟩ := List.forall_mem_cons.mp S.2.2
  obtain ⟨s3, s4⟩ := List.forall_mem_cons.mp s2
  exact lv_icmp_eq (x := Int32.ofInt x) (y := Int32.ofInt y) C.2.1.1 C.2.1.2.1 hd ht (fun q => kt ((x_eq s3 s1).mp q) l G p e s m args below meth c H locs ls C ⟨S.1, S.2.1, s4⟩) (fun q => kf (fun z => q ((x_eq s3 s1).mpr z)) l G p e s m args below meth c H locs ls C ⟨S.1, S.2.1, s4⟩)
theorem xW.cmpne {x y off : Int} {tgt : Nat} (hd : decode Y.2.1 pc = .ok (.if_icmp .ne off, 3)) (ht : (pc : Int) + off = (tgt : Int)) (kt : ¬ x = y → xW Y g d mc ms tgt L st cs h Q) (kf : x = y → xW Y g d mc ms (pc + 3) L st cs h Q) : xW Y g d mc ms pc L (vI y :: vI x :: st) cs h Q := by
  intro l G p e s m args below meth c H locs ls C S
  obtain ⟨s1, s2⟩ := List.forall_mem_cons.mp S.2.2
  obtain ⟨s3, s4⟩ := List.forall_mem_cons.mp s2
  exact lv_icmp_ne (x := Int32.ofInt x) (y := Int32.ofInt y) C.2.1.1 C.2.1.2.1 hd ht (fun q => kt (fun z => q ((x_eq s3 s1).mpr z)) l G p e s m args below meth c H locs ls C ⟨S.1, S.2.1, s4⟩) (fun q => kf ((x_eq s3 s1).mp q) l G p e s m args below meth c H locs ls C ⟨S.1, S.2.1, s4⟩)
theorem xW.cmplt {x y off : Int} {tgt : Nat} (hd : decode Y.2.1 pc = .ok (.if_icmp .lt off, 3)) (ht : (pc : Int) + off = (tgt : Int)) (kt : x < y → xW Y g d mc ms tgt L st cs h Q) (kf : ¬ x < y → xW Y g d mc ms (pc + 3) L st cs h Q) : xW Y g d mc ms pc L (vI y :: vI x :: st) cs h Q := by
  intro l G p e s m args below meth c H locs ls C S
  obtain ⟨s1, s2⟩ := List.forall_mem_cons.mp S.2.2
  obtain ⟨s3, s4⟩ := List.forall_mem_cons.mp s2
  exact lv_icmp_lt (x := Int32.ofInt x) (y := Int32.ofInt y) C.2.1.1 C.2.1.2.1 hd ht (fun q => kt ((x_lt s3 s1).mp q) l G p e s m args below meth c H locs ls C ⟨S.1, S.2.1, s4⟩) (fun q => kf (fun z => q ((x_lt s3 s1).mpr z)) l G p e s m args below meth c H locs ls C ⟨S.1, S.2.1, s4⟩)
theorem xW.cmpge {x y off : Int} {tgt : Nat} (hd : decode Y.2.1 pc = .ok (.if_icmp .ge off, 3)) (ht : (pc : Int) + off = (tgt : Int)) (kt : y ≤ x → xW Y g d mc ms tgt L st cs h Q) (kf : ¬ y ≤ x → xW Y g d mc ms (pc + 3) L st cs h Q) : xW Y g d mc ms pc L (vI y :: vI x :: st) cs h Q := by
  intro l G p e s m args below meth c H locs ls C S
  obtain ⟨s1, s2⟩ := List.forall_mem_cons.mp S.2.2
  obtain ⟨s3, s4⟩ := List.forall_mem_cons.mp s2
  exact lv_icmp_ge (x := Int32.ofInt x) (y := Int32.ofInt y) C.2.1.1 C.2.1.2.1 hd ht (fun q => kt ((x_le s1 s3).mp q) l G p e s m args below meth c H locs ls C ⟨S.1, S.2.1, s4⟩) (fun q => kf (fun z => q ((x_le s1 s3).mpr z)) l G p e s m args below meth c H locs ls C ⟨S.1, S.2.1, s4⟩)
theorem xW.cmpgt {x y off : Int} {tgt : Nat} (hd : decode Y.2.1 pc = .ok (.if_icmp .gt off, 3)) (ht : (pc : Int) + off = (tgt : Int)) (kt : y < x → xW Y g d mc ms tgt L st cs h Q) (kf : ¬ y < x → xW Y g d mc ms (pc + 3) L st cs h Q) : xW Y g d mc ms pc L (vI y :: vI x :: st) cs h Q := by
  intro l G p e s m args below meth c H locs ls C S
  obtain ⟨s1, s2⟩ := List.forall_mem_cons.mp S.2.2
  obtain ⟨s3, s4⟩ := List.forall_mem_cons.mp s2
  exact lv_icmp_gt (x := Int32.ofInt x) (y := Int32.ofInt y) C.2.1.1 C.2.1.2.1 hd ht (fun q => kt ((x_lt s1 s3).mp q) l G p e s m args below meth c H locs ls C ⟨S.1, S.2.1, s4⟩) (fun q => kf (fun z => q ((x_lt s1 s3).mpr z)) l G p e s m args below meth c H locs ls C ⟨S.1, S.2.1, s4⟩)
theorem xW.cmple {x y off : Int} {tgt : Nat} (hd : decode Y.2.1 pc = .ok (.if_icmp .le off, 3)) (ht : (pc : Int) + off = (tgt : Int)) (kt : x ≤ y → xW Y g d mc ms tgt L st cs h Q) (kf : ¬ x ≤ y → xW Y g d mc ms (pc + 3) L st cs h Q) : xW Y g d mc ms pc L (vI y :: vI x :: st) cs h Q := by
  intro l G p e s m args below meth c H locs ls C S
  obtain ⟨s1, s2⟩ := List.forall_mem_cons.mp S.2.2
  obtain ⟨s3, s4⟩ := List.forall_mem_cons.mp s2
  exact lv_icmp_le (x := Int32.ofInt x) (y := Int32.ofInt y) C.2.1.1 C.2.1.2.1 hd ht (fun q => kt ((x_le s3 s1).mp q) l G p e s m args below meth c H locs ls C ⟨S.1, S.2.1, s4⟩) (fun q => kf (fun z => q ((x_le s3 s1).mpr z)) l G p e s m args below meth c H locs ls C ⟨S.1, S.2.1, s4⟩)
theorem xW.ifnull {o : Option Nat} {off : Int} {tgt : Nat} (hd : decode Y.2.1 pc = .ok (.ifnull off, 3)) (ht : (pc : Int) + off = (tgt : Int)) (kt : o = none → xW Y g d mc ms tgt L st cs h Q) (kf : ¬ o = none → xW Y g d mc ms (pc + 3) L st cs h Q) : xW Y g d mc ms pc L (vR o :: st) cs h Q := by
  intro l G p e s m args below meth c H locs ls C S
  obtain ⟨s1, s2⟩ := List.forall_mem_cons.mp S.2.2
  cases o with
  | none => exact lv_ifnullN C.2.1.1 C.2.1.2.1 hd ht (kt rfl l G p e s m args below meth c H locs ls C ⟨S.1, S.2.1, s2⟩)
  | some a => exact lv_ifnull C.2.1.1 C.2.1.2.1 hd (kf (fun z => by cases z) l G p e s m args below meth c H locs ls C ⟨S.1, S.2.1, s2⟩)
theorem xW.ifnonnull {o : Option Nat} {off : Int} {tgt : Nat} (hd : decode Y.2.1 pc = .ok (.ifnonnull off, 3)) (ht : (pc : Int) + off = (tgt : Int)) (kt : ¬ o = none → xW Y g d mc ms tgt L st cs h Q) (kf : o = none → xW Y g d mc ms (pc + 3) L st cs h Q) : xW Y g d mc ms pc L (vR o :: st) cs h Q := by
  intro l G p e s m args below meth c H locs ls C S
  obtain ⟨s1, s2⟩ := List.forall_mem_cons.mp S.2.2
  cases o with
  | none => exact lv_ifnonnullN C.2.1.1 C.2.1.2.1 hd (kf rfl l G p e s m args below meth c H locs ls C ⟨S.1, S.2.1, s2⟩)
  | some a => exact lv_ifnonnull C.2.1.1 C.2.1.2.1 hd ht (kt (fun z => by cases z) l G p e s m args below meth c H locs ls C ⟨S.1, S.2.1, s2⟩)
/-- a switch over lo .. hi: the targets by a list -/
theorem xW.table {z dflt lo hi : Int} {offs : Array Int} {len : Nat} {td : Nat} {ts : List Nat} (hd : decode Y.2.1 pc = .ok (.tableswitch dflt lo hi offs, len)) (h1 : (pc : Int) + dflt = (td : Int)) (h2 : offs.toList.map (fun o : Int => (pc : Int) + o) = ts.map (fun t : Nat => (t : Int))) (h3 : hi - lo + 1 = (ts.length : Int))
    (kd : (z < lo ∨ hi < z) → xW Y g d mc ms td L st cs h Q) (kt : ∀ (i t : Nat), z = lo + (i : Int) → ts[i]? = some t → xW Y g d mc ms t L st cs h Q) : xW Y g d mc ms pc L (vI z :: st) cs h Q := by
  intro l G p e s m args below meth c H locs ls C S
  obtain ⟨s1, s2⟩ := List.forall_mem_cons.mp S.2.2
  have s1' : inR z := s1
  by_cases ho : z < lo ∨ hi < z
  · exact lv_tableOut (x := Int32.ofInt z) C.2.1.1 C.2.1.2.1 hd (by rw [x_inR s1']; exact ho) h1 (kd ho l G p e s m args below meth c H locs ls C ⟨S.1, S.2.1, s2⟩)
  · have hi2 : (z - lo).toNat < ts.length := by omega
    have e2 := congrArg (fun q : List Int => q[(z - lo).toNat]?) h2
    simp only [List.getElem?_map] at e2
    rw [List.getElem?_eq_getElem hi2] at e2
    cases h4 : offs.toList[(z - lo).toNat]? with
    | none => rw [h4] at e2; cases e2
    | some o =>
      rw [h4] at e2
      have e3 : (pc : Int) + o = ((ts[(z - lo).toNat]) : Int) := Option.some.inj e2
      exact lv_tableIn (x := Int32.ofInt z) (off := o) C.2.1.1 C.2.1.2.1 hd (by rw [x_inR s1']; omega) (by rw [x_inR s1']; omega) (by rw [x_inR s1', ← Array.getElem?_toList]; exact h4) e3 (kt (z - lo).toNat _ (by omega) (List.getElem?_eq_getElem hi2) l G p e s m args below meth c H locs ls C ⟨S.1, S.2.1, s2⟩)
theorem xW.lookup {z dflt : Int} {ps : Array (Int × Int)} {len : Nat} {td : Nat} {ts : List (Int × Nat)} (hd : decode Y.2.1 pc = .ok (.lookupswitch dflt ps, len)) (hp : (ps.toList.zip (ps.toList.drop 1)).all (fun (a, next) => a.1 < next.1) = true) (h1 : (pc : Int) + dflt = (td : Int)) (h2 : ps.toList.map (fun q : Int × Int => (q.1, (pc : Int) + q.2)) = ts.map (fun t : Int × Nat => (t.1, (t.2 : Int))))
    (ho : ∀ z : Int, (pc : Int) + Op.lookupswitch.offset ps.toList dflt z = (((ts.find? (fun t => t.1 == z)).map (·.2)).getD td : Nat))
    (kt : ∀ t : Nat, ((ts.find? (fun t => t.1 == z)).map (·.2)).getD td = t → xW Y g d mc ms t L st cs h Q) : xW Y g d mc ms pc L (vI z :: st) cs h Q := by
  intro l G p e s m args below meth c H locs ls C S
  obtain ⟨s1, s2⟩ := List.forall_mem_cons.mp S.2.2
  have s1' : inR z := s1
  exact lv_lookup (x := Int32.ofInt z) C.2.1.1 C.2.1.2.1 hd hp rfl (by rw [x_inR s1']; exact ho z) (kt _ rfl l G p e s m args below meth c H locs ls C ⟨S.1, S.2.1, s2⟩)
theorem x_leave {G : xG} {s t : State} {H : Heap} {locs : List Loc} {r : Option xV} {p : Program} {m : MethodId} {args : Array Value} {meth : Method} {c : Code} (C : x_C Y g G p s m args meth c H locs h) (hr : x_okR r) (hq : Q h r) (ht : t.heap = H) : x_Qc G g Q args s (.returned (r.map (x_tr (x_ad G)))) t :=
  ⟨⟨h, r, rfl, hq, C.2.2.2.2.2.2.2, hr, by rw [ht]; exact C.2.2.2.2.2.2.1⟩, C.2.2.2.2.2.1.F ht⟩
theorem xW.iret {z : Int} (hd : decode Y.2.1 pc = .ok (.ireturn, 1)) (hY : Y.2.2.2 = some .int) (hc : cs.1 ≤ mc ∧ cs.2 ≤ ms) (k : Q h (some (vI z))) : xW Y g d mc ms pc L [vI z] cs h Q := by
  intro l G p e s m args below meth c H locs ls C S
  have s1 := S.2.2 _ List.mem_cons_self
  refine W.widen hc.1 hc.2 ?_
  exact W.iret (v := Int32.ofInt z) C.2.1.1 C.2.1.2.1 (by rw [C.2.1.2.2.2.1]; exact hY) (fun t ht hW => x_leave C (r := some (vI z)) (fun v hv => by cases hv; exact s1) k ht) (fun q hq => C.2.2.2.2.2.1.2.2 q hq) hd C.2.1.2.2.2.2.1
theorem xW.zret {z : Int} (hd : decode Y.2.1 pc = .ok (.ireturn, 1)) (hY : Y.2.2.2 = some .boolean) (hz : z = 0 ∨ z = 1) (hc : cs.1 ≤ mc ∧ cs.2 ≤ ms) (k : Q h (some (vI z))) : xW Y g d mc ms pc L [vI z] cs h Q := by
  intro l G p e s m args below meth c H locs ls C S
  have s1 := S.2.2 _ List.mem_cons_self
  refine W.widen hc.1 hc.2 ?_
  exact W.zret (v := Int32.ofInt z) (ty := .boolean) C.2.1.1 C.2.1.2.1 (by rw [C.2.1.2.2.2.1]; exact hY) (by rcases hz with rfl | rfl <;> rfl) (fun t ht hW => x_leave C (r := some (vI z)) (fun v hv => by cases hv; exact s1) k ht) (fun q hq => C.2.2.2.2.2.1.2.2 q hq) hd C.2.1.2.2.2.2.1
theorem xW.vret (hd : decode Y.2.1 pc = .ok (.return_, 1)) (hY : Y.2.2.2 = none) (hc : cs.1 ≤ mc ∧ cs.2 ≤ ms) (k : Q h none) : xW Y g d mc ms pc L [] cs h Q := by
  intro l G p e s m args below meth c H locs ls C S
  refine W.widen hc.1 hc.2 ?_
  exact W.vret C.2.1.1 C.2.1.2.1 (by rw [C.2.1.2.2.2.1]; exact hY) (fun t ht hW => x_leave C (r := none) (fun v hv => by cases hv) k ht) (fun q hq => C.2.2.2.2.2.1.2.2 q hq) hd C.2.1.2.2.2.2.1
theorem xW.lret {z : Int} (hd : decode Y.2.1 pc = .ok (.lreturn, 1)) (hY : Y.2.2.2 = some .long) (hc : cs.1 ≤ mc ∧ cs.2 ≤ ms) (k : Q h (some (vJ z))) : xW Y g d mc ms pc L [vJ z] cs h Q := by
  intro l G p e s m args below meth c H locs ls C S
  have s1 := S.2.2 _ List.mem_cons_self
  refine W.widen hc.1 hc.2 ?_
  exact W.lret (v := Int64.ofInt z) C.2.1.1 C.2.1.2.1 (by rw [C.2.1.2.2.2.1]; exact hY) (fun t ht hW => x_leave C (r := some (vJ z)) (fun v hv => by cases hv; exact s1) k ht) (fun q hq => C.2.2.2.2.2.1.2.2 q hq) hd C.2.1.2.2.2.2.1
theorem xW.aret {o : Option Nat} {rt : FieldType} (hd : decode Y.2.1 pc = .ok (.areturn, 1)) (hY : Y.2.2.2 = some rt) (hrt : ∃ n, rt = .object n) (hc : cs.1 ≤ mc ∧ cs.2 ≤ ms) (k : Q h (some (vR o))) : xW Y g d mc ms pc L [vR o] cs h Q := by
  intro l G p e s m args below meth c H locs ls C S
  refine W.widen hc.1 hc.2 ?_
  exact W.aret (v := x_tr (x_ad G) (vR o)) C.2.1.1 C.2.1.2.1 (by rw [C.2.1.2.2.2.1]; exact hY) (Or.inl hrt) (by cases o with
    | none => exact Or.inl rfl
    | some a => exact Or.inr ⟨_, rfl⟩) (fun t ht hW => x_leave C (r := some (vR o)) (fun v hv => by cases hv; trivial) k ht) (fun q hq => C.2.2.2.2.2.1.2.2 q hq) hd C.2.1.2.2.2.2.1
end Branch
