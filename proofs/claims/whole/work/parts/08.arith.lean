def x_and (a b : Int) : Int := (Int32.ofInt a &&& Int32.ofInt b).toInt
def x_or (a b : Int) : Int := (Int32.ofInt a ||| Int32.ofInt b).toInt
def x_xor (a b : Int) : Int := (Int32.ofInt a ^^^ Int32.ofInt b).toInt
def x_shl (a b : Int) : Int := (Int32.ofInt a <<< (Int32.ofInt b &&& 31)).toInt
def x_shr (a b : Int) : Int := (Int32.ofInt a >>> (Int32.ofInt b &&& 31)).toInt
def x_ushr (a b : Int) : Int := ((Int32.ofInt a).toUInt32 >>> ((Int32.ofInt b).toUInt32 &&& Int32.toUInt32 31)).toInt32.toInt
def x_lor (a b : Int) : Int := (Int64.ofInt a ||| Int64.ofInt b).toInt
def x_lshl (a b : Int) : Int := (Int64.ofInt a <<< ((Int32.ofInt b).toInt64 &&& 63)).toInt
def x_lshr (a b : Int) : Int := (Int64.ofInt a >>> ((Int32.ofInt b).toInt64 &&& 63)).toInt
def x_cmp (a b : Int) : Int := if a > b then 1 else if a = b then 0 else -1
theorem x_cmp_r (a b : Int) : inR (x_cmp a b) := by
  unfold x_cmp
  split
  · decide
  · split <;> decide
theorem x_cmp_eq {a b : Int} : x_cmp a b = 0 ↔ a = b := by unfold x_cmp; split <;> (try split) <;> omega
theorem x_cmp_lt {a b : Int} : x_cmp a b < 0 ↔ a < b := by unfold x_cmp; split <;> (try split) <;> omega
theorem x_cmp_le {a b : Int} : x_cmp a b ≤ 0 ↔ a ≤ b := by unfold x_cmp; split <;> (try split) <;> omega
theorem x_cmp_ge {a b : Int} : 0 ≤ x_cmp a b ↔ b ≤ a := by unfold x_cmp; split <;> (try split) <;> omega
theorem x_cmp_gt {a b : Int} : 0 < x_cmp a b ↔ b < a := by unfold x_cmp; split <;> (try split) <;> omega
theorem x_cmp_of {a b : Int} (ha : inL a) (hb : inL b) : lg_cmp (Int64.ofInt a) (Int64.ofInt b) = Int32.ofInt (x_cmp a b) := by
  have h1 : (Int64.ofInt a > Int64.ofInt b) ↔ a > b := by
    show Int64.ofInt b < Int64.ofInt a ↔ b < a
    rw [Int64.lt_iff_toInt_lt, x_inL ha, x_inL hb]
  unfold lg_cmp x_cmp
  by_cases hc : a > b
  · rw [if_pos (h1.mpr hc), if_pos hc]; rfl
  · rw [if_neg (fun z => hc (h1.mp z)), if_neg hc]
    by_cases he : a = b
    · rw [if_pos ((x_eqL ha hb).mpr he), if_pos he]; rfl
    · rw [if_neg (fun z => he ((x_eqL ha hb).mp z)), if_neg he]; rfl
theorem x_div_of {a b : Int} (ha : inR a) (hb : inR b) : Int32.ofInt a / Int32.ofInt b = Int32.ofInt (a.tdiv b) := by
  rw [← Int32.toInt_inj, Int32.toInt_div, x_inR ha, x_inR hb, Int32.toInt_ofInt]
theorem x_ldiv_of {a b : Int} (ha : inL a) (hb : inL b) : Int64.ofInt a / Int64.ofInt b = Int64.ofInt (a.tdiv b) := by
  rw [← Int64.toInt_inj, Int64.toInt_div, x_inL ha, x_inL hb, Int64.toInt_ofInt]
theorem x_tmod_abs (a b : Int) : (a.tmod b).natAbs ≤ a.natAbs := by
  rw [Int.natAbs_tmod]
  exact Nat.mod_le _ _
theorem x_tmod_r {a b : Int} (ha : inR a) : inR (a.tmod b) := by
  by_cases hm : a = -2147483648
  · have h1 := x_tmod_abs a b
    have h2 : a.tmod b ≤ 0 := by
      have h3 : 0 ≤ (-a).tmod b := Int.tmod_nonneg b (by omega)
      rw [Int.neg_tmod] at h3
      omega
    constructor <;> omega
  · have h1 := x_tmod_abs a b
    constructor <;> omega
theorem x_ltmod_r {a b : Int} (ha : inL a) : inL (a.tmod b) := by
  by_cases hm : a = -9223372036854775808
  · have h1 := x_tmod_abs a b
    have h2 : a.tmod b ≤ 0 := by
      have h3 : 0 ≤ (-a).tmod b := Int.tmod_nonneg b (by omega)
      rw [Int.neg_tmod] at h3
      omega
    constructor <;> omega
  · have h1 := x_tmod_abs a b
    constructor <;> omega
section Arith
variable {Y : xY} {g : Option Nat} {d mc ms pc : Nat} {L : xL} {st : List xV} {cs : Nat × Nat} {h : xH} {Q : xH → Option xV → Prop}
theorem xW.iadd {x y : Int} (hd : decode Y.2.1 pc = .ok (.iadd, 1)) (hr : inR (x + y)) (k : xW Y g d mc ms (pc + 1) L (vI (x + y) :: st) cs h Q) : xW Y g d mc ms pc L (vI y :: vI x :: st) cs h Q := by
  intro l G p e s m args below meth c H locs ls C S
  obtain ⟨s1, s2⟩ := List.forall_mem_cons.mp S.2.2
  obtain ⟨s3, s4⟩ := List.forall_mem_cons.mp s2
  refine lv_iadd (x := Int32.ofInt x) (y := Int32.ofInt y) C.2.1.1 C.2.1.2.1 hd ?_
  rw [← Int32.ofInt_add]
  exact k l G p e s m args below meth c H locs ls C ⟨S.1, S.2.1, List.forall_mem_cons.mpr ⟨hr, s4⟩⟩
theorem xW.isub {x y : Int} (hd : decode Y.2.1 pc = .ok (.isub, 1)) (hr : inR (x - y)) (k : xW Y g d mc ms (pc + 1) L (vI (x - y) :: st) cs h Q) : xW Y g d mc ms pc L (vI y :: vI x :: st) cs h Q := by
  intro l G p e s m args below meth c H locs ls C S
  obtain ⟨s1, s2⟩ := List.forall_mem_cons.mp S.2.2
  obtain ⟨s3, s4⟩ := List.forall_mem_cons.mp s2
  refine lv_isub (x := Int32.ofInt x) (y := Int32.ofInt y) C.2.1.1 C.2.1.2.1 hd ?_
  rw [← Int32.ofInt_sub]
  exact k l G p e s m args below meth c H locs ls C ⟨S.1, S.2.1, List.forall_mem_cons.mpr ⟨hr, s4⟩⟩
theorem xW.imul {x y : Int} (hd : decode Y.2.1 pc = .ok (.imul, 1)) (hr : inR (x * y)) (k : xW Y g d mc ms (pc + 1) L (vI (x * y) :: st) cs h Q) : xW Y g d mc ms pc L (vI y :: vI x :: st) cs h Q := by
  intro l G p e s m args below meth c H locs ls C S
  obtain ⟨s1, s2⟩ := List.forall_mem_cons.mp S.2.2
  obtain ⟨s3, s4⟩ := List.forall_mem_cons.mp s2
  refine lv_imul (x := Int32.ofInt x) (y := Int32.ofInt y) C.2.1.1 C.2.1.2.1 hd ?_
  rw [← Int32.ofInt_mul]
  exact k l G p e s m args below meth c H locs ls C ⟨S.1, S.2.1, List.forall_mem_cons.mpr ⟨hr, s4⟩⟩
theorem xW.ineg {x : Int} (hd : decode Y.2.1 pc = .ok (.ineg, 1)) (hr : inR (-x)) (k : xW Y g d mc ms (pc + 1) L (vI (-x) :: st) cs h Q) : xW Y g d mc ms pc L (vI x :: st) cs h Q := by
  intro l G p e s m args below meth c H locs ls C S
  obtain ⟨s1, s2⟩ := List.forall_mem_cons.mp S.2.2
  refine lv_ineg (x := Int32.ofInt x) C.2.1.1 C.2.1.2.1 hd ?_
  rw [← Int32.ofInt_neg]
  exact k l G p e s m args below meth c H locs ls C ⟨S.1, S.2.1, List.forall_mem_cons.mpr ⟨hr, s2⟩⟩
theorem xW.idiv {x y : Int} (hd : decode Y.2.1 pc = .ok (.idiv, 1)) (hy : y ≠ 0) (hr : inR (x.tdiv y)) (k : xW Y g d mc ms (pc + 1) L (vI (x.tdiv y) :: st) cs h Q) : xW Y g d mc ms pc L (vI y :: vI x :: st) cs h Q := by
  intro l G p e s m args below meth c H locs ls C S
  obtain ⟨s1, s2⟩ := List.forall_mem_cons.mp S.2.2
  obtain ⟨s3, s4⟩ := List.forall_mem_cons.mp s2
  refine lv_idiv (x := Int32.ofInt x) (y := Int32.ofInt y) C.2.1.1 C.2.1.2.1 hd (fun z => hy ((x_eq s1 (b := 0) (by decide)).mp z)) ?_
  rw [x_div_of s3 s1]
  exact k l G p e s m args below meth c H locs ls C ⟨S.1, S.2.1, List.forall_mem_cons.mpr ⟨hr, s4⟩⟩
theorem xW.irem {x y : Int} (hd : decode Y.2.1 pc = .ok (.irem, 1)) (hy : y ≠ 0) (k : xW Y g d mc ms (pc + 1) L (vI (x.tmod y) :: st) cs h Q) : xW Y g d mc ms pc L (vI y :: vI x :: st) cs h Q := by
  intro l G p e s m args below meth c H locs ls C S
  obtain ⟨s1, s2⟩ := List.forall_mem_cons.mp S.2.2
  obtain ⟨s3, s4⟩ := List.forall_mem_cons.mp s2
  refine lv_irem (x := Int32.ofInt x) (y := Int32.ofInt y) C.2.1.1 C.2.1.2.1 hd (fun z => hy ((x_eq s1 (b := 0) (by decide)).mp z)) ?_
  rw [x_div_of s3 s1, ← Int32.ofInt_mul, ← Int32.ofInt_sub, show x - x.tdiv y * y = x.tmod y by rw [Int.tmod_def, Int.mul_comm]]
  exact k l G p e s m args below meth c H locs ls C ⟨S.1, S.2.1, List.forall_mem_cons.mpr ⟨x_tmod_r s3, s4⟩⟩
theorem xW.iand {x y : Int} (hd : decode Y.2.1 pc = .ok (.iand, 1)) (k : xW Y g d mc ms (pc + 1) L (vI (x_and x y) :: st) cs h Q) : xW Y g d mc ms pc L (vI y :: vI x :: st) cs h Q := by
  intro l G p e s m args below meth c H locs ls C S
  obtain ⟨s1, s2⟩ := List.forall_mem_cons.mp S.2.2
  obtain ⟨s3, s4⟩ := List.forall_mem_cons.mp s2
  refine lv_iand (x := Int32.ofInt x) (y := Int32.ofInt y) C.2.1.1 C.2.1.2.1 hd ?_
  rw [← Int32.ofInt_toInt (Int32.ofInt x &&& Int32.ofInt y)]
  exact k l G p e s m args below meth c H locs ls C ⟨S.1, S.2.1, List.forall_mem_cons.mpr ⟨x_inR_of _, s4⟩⟩
theorem xW.ior {x y : Int} (hd : decode Y.2.1 pc = .ok (.ior, 1)) (k : xW Y g d mc ms (pc + 1) L (vI (x_or x y) :: st) cs h Q) : xW Y g d mc ms pc L (vI y :: vI x :: st) cs h Q := by
  intro l G p e s m args below meth c H locs ls C S
  obtain ⟨s1, s2⟩ := List.forall_mem_cons.mp S.2.2
  obtain ⟨s3, s4⟩ := List.forall_mem_cons.mp s2
  refine lv_ior (x := Int32.ofInt x) (y := Int32.ofInt y) C.2.1.1 C.2.1.2.1 hd ?_
  rw [← Int32.ofInt_toInt (Int32.ofInt x ||| Int32.ofInt y)]
  exact k l G p e s m args below meth c H locs ls C ⟨S.1, S.2.1, List.forall_mem_cons.mpr ⟨x_inR_of _, s4⟩⟩
theorem xW.ixor {x y : Int} (hd : decode Y.2.1 pc = .ok (.ixor, 1)) (k : xW Y g d mc ms (pc + 1) L (vI (x_xor x y) :: st) cs h Q) : xW Y g d mc ms pc L (vI y :: vI x :: st) cs h Q := by
  intro l G p e s m args below meth c H locs ls C S
  obtain ⟨s1, s2⟩ := List.forall_mem_cons.mp S.2.2
  obtain ⟨s3, s4⟩ := List.forall_mem_cons.mp s2
  refine lv_ixor (x := Int32.ofInt x) (y := Int32.ofInt y) C.2.1.1 C.2.1.2.1 hd ?_
  rw [← Int32.ofInt_toInt (Int32.ofInt x ^^^ Int32.ofInt y)]
  exact k l G p e s m args below meth c H locs ls C ⟨S.1, S.2.1, List.forall_mem_cons.mpr ⟨x_inR_of _, s4⟩⟩
theorem xW.ishl {x y : Int} (hd : decode Y.2.1 pc = .ok (.ishl, 1)) (k : xW Y g d mc ms (pc + 1) L (vI (x_shl x y) :: st) cs h Q) : xW Y g d mc ms pc L (vI y :: vI x :: st) cs h Q := by
  intro l G p e s m args below meth c H locs ls C S
  obtain ⟨s1, s2⟩ := List.forall_mem_cons.mp S.2.2
  obtain ⟨s3, s4⟩ := List.forall_mem_cons.mp s2
  refine lv_ishl (x := Int32.ofInt x) (y := Int32.ofInt y) C.2.1.1 C.2.1.2.1 hd ?_
  rw [← Int32.ofInt_toInt (Int32.ofInt x <<< (Int32.ofInt y &&& 31))]
  exact k l G p e s m args below meth c H locs ls C ⟨S.1, S.2.1, List.forall_mem_cons.mpr ⟨x_inR_of _, s4⟩⟩
theorem xW.ishr {x y : Int} (hd : decode Y.2.1 pc = .ok (.ishr, 1)) (k : xW Y g d mc ms (pc + 1) L (vI (x_shr x y) :: st) cs h Q) : xW Y g d mc ms pc L (vI y :: vI x :: st) cs h Q := by
  intro l G p e s m args below meth c H locs ls C S
  obtain ⟨s1, s2⟩ := List.forall_mem_cons.mp S.2.2
  obtain ⟨s3, s4⟩ := List.forall_mem_cons.mp s2
  refine lv_ishr (x := Int32.ofInt x) (y := Int32.ofInt y) C.2.1.1 C.2.1.2.1 hd ?_
  rw [← Int32.ofInt_toInt (Int32.ofInt x >>> (Int32.ofInt y &&& 31))]
  exact k l G p e s m args below meth c H locs ls C ⟨S.1, S.2.1, List.forall_mem_cons.mpr ⟨x_inR_of _, s4⟩⟩
theorem xW.iushr {x y : Int} (hd : decode Y.2.1 pc = .ok (.iushr, 1)) (k : xW Y g d mc ms (pc + 1) L (vI (x_ushr x y) :: st) cs h Q) : xW Y g d mc ms pc L (vI y :: vI x :: st) cs h Q := by
  intro l G p e s m args below meth c H locs ls C S
  obtain ⟨s1, s2⟩ := List.forall_mem_cons.mp S.2.2
  obtain ⟨s3, s4⟩ := List.forall_mem_cons.mp s2
  exact lv_iushr (x := Int32.ofInt x) (y := Int32.ofInt y) (v := Int32.ofInt (x_ushr x y)) C.2.1.1 C.2.1.2.1 hd (Int32.ofInt_toInt _).symm (k l G p e s m args below meth c H locs ls C ⟨S.1, S.2.1, List.forall_mem_cons.mpr ⟨x_inR_of _, s4⟩⟩)
theorem xW.ladd {x y : Int} (hd : decode Y.2.1 pc = .ok (.ladd, 1)) (hr : inL (x + y)) (k : xW Y g d mc ms (pc + 1) L (vJ (x + y) :: st) cs h Q) : xW Y g d mc ms pc L (vJ y :: vJ x :: st) cs h Q := by
  intro l G p e s m args below meth c H locs ls C S
  obtain ⟨s1, s2⟩ := List.forall_mem_cons.mp S.2.2
  obtain ⟨s3, s4⟩ := List.forall_mem_cons.mp s2
  refine lv_ladd (x := Int64.ofInt x) (y := Int64.ofInt y) C.2.1.1 C.2.1.2.1 hd ?_
  rw [← Int64.ofInt_add]
  exact k l G p e s m args below meth c H locs ls C ⟨S.1, S.2.1, List.forall_mem_cons.mpr ⟨hr, s4⟩⟩
theorem xW.lsub {x y : Int} (hd : decode Y.2.1 pc = .ok (.lsub, 1)) (hr : inL (x - y)) (k : xW Y g d mc ms (pc + 1) L (vJ (x - y) :: st) cs h Q) : xW Y g d mc ms pc L (vJ y :: vJ x :: st) cs h Q := by
  intro l G p e s m args below meth c H locs ls C S
  obtain ⟨s1, s2⟩ := List.forall_mem_cons.mp S.2.2
  obtain ⟨s3, s4⟩ := List.forall_mem_cons.mp s2
  refine lv_lsub (x := Int64.ofInt x) (y := Int64.ofInt y) C.2.1.1 C.2.1.2.1 hd ?_
  rw [← Int64.ofInt_sub]
  exact k l G p e s m args below meth c H locs ls C ⟨S.1, S.2.1, List.forall_mem_cons.mpr ⟨hr, s4⟩⟩
theorem xW.lmul {x y : Int} (hd : decode Y.2.1 pc = .ok (.lmul, 1)) (hr : inL (x * y)) (k : xW Y g d mc ms (pc + 1) L (vJ (x * y) :: st) cs h Q) : xW Y g d mc ms pc L (vJ y :: vJ x :: st) cs h Q := by
  intro l G p e s m args below meth c H locs ls C S
  obtain ⟨s1, s2⟩ := List.forall_mem_cons.mp S.2.2
  obtain ⟨s3, s4⟩ := List.forall_mem_cons.mp s2
  refine lv_lmul (x := Int64.ofInt x) (y := Int64.ofInt y) C.2.1.1 C.2.1.2.1 hd ?_
  rw [← Int64.ofInt_mul]
  exact k l G p e s m args below meth c H locs ls C ⟨S.1, S.2.1, List.forall_mem_cons.mpr ⟨hr, s4⟩⟩
theorem xW.lneg {x : Int} (hd : decode Y.2.1 pc = .ok (.lneg, 1)) (hr : inL (-x)) (k : xW Y g d mc ms (pc + 1) L (vJ (-x) :: st) cs h Q) : xW Y g d mc ms pc L (vJ x :: st) cs h Q := by
  intro l G p e s m args below meth c H locs ls C S
  obtain ⟨s1, s2⟩ := List.forall_mem_cons.mp S.2.2
  refine lv_lneg (x := Int64.ofInt x) C.2.1.1 C.2.1.2.1 hd ?_
  rw [← Int64.ofInt_neg]
  exact k l G p e s m args below meth c H locs ls C ⟨S.1, S.2.1, List.forall_mem_cons.mpr ⟨hr, s2⟩⟩
theorem xW.ldiv {x y : Int} (hd : decode Y.2.1 pc = .ok (.ldiv, 1)) (hy : y ≠ 0) (hr : inL (x.tdiv y)) (k : xW Y g d mc ms (pc + 1) L (vJ (x.tdiv y) :: st) cs h Q) : xW Y g d mc ms pc L (vJ y :: vJ x :: st) cs h Q := by
  intro l G p e s m args below meth c H locs ls C S
  obtain ⟨s1, s2⟩ := List.forall_mem_cons.mp S.2.2
  obtain ⟨s3, s4⟩ := List.forall_mem_cons.mp s2
  refine lv_ldiv (x := Int64.ofInt x) (y := Int64.ofInt y) C.2.1.1 C.2.1.2.1 hd (fun z => hy ((x_eqL s1 (b := 0) (by decide)).mp z)) ?_
  rw [x_ldiv_of s3 s1]
  exact k l G p e s m args below meth c H locs ls C ⟨S.1, S.2.1, List.forall_mem_cons.mpr ⟨hr, s4⟩⟩
theorem xW.lrem {x y : Int} (hd : decode Y.2.1 pc = .ok (.lrem, 1)) (hy : y ≠ 0) (k : xW Y g d mc ms (pc + 1) L (vJ (x.tmod y) :: st) cs h Q) : xW Y g d mc ms pc L (vJ y :: vJ x :: st) cs h Q := by
  intro l G p e s m args below meth c H locs ls C S
  obtain ⟨s1, s2⟩ := List.forall_mem_cons.mp S.2.2
  obtain ⟨s3, s4⟩ := List.forall_mem_cons.mp s2
  refine lv_lrem (x := Int64.ofInt x) (y := Int64.ofInt y) C.2.1.1 C.2.1.2.1 hd (fun z => hy ((x_eqL s1 (b := 0) (by decide)).mp z)) ?_
  rw [x_ldiv_of s3 s1, ← Int64.ofInt_mul, ← Int64.ofInt_sub, show x - x.tdiv y * y = x.tmod y by rw [Int.tmod_def, Int.mul_comm]]
  exact k l G p e s m args below meth c H locs ls C ⟨S.1, S.2.1, List.forall_mem_cons.mpr ⟨x_ltmod_r s3, s4⟩⟩
theorem xW.lor {x y : Int} (hd : decode Y.2.1 pc = .ok (.lor, 1)) (k : xW Y g d mc ms (pc + 1) L (vJ (x_lor x y) :: st) cs h Q) : xW Y g d mc ms pc L (vJ y :: vJ x :: st) cs h Q := by
  intro l G p e s m args below meth c H locs ls C S
  obtain ⟨s1, s2⟩ := List.forall_mem_cons.mp S.2.2
  obtain ⟨s3, s4⟩ := List.forall_mem_cons.mp s2
  refine lv_lor (x := Int64.ofInt x) (y := Int64.ofInt y) C.2.1.1 C.2.1.2.1 hd ?_
  rw [← Int64.ofInt_toInt (Int64.ofInt x ||| Int64.ofInt y)]
  exact k l G p e s m args below meth c H locs ls C ⟨S.1, S.2.1, List.forall_mem_cons.mpr ⟨x_inL_of _, s4⟩⟩
theorem xW.lshl {x y : Int} (hd : decode Y.2.1 pc = .ok (.lshl, 1)) (k : xW Y g d mc ms (pc + 1) L (vJ (x_lshl x y) :: st) cs h Q) : xW Y g d mc ms pc L (vI y :: vJ x :: st) cs h Q := by
  intro l G p e s m args below meth c H locs ls C S
  obtain ⟨s1, s2⟩ := List.forall_mem_cons.mp S.2.2
  obtain ⟨s3, s4⟩ := List.forall_mem_cons.mp s2
  exact lv_lshl (x := Int64.ofInt x) (y := Int32.ofInt y) (v := Int64.ofInt (x_lshl x y)) C.2.1.1 C.2.1.2.1 hd (Int64.ofInt_toInt _).symm (k l G p e s m args below meth c H locs ls C ⟨S.1, S.2.1, List.forall_mem_cons.mpr ⟨x_inL_of _, s4⟩⟩)
theorem xW.lshr {x y : Int} (hd : decode Y.2.1 pc = .ok (.lshr, 1)) (k : xW Y g d mc ms (pc + 1) L (vJ (x_lshr x y) :: st) cs h Q) : xW Y g d mc ms pc L (vI y :: vJ x :: st) cs h Q := by
  intro l G p e s m args below meth c H locs ls C S
  obtain ⟨s1, s2⟩ := List.forall_mem_cons.mp S.2.2
  obtain ⟨s3, s4⟩ := List.forall_mem_cons.mp s2
  exact lv_lshr (x := Int64.ofInt x) (y := Int32.ofInt y) (v := Int64.ofInt (x_lshr x y)) C.2.1.1 C.2.1.2.1 hd (Int64.ofInt_toInt _).symm (k l G p e s m args below meth c H locs ls C ⟨S.1, S.2.1, List.forall_mem_cons.mpr ⟨x_inL_of _, s4⟩⟩)
theorem xW.i2l {x : Int} (hd : decode Y.2.1 pc = .ok (.i2l, 1)) (k : xW Y g d mc ms (pc + 1) L (vJ x :: st) cs h Q) : xW Y g d mc ms pc L (vI x :: st) cs h Q := by
  intro l G p e s m args below meth c H locs ls C S
  obtain ⟨s1, s2⟩ := List.forall_mem_cons.mp S.2.2
  have s1' : inR x := s1
  have h1 : inL x := by constructor <;> omega
  refine lv_i2l (x := Int32.ofInt x) (v := Int64.ofInt x) C.2.1.1 C.2.1.2.1 hd ?_ (k l G p e s m args below meth c H locs ls C ⟨S.1, S.2.1, List.forall_mem_cons.mpr ⟨h1, s2⟩⟩)
  rw [← Int64.toInt_inj, Int32.toInt_toInt64, x_inR s1', x_inL h1]
theorem xW.l2i {x : Int} (hd : decode Y.2.1 pc = .ok (.l2i, 1)) (hr : inR x) (k : xW Y g d mc ms (pc + 1) L (vI x :: st) cs h Q) : xW Y g d mc ms pc L (vJ x :: st) cs h Q := by
  intro l G p e s m args below meth c H locs ls C S
  obtain ⟨s1, s2⟩ := List.forall_mem_cons.mp S.2.2
  have s1' : inL x := s1
  refine lv_l2i (x := Int64.ofInt x) (v := Int32.ofInt x) C.2.1.1 C.2.1.2.1 hd ?_ (k l G p e s m args below meth c H locs ls C ⟨S.1, S.2.1, List.forall_mem_cons.mpr ⟨hr, s2⟩⟩)
  rw [← Int32.ofInt_int64ToInt, x_inL s1']
theorem xW.lcmp {x y : Int} (hd : decode Y.2.1 pc = .ok (.lcmp, 1)) (k : xW Y g d mc ms (pc + 1) L (vI (x_cmp x y) :: st) cs h Q) : xW Y g d mc ms pc L (vJ y :: vJ x :: st) cs h Q := by
  intro l G p e s m args below meth c H locs ls C S
  obtain ⟨s1, s2⟩ := List.forall_mem_cons.mp S.2.2
  obtain ⟨s3, s4⟩ := List.forall_mem_cons.mp s2
  refine W.lcmp (x := Int64.ofInt x) (y := Int64.ofInt y) C.2.1.1 C.2.1.2.1 hd ?_
  rw [x_cmp_of s3 s1]
  exact k l G p e s m args below meth c H locs ls C ⟨S.1, S.2.1, List.forall_mem_cons.mpr ⟨x_cmp_r x y, s4⟩⟩
theorem xW.dup {v : xV} (hd : decode Y.2.1 pc = .ok (.dup, 1)) (hv : x_isJ v = false) (k : xW Y g d mc ms (pc + 1) L (v :: v :: st) cs h Q) : xW Y g d mc ms pc L (v :: st) cs h Q := by
  intro l G p e s m args below meth c H locs ls C S
  obtain ⟨s1, s2⟩ := List.forall_mem_cons.mp S.2.2
  exact lv_dup (va := x_tr (x_ad G) v) C.2.1.1 C.2.1.2.1 hd (by rw [x_tr_cat, hv]; rfl) (k l G p e s m args below meth c H locs ls C ⟨S.1, S.2.1, List.forall_mem_cons.mpr ⟨s1, S.2.2⟩⟩)
theorem xW.pop {v : xV} (hd : decode Y.2.1 pc = .ok (.pop, 1)) (hv : x_isJ v = false) (k : xW Y g d mc ms (pc + 1) L st cs h Q) : xW Y g d mc ms pc L (v :: st) cs h Q := by
  intro l G p e s m args below meth c H locs ls C S
  obtain ⟨s1, s2⟩ := List.forall_mem_cons.mp S.2.2
  exact lv_pop (va := x_tr (x_ad G) v) C.2.1.1 C.2.1.2.1 hd (by rw [x_tr_cat, hv]; rfl) (k l G p e s m args below meth c H locs ls C ⟨S.1, S.2.1, s2⟩)
theorem xW.dup2 {v w : xV} (hd : decode Y.2.1 pc = .ok (.dup2, 1)) (hv : x_isJ v = false) (hw : x_isJ w = false) (k : xW Y g d mc ms (pc + 1) L (v :: w :: v :: w :: st) cs h Q) : xW Y g d mc ms pc L (v :: w :: st) cs h Q := by
  intro l G p e s m args below meth c H locs ls C S
  obtain ⟨s1, s2⟩ := List.forall_mem_cons.mp S.2.2
  obtain ⟨s3, s4⟩ := List.forall_mem_cons.mp s2
  exact lv_dup2_11 (va := x_tr (x_ad G) v) (vb := x_tr (x_ad G) w) C.2.1.1 C.2.1.2.1 hd (by rw [x_tr_cat, hv]; rfl) (by rw [x_tr_cat, hw]; rfl) (k l G p e s m args below meth c H locs ls C ⟨S.1, S.2.1, List.forall_mem_cons.mpr ⟨s1, List.forall_mem_cons.mpr ⟨s3, S.2.2⟩⟩⟩)
theorem xW.dup2J {z : Int} (hd : decode Y.2.1 pc = .ok (.dup2, 1)) (k : xW Y g d mc ms (pc + 1) L (vJ z :: vJ z :: st) cs h Q) : xW Y g d mc ms pc L (vJ z :: st) cs h Q := by
  intro l G p e s m args below meth c H locs ls C S
  obtain ⟨s1, s2⟩ := List.forall_mem_cons.mp S.2.2
  exact lv_dup2_2 (va := .long (Int64.ofInt z)) C.2.1.1 C.2.1.2.1 hd rfl (k l G p e s m args below meth c H locs ls C ⟨S.1, S.2.1, List.forall_mem_cons.mpr ⟨s1, S.2.2⟩⟩)
theorem xW.goto {off : Int} {tgt : Nat} (hd : decode Y.2.1 pc = .ok (.goto off, 3)) (ht : (pc : Int) + off = (tgt : Int)) (k : xW Y g d mc ms tgt L st cs h Q) : xW Y g d mc ms pc L st cs h Q := by
  intro l G p e s m args below meth c H locs ls C S
  exact lv_goto C.2.1.1 C.2.1.2.1 hd ht (k l G p e s m args below meth c H locs ls C S)
end Arith
