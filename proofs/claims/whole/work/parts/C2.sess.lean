/-! session: bits of any number -/
theorem xW.isubW {Y : xY} {g : Option Nat} {d mc ms pc : Nat} {L : xL} {st : List xV} {cs : Nat × Nat} {h : xH} {Q : xH → Option xV → Prop} {x y : Int} (hd : decode Y.2.1 pc = .ok (.isub, 1)) (k : xW Y g d mc ms (pc + 1) L (vI (x_wr (x - y)) :: st) cs h Q) : xW Y g d mc ms pc L (vI y :: vI x :: st) cs h Q := by
  intro l G p e s m args below meth c H locs ls C S
  obtain ⟨s1, s2⟩ := List.forall_mem_cons.mp S.2.2
  obtain ⟨s3, s4⟩ := List.forall_mem_cons.mp s2
  refine lv_isub (x := Int32.ofInt x) (y := Int32.ofInt y) C.2.1.1 C.2.1.2.1 hd ?_
  rw [← Int32.ofInt_sub, ← show Int32.ofInt (x_wr (x - y)) = Int32.ofInt (x - y) from Int32.ofInt_toInt _]
  exact k l G p e s m args below meth c H locs ls C ⟨S.1, S.2.1, List.forall_mem_cons.mpr ⟨x_wr_r _, s4⟩⟩
set_option maxRecDepth 20000 in
set_option maxHeartbeats 4000000 in
theorem w_J6_bitCount {g : Option Nat} {d n : Nat} {P : xP} {M : xM} {F : xM → Int → Prop} (hn : 82 ≤ n) {a0 : Int} (H : ∀ z, F M z) : xCI Y_J6_bitCount_0f7a4 g (d) [vI a0] n P M F :=
  xC.of pn_J6_bitCount_0f7a4 (Nat.le_of_ble_eq_true rfl) rfl (xW.iload_n dJ6_bitCount_0f7a4_0 0 rfl (xW.iload_n dJ6_bitCount_0f7a4_1 0 rfl (xW.iconst dJ6_bitCount_0f7a4_2 (by decide) (xW.iushr dJ6_bitCount_0f7a4_3 (xW.ldcw (n := 1431655765) dJ6_bitCount_0f7a4_4 kc_J6_265 (by decide) (by decide) (xW.iand dJ6_bitCount_0f7a4_7 (xW.isubW dJ6_bitCount_0f7a4_8 (xW.istore_n dJ6_bitCount_0f7a4_9 (by decide) rfl (xW.iload_n dJ6_bitCount_0f7a4_10 0 rfl (xW.ldcw (n := 858993459) dJ6_bitCount_0f7a4_11 kc_J6_266 (by decide) (by decide) (xW.iand dJ6_bitCount_0f7a4_14 (xW.iload_n dJ6_bitCount_0f7a4_15 0 rfl (xW.iconst dJ6_bitCount_0f7a4_16 (by decide) (xW.iushr dJ6_bitCount_0f7a4_17 (xW.ldcw (n := 858993459) dJ6_bitCount_0f7a4_18 kc_J6_266 (by decide) (by decide) (xW.iand dJ6_bitCount_0f7a4_21 (xW.iaddW dJ6_bitCount_0f7a4_22 (xW.istore_n dJ6_bitCount_0f7a4_23 (by decide) rfl (xW.iload_n dJ6_bitCount_0f7a4_24 0 rfl (xW.iload_n dJ6_bitCount_0f7a4_25 0 rfl (xW.iconst dJ6_bitCount_0f7a4_26 (by decide) (xW.iushr dJ6_bitCount_0f7a4_27 (xW.iaddW dJ6_bitCount_0f7a4_28 (xW.ldcw (n := 252645135) dJ6_bitCount_0f7a4_29 kc_J6_267 (by decide) (by decide) (xW.iand dJ6_bitCount_0f7a4_32 (xW.istore_n dJ6_bitCount_0f7a4_33 (by decide) rfl (xW.iload_n dJ6_bitCount_0f7a4_34 0 rfl (xW.iload_n dJ6_bitCount_0f7a4_35 0 rfl (xW.bipush dJ6_bitCount_0f7a4_36 (by decide) (by decide) (xW.iushr dJ6_bitCount_0f7a4_38 (xW.iaddW dJ6_bitCount_0f7a4_39 (xW.istore_n dJ6_bitCount_0f7a4_40 (by decide) rfl (xW.iload_n dJ6_bitCount_0f7a4_41 0 rfl (xW.iload_n dJ6_bitCount_0f7a4_42 0 rfl (xW.bipush dJ6_bitCount_0f7a4_43 (by decide) (by decide) (xW.iushr dJ6_bitCount_0f7a4_45 (xW.iaddW dJ6_bitCount_0f7a4_46 (xW.istore_n dJ6_bitCount_0f7a4_47 (by decide) rfl (xW.iload_n dJ6_bitCount_0f7a4_48 0 rfl (xW.bipush dJ6_bitCount_0f7a4_49 (by decide) (by decide) (xW.iand dJ6_bitCount_0f7a4_51 (xW.rI dJ6_bitCount_0f7a4_52 rfl (H _)))))))))))))))))))))))))))))))))))))))))))
theorem c_J6_bitAny {g : Option Nat} {d n : Nat} {P : xP} {M : xM} {F : xM → Int → Prop} (hn : 82 ≤ n) {a : Int} (H : ∀ z, ((0 ≤ a ∧ a < 256) → z = popc a) → F M z) : xCI Y_J6_bitCount_0f7a4 g d [vI a] n P M F := by
  by_cases h : 0 ≤ a ∧ a < 256
  · exact c_J6_bitCount hn h (H _ (fun _ => rfl))
  · exact w_J6_bitCount hn (fun z => H z (fun q => absurd q h))
/-! orders: as the class goes through them, as the reference does -/
def rmv (v c : Int) : Int := x_and v (x_xor (x_shl 1 c) (-1))
def ordS (f : Int → List (List Int)) (v : Int) : Nat → Int → List (List Int)
  | 0, _ => []
  | m + 1, c => (if x_and (x_shr v c) 1 = 1 then (f (rmv v c)).map (fun q => c :: q) else []) ++ ordS f v m (c + 1)
def ords : Nat → Int → List (List Int)
  | 0, _ => [[]]
  | k + 1, v => ordS (ords k) v 8 0
def d1 (p : List Int) : Nat → Nat
  | 0 => 0
  | i + 1 => if p.getD i 0 ≤ p.getD (i + 1) 0 then i + 1 else d1 p i
def d2 (p : List Int) (v : Int) : Nat → Nat
  | 0 => 0
  | k + 1 => if v ≤ p.getD (k + 1) 0 then k + 1 else d2 p v k
def swp (p : List Int) (x y : Nat) : List Int := (p.set x (p.getD y 0)).set y (p.getD x 0)
def rvs : Nat → Nat → Nat → List Int → List Int
  | 0, _, _, p => p
  | f + 1, x, y, p => if y ≤ x then p else rvs f (x + 1) (y - 1) (swp p x y)
def nxt (p : List Int) : Option (List Int) :=
  if d1 p (p.length - 1) = 0 then none
  else some (rvs 5 (d1 p (p.length - 1)) (p.length - 1) (swp p (d1 p (p.length - 1) - 1) (d2 p (p.getD (d1 p (p.length - 1) - 1) 0) (p.length - 1))))
def rws : Nat → List Int → List (List Int)
  | 0, p => [p]
  | f + 1, p => match nxt p with
    | none => [p]
    | some q => p :: rws f q
def idn : Nat → List Int
  | 0 => []
  | n + 1 => idn n ++ [(n : Int)]
def endR : Nat → List Int → Bool
  | 0, p => (nxt p).isNone
  | f + 1, p => match nxt p with
    | none => true
    | some q => endR f q
theorem endR_ok : ∀ n : Fin 6, endR 119 (idn n.val) = true := by decide +kernel
theorem rws_ok : ∀ n : Fin 6, ∀ r ∈ rws 119 (idn n.val), r.length = n.val ∧ ∀ i ∈ r, 0 ≤ i ∧ i < (n.val : Int) := by decide +kernel
def pV : Nat → List Int → List (List Int)
  | 0, _ => [[]]
  | k + 1, l => l.flatMap (fun c => (pV k (l.filter (fun x => decide (x ≠ c)))).map (fun q => c :: q))
theorem pV_rws : ∀ n : Fin 6, pV n.val (idn n.val) = rws 119 (idn n.val) := by decide +kernel
