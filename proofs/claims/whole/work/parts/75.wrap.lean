/-! an addition that may wrap: the reference's count of ends, which only hour() sets back -/
def x_wr (z : Int) : Int := (Int32.ofInt z).toInt
theorem x_wr_r (z : Int) : inR (x_wr z) := by
  have h1 := Int32.le_toInt (Int32.ofInt z)
  have h2 := Int32.toInt_lt (Int32.ofInt z)
  unfold inR x_wr
  omega
theorem x_wr_of {z : Int} (h : inR z) : x_wr z = z := by
  unfold inR at h
  unfold x_wr
  exact Int32.toInt_ofInt_of_le (by omega) (by omega)
theorem xW.iaddW {Y : xY} {g : Option Nat} {d mc ms pc : Nat} {L : xL} {st : List xV} {cs : Nat × Nat} {h : xH} {Q : xH → Option xV → Prop} {x y : Int} (hd : decode Y.2.1 pc = .ok (.iadd, 1)) (k : xW Y g d mc ms (pc + 1) L (vI (x_wr (x + y)) :: st) cs h Q) : xW Y g d mc ms pc L (vI y :: vI x :: st) cs h Q := by
  intro l G p e s m args below meth c H locs ls C S
  obtain ⟨s1, s2⟩ := List.forall_mem_cons.mp S.2.2
  obtain ⟨s3, s4⟩ := List.forall_mem_cons.mp s2
  refine lv_iadd (x := Int32.ofInt x) (y := Int32.ofInt y) C.2.1.1 C.2.1.2.1 hd ?_
  rw [← Int32.ofInt_add, ← show Int32.ofInt (x_wr (x + y)) = Int32.ofInt (x + y) from Int32.ofInt_toInt _]
  exact k l G p e s m args below meth c H locs ls C ⟨S.1, S.2.1, List.forall_mem_cons.mpr ⟨x_wr_r _, s4⟩⟩
set_option maxRecDepth 20000 in
set_option maxHeartbeats 4000000 in
theorem w_X10_hear_168 {g : Option Nat} {d n : Nat} {P : xP} {M : xM} {F : xM → Prop} (hn : 82 ≤ n) (hP : x_PP P) {x2 x3 s0 s1 : Int} (H : inR (s0 + x3) ∧ ((0 : Int) ≤ s1 ∧ s1 < (3642 : Int)) ∧ inR (((x_upd M 65 s1 (s0 + x3)) 65 17) + 1) ∧ ((x2 = 0 → xW Y_X10_hear g (d + 5) 0 0 202 [(3, vI x3)] [vI 2, vR (some 64)] (0, 0) (n, P, (x_upd (x_upd (x_upd M 65 s1 (s0 + x3)) 65 17 (((x_upd M 65 s1 (s0 + x3)) 65 17) + 1)) 64 29 (x_wr ((M 64 29) + 1)))) (kV n P F)) ∧ (¬ x2 = 0 → xW Y_X10_hear g (d + 5) 0 0 202 [(3, vI x3)] [vI 3, vR (some 64)] (0, 0) (n, P, (x_upd (x_upd (x_upd M 65 s1 (s0 + x3)) 65 17 (((x_upd M 65 s1 (s0 + x3)) 65 17) + 1)) 64 29 (x_wr ((M 64 29) + 1)))) (kV n P F)))) : xW Y_X10_hear g (d + 5) 0 0 168 [(0, vR (some 64)), (2, vI x2), (3, vI x3)] [vI s0, vI s1, vR (some 65)] (0, 0) (n, P, M) (kV n P F) :=
  (xW.iload_n dX10_hear_168 2 rfl (xW.iadd dX10_hear_169 H.1 (xW.ast dX10_hear_170 (cl_65 hn) H.2.1 (xW.aload_n dX10_hear_171 0 rfl (xW.gR dX10_hear_172 fk_X10_7 (cl_64 hn) rfl (pp_64_0 hP) (xW.bipush dX10_hear_175 (by decide) (by decide) (xW.dup2 dX10_hear_177 rfl rfl (xW.ald dX10_hear_178 (cl_65 hn) (by decide) (xW.iconst dX10_hear_179 (by decide) (xW.iadd dX10_hear_180 H.2.2.1 (xW.ast dX10_hear_181 (cl_65 hn) (by decide) (xW.aload_n dX10_hear_182 0 rfl (xW.dup dX10_hear_183 rfl (xW.gI dX10_hear_184 fk_X10_362 (cl_64 hn) ft_8_29 (xW.iconst dX10_hear_187 (by decide) (xW.iaddW dX10_hear_188 (xW.sI dX10_hear_189 fk_X10_362 (cl_64 hn) rfl (xW.aload_n dX10_hear_192 0 rfl (xW.iload_n dX10_hear_193 1 rfl (xW.ifeq (tgt := 201) dX10_hear_194 (by decide) (fun h7 => (xW.iconst dX10_hear_201 (by decide) (xW.sub [2] rfl (H.2.2.2.1 h7)))) (fun h7 => (xW.iconst dX10_hear_197 (by decide) (xW.goto (tgt := 202) dX10_hear_198 (by decide) (xW.sub [2] rfl (H.2.2.2.2 h7)))))))))))))))))))))))))
