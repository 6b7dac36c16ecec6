/-- a lookupswitch's arms, one behind another -/
def x_ls (p : Nat → Prop) (z : Int) : List (Int × Nat) → Nat → Prop
  | [], td => p td
  | q :: ts, td => (z = q.1 → p q.2) ∧ (¬ z = q.1 → x_ls p z ts td)
theorem x_ls_at {p : Nat → Prop} {z : Int} {pc : Nat} {dflt : Int} {td : Nat} (hd : (pc : Int) + dflt = (td : Int)) : ∀ {ts : List (Int × Nat)} {ps : List (Int × Int)}, ps.map (fun q : Int × Int => (q.1, (pc : Int) + q.2)) = ts.map (fun t : Int × Nat => (t.1, (t.2 : Int))) → x_ls p z ts td → ∃ t : Nat, (pc : Int) + Op.lookupswitch.offset ps dflt z = (t : Int) ∧ p t
  | [], [], _, h => ⟨td, by simpa [Op.lookupswitch.offset] using hd, h⟩
  | [], _ :: _, e, _ => by cases e
  | _ :: _, [], e, _ => by cases e
  | q :: ts, r :: ps, e, h => by
    rw [List.map_cons, List.map_cons] at e
    obtain ⟨e1, e2⟩ := List.cons.inj e
    have e3 : r.1 = q.1 := congrArg (fun x : Int × Int => x.1) e1
    have e4 : (pc : Int) + r.2 = (q.2 : Int) := congrArg (fun x : Int × Int => x.2) e1
    by_cases hz : z = q.1
    · refine ⟨q.2, ?_, h.1 hz⟩
      simp [Op.lookupswitch.offset, e3, hz, e4]
    · obtain ⟨t, h1, h2⟩ := x_ls_at hd e2 (h.2 hz)
      refine ⟨t, ?_, h2⟩
      rw [← h1]
      have hne : ¬ (q.1 = z) := fun h => hz h.symm
      simp [Op.lookupswitch.offset, e3, hne]
section LSW
variable {Y : xY} {g : Option Nat} {d mc ms pc : Nat} {L : xL} {st : List xV} {cs : Nat × Nat} {n : Nat} {P : xP} {M : xM} {Q : xH → Option xV → Prop}
theorem xW.lsw {z dflt : Int} {ps : Array (Int × Int)} {len : Nat} (td : Nat) (ts : List (Int × Nat)) (hd : decode Y.2.1 pc = .ok (.lookupswitch dflt ps, len)) (hp : (ps.toList.zip (ps.toList.drop 1)).all (fun (a, next) => a.1 < next.1) = true) (h1 : (pc : Int) + dflt = (td : Int)) (h2 : ps.toList.map (fun q : Int × Int => (q.1, (pc : Int) + q.2)) = ts.map (fun t : Int × Nat => (t.1, (t.2 : Int))))
    (kt : x_ls (fun t => xW Y g d mc ms t L st cs (n, P, M) Q) z ts td) : xW Y g d mc ms pc L (vI z :: st) cs (n, P, M) Q := by
  intro l G p e s m args below meth c H locs ls C S
  obtain ⟨s1, s2⟩ := List.forall_mem_cons.mp S.2.2
  have s1' : inR z := s1
  obtain ⟨t, e1, e2⟩ := x_ls_at h1 h2 kt
  exact lv_lookup (x := Int32.ofInt z) C.2.1.1 C.2.1.2.1 hd hp rfl (by rw [x_inR s1']; exact e1) (e2 l G p e s m args below meth c H locs ls C ⟨S.1, S.2.1, s2⟩)
end LSW
