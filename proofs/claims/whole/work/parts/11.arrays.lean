section Arr
variable {Y : xY} {g : Option Nat} {d mc ms pc : Nat} {L : xL} {st : List xV} {cs : Nat × Nat} {n : Nat} {P : xP} {M : xM} {Q : xH → Option xV → Prop}
theorem x_ce0 {cA : Nat → ClassId} {ad : Nat → Nat} {a : Nat} (hs : x_sk a = 0) : x_ce cA ad P M a = .inl (cA 0, x_sn a, .inl (fun j : Nat => Int32.ofInt (M a j))) := if_pos hs
theorem x_ce1 {cA : Nat → ClassId} {ad : Nat → Nat} {a : Nat} (hs : x_sk a = 1) : x_ce cA ad P M a = .inl (cA 1, x_sn a, .inr (.inl (fun j : Nat => Int64.ofInt (M a j)))) := by
  unfold x_ce; rw [if_neg (by omega), if_pos hs]
theorem x_ce2 {cA : Nat → ClassId} {ad : Nat → Nat} {a : Nat} (hs : x_sk a = 2) : x_ce cA ad P M a = .inl (cA 2, x_sn a, .inl (fun j : Nat => Int32.ofInt (M a j))) := by
  unfold x_ce; rw [if_neg (by omega), if_neg (by omega), if_pos hs]
theorem x_ce3 {cA : Nat → ClassId} {ad : Nat → Nat} {a : Nat} (hs : x_sk a = 3) : x_ce cA ad P M a = .inl (cA 3, x_sn a, .inr (.inr (.inr (.inr (fun j : Nat => (P a j).map ad))))) := by
  unfold x_ce; rw [if_neg (by omega), if_neg (by omega), if_neg (by omega), if_pos hs]
theorem x_ce4 {cA : Nat → ClassId} {ad : Nat → Nat} {a : Nat} (hs : x_sk a = 4) : x_ce cA ad P M a = .inl (cA 4, x_sn a, .inr (.inr (.inr (.inr (fun j : Nat => (P a j).map ad))))) := by
  unfold x_ce; rw [if_neg (by omega), if_neg (by omega), if_neg (by omega), if_neg (by omega), if_pos hs]
theorem x_lng0 {a : Nat} {i : Int} (hs : x_sk a = 0 ∨ x_sk a = 2) : x_lng a i = false := by
  unfold x_lng
  rcases hs with hs | hs <;> rw [hs] <;> rfl
theorem x_lng1 {a : Nat} {i : Int} (hs : x_sk a = 1) : x_lng a i = true := by
  unfold x_lng
  rw [hs]
  rfl
theorem x_toNat {i : Int} (hi : inR i) (h0 : 0 ≤ i) : (((Int32.ofInt i).toNatClampNeg : Nat) : Int) = i := by
  rw [x_clamp hi]
  omega
theorem xW.iald {a : Nat} {i : Int} (hd : decode Y.2.1 pc = .ok (.iaload, 1)) (hs : x_sk a = 0) (hn : a < n) (h0 : 0 ≤ i) (h1 : i < x_sn a) (k : xW Y g d mc ms (pc + 1) L (vI (M a i) :: st) cs (n, P, M) Q) : xW Y g d mc ms pc L (vI i :: vR (some a) :: st) cs (n, P, M) Q := by
  intro l G p e s m args below meth c H locs ls C S
  obtain ⟨s1, s2⟩ := List.forall_mem_cons.mp S.2.2
  obtain ⟨-, s3⟩ := List.forall_mem_cons.mp s2
  have s1' : inR i := s1
  have he := x_cw_get (G := G) (h := (n, P, M)) hn
  rw [x_ce0 hs] at he
  refine va_iald C.2.1.1 C.2.1.2.1 C.2.2.1 C.2.2.2.2.2.2.1.2.2 a 0 he rfl (x_in s1' h0 h1) hd ?_
  dsimp only
  rw [x_toNat s1' h0]
  have hok := C.2.2.2.2.2.2.2.1 a i
  rw [x_lng0 (Or.inl hs)] at hok
  exact k l G p e s m args below meth c H locs ls C ⟨S.1, S.2.1, List.forall_mem_cons.mpr ⟨hok, s3⟩⟩
theorem xW.bald {a : Nat} {i : Int} (hd : decode Y.2.1 pc = .ok (.baload, 1)) (hs : x_sk a = 2) (hn : a < n) (h0 : 0 ≤ i) (h1 : i < x_sn a) (k : xW Y g d mc ms (pc + 1) L (vI (M a i) :: st) cs (n, P, M) Q) : xW Y g d mc ms pc L (vI i :: vR (some a) :: st) cs (n, P, M) Q := by
  intro l G p e s m args below meth c H locs ls C S
  obtain ⟨s1, s2⟩ := List.forall_mem_cons.mp S.2.2
  obtain ⟨-, s3⟩ := List.forall_mem_cons.mp s2
  have s1' : inR i := s1
  have he := x_cw_get (G := G) (h := (n, P, M)) hn
  rw [x_ce2 hs] at he
  refine va_zald C.2.1.1 C.2.1.2.1 C.2.2.1 C.2.2.2.2.2.2.1.2.2 a 2 he rfl (x_in s1' h0 h1) hd ?_
  dsimp only
  rw [x_toNat s1' h0]
  have hok := C.2.2.2.2.2.2.2.1 a i
  rw [x_lng0 (Or.inr hs)] at hok
  exact k l G p e s m args below meth c H locs ls C ⟨S.1, S.2.1, List.forall_mem_cons.mpr ⟨hok, s3⟩⟩
theorem xW.lald {a : Nat} {i : Int} (hd : decode Y.2.1 pc = .ok (.laload, 1)) (hs : x_sk a = 1) (hn : a < n) (h0 : 0 ≤ i) (h1 : i < x_sn a) (k : xW Y g d mc ms (pc + 1) L (vJ (M a i) :: st) cs (n, P, M) Q) : xW Y g d mc ms pc L (vI i :: vR (some a) :: st) cs (n, P, M) Q := by
  intro l G p e s m args below meth c H locs ls C S
  obtain ⟨s1, s2⟩ := List.forall_mem_cons.mp S.2.2
  obtain ⟨-, s3⟩ := List.forall_mem_cons.mp s2
  have s1' : inR i := s1
  have he := x_cw_get (G := G) (h := (n, P, M)) hn
  rw [x_ce1 hs] at he
  refine va_lald C.2.1.1 C.2.1.2.1 C.2.2.1 C.2.2.2.2.2.2.1.2.2 a 1 he rfl (x_in s1' h0 h1) hd ?_
  dsimp only
  rw [x_toNat s1' h0]
  have hok := C.2.2.2.2.2.2.2.1 a i
  rw [x_lng1 hs] at hok
  exact k l G p e s m args below meth c H locs ls C ⟨S.1, S.2.1, List.forall_mem_cons.mpr ⟨hok, s3⟩⟩
theorem xW.aald {a : Nat} {i : Int} {o : Option Nat} (hd : decode Y.2.1 pc = .ok (.aaload, 1)) (hs : x_sk a = 3 ∨ x_sk a = 4) (hn : a < n) (h0 : 0 ≤ i) (h1 : i < x_sn a) (ho : P a i = o) (k : xW Y g d mc ms (pc + 1) L (vR o :: st) cs (n, P, M) Q) : xW Y g d mc ms pc L (vI i :: vR (some a) :: st) cs (n, P, M) Q := by
  intro l G p e s m args below meth c H locs ls C S
  obtain ⟨s1, s2⟩ := List.forall_mem_cons.mp S.2.2
  obtain ⟨-, s3⟩ := List.forall_mem_cons.mp s2
  have s1' : inR i := s1
  have hin := x_in s1' h0 h1
  have hlt : (Int32.ofInt i).toNatClampNeg < x_sn a := Nat.not_le.mp fun q => hin (Or.inr q)
  have kk := k l G p e s m args below meth c H locs ls C ⟨S.1, S.2.1, List.forall_mem_cons.mpr ⟨trivial, s3⟩⟩
  have he := x_cw_get (G := G) (h := (n, P, M)) hn
  rcases hs with hs | hs
  · rw [x_ce3 hs] at he
    refine va_aldq C.2.1.1 C.2.1.2.1 C.2.2.1 C.2.2.2.2.2.2.1.2.2 a 3 he rfl hin hd ?_
    dsimp only
    rw [x_toNat s1' h0, ho]
    exact kk
  · rw [x_ce4 hs] at he
    refine W.aald (v := va_rf ((P a i).map (x_ad G))) (ty := .array .int) C.2.1.1 C.2.1.2.1 (C.2.2.2.2.2.2.1.2.2 a _ he) ((C.2.2.1.2 4 _ rfl).1 (x_sn a) (fun j : Nat => va_rf ((P a j).map (x_ad G)))) rfl (fun q => by cases q) (by show ¬ (_ < 0 ∨ (arrV _ _ _).slots.size ≤ _); rw [arrV_size]; exact hin) (by show (arrV _ _ _).slots[_]? = _; rw [arrV_read _ _ hlt]; dsimp only; rw [x_toNat s1' h0]) rfl rfl hd ?_
    rw [ho]
    exact kk
theorem xW.alen {a : Nat} (hd : decode Y.2.1 pc = .ok (.arraylength, 1)) (hs : x_sk a = 0 ∨ x_sk a = 4) (hn : a < n) (hr : inR (x_sn a)) (k : xW Y g d mc ms (pc + 1) L (vI (x_sn a) :: st) cs (n, P, M) Q) : xW Y g d mc ms pc L (vR (some a) :: st) cs (n, P, M) Q := by
  intro l G p e s m args below meth c H locs ls C S
  obtain ⟨s1, s2⟩ := List.forall_mem_cons.mp S.2.2
  have kk := k l G p e s m args below meth c H locs ls C ⟨S.1, S.2.1, List.forall_mem_cons.mpr ⟨hr, s2⟩⟩
  have he := x_cw_get (G := G) (h := (n, P, M)) hn
  rcases hs with hs | hs
  · rw [x_ce0 hs] at he
    exact va_alen C.2.1.1 C.2.1.2.1 C.2.2.1 C.2.2.2.2.2.2.1.2.2 a 0 he (ty := .int) rfl Int32.ofInt_eq_ofNat.symm hd kk
  · rw [x_ce4 hs] at he
    exact va_alen C.2.1.1 C.2.1.2.1 C.2.2.1 C.2.2.2.2.2.2.1.2.2 a 4 he (ty := .array .int) rfl Int32.ofInt_eq_ofNat.symm hd kk
/-- a store into an array: the world behind it -/
theorem x_afterI {G : xG} {a : Nat} {i z : Int} {H H1 : Heap} {kd : Nat} (h1000 : n < 1000) (hP : va_P G.1 vwCl (x_cw G (n, P, M)) H) (hn : a < n) (hi : inR i) (h0 : 0 ≤ i) (hs : x_sk a = kd) (hk : kd = 0 ∨ kd = 2)
    (e : H1[x_ad G a]? = some ((vp_cell (G.2.1 kd) (x_sn a, .inl (fun j : Nat => Int32.ofInt (M a j)))).setSlot (Int32.ofInt i).toNatClampNeg (.int (Int32.ofInt z)))) (oq : ∀ q : Nat, q ≠ x_ad G a → H1[q]? = H[q]?) : va_P G.1 vwCl (x_cw G (n, P, x_upd M a i z)) H1 := by
  have hD : va_D (x_A G) (x_cw G (n, P, M)) := x_D h1000
  have he := x_cw_get (G := G) (h := (n, P, M)) hn
  have hcell : ∀ M' : xM, x_ce G.2.1 (x_ad G) P M' a = .inl (G.2.1 kd, x_sn a, .inl (fun j : Nat => Int32.ofInt (M' a j))) := by
    intro M'
    rcases hk with hk | hk
    · subst hk; exact x_ce0 hs
    · subst hk; exact x_ce2 hs
  rw [← x_cw_set (a := a) (e := .inl (G.2.1 kd, x_sn a, .inl (fun j : Nat => Int32.ofInt (x_upd M a i z a j)))) (P := P) (M := M) (hcell _) (fun b hb => x_ce_ne (fun _ => rfl) (x_upd_ne hb))]
  refine hP.set hD he ?_ oq
  show H1[x_ad G a]? = some (vp_cell _ _)
  rw [e, vp_cell_i, vp_cell_i, arrV_store]
  congr 2
  funext q
  unfold updV x_upd
  by_cases hq : q = (Int32.ofInt i).toNatClampNeg
  · rw [if_pos hq, if_pos ⟨rfl, by rw [hq]; exact x_toNat hi h0⟩]
  · rw [if_neg hq, if_neg (fun z => hq (by have := z.2; rw [x_clamp hi]; omega))]
theorem xW.iast {a : Nat} {i z : Int} (hd : decode Y.2.1 pc = .ok (.iastore, 1)) (hs : x_sk a = 0) (hn : a < n) (h0 : 0 ≤ i) (h1 : i < x_sn a) (k : xW Y g d mc ms (pc + 1) L st cs (n, P, x_upd M a i z) Q) : xW Y g d mc ms pc L (vI z :: vI i :: vR (some a) :: st) cs (n, P, M) Q := by
  intro l G p e s m args below meth c H locs ls C S
  obtain ⟨sz, s0⟩ := List.forall_mem_cons.mp S.2.2
  obtain ⟨s1, s2⟩ := List.forall_mem_cons.mp s0
  obtain ⟨-, s3⟩ := List.forall_mem_cons.mp s2
  have s1' : inR i := s1
  obtain ⟨hsz, h1000, hP⟩ := C.2.2.2.2.2.2.1
  have he := x_cw_get (G := G) (h := (n, P, M)) hn
  rw [x_ce0 hs] at he
  refine W.iast C.2.1.1 C.2.1.2.1 (hP a _ he) ((C.2.2.1.2 0 _ rfl).1 (x_sn a) (fun j : Nat => .int (Int32.ofInt (M a j)))) (fun q => by cases q) (by show ¬ (_ < 0 ∨ (arrV _ _ _).slots.size ≤ _); rw [arrV_size]; exact x_in s1' h0 h1) rfl rfl hd fun H1 e1 z1 oq => ?_
  refine k l G p e s m args below meth c H1 _ ls ⟨trivial, C.2.1, C.2.2.1, C.2.2.2.1, C.2.2.2.2.1, C.2.2.2.2.2.1.put z1 oq (x_ad_A (by omega)), ⟨fun g0 hg => ⟨(hsz g0 hg).1, z1.trans (hsz g0 hg).2⟩, h1000, x_afterI h1000 hP hn s1' h0 hs (Or.inl rfl) e1 oq⟩, x_okM_upd C.2.2.2.2.2.2.2 ?_ (fun w _ => absurd hs (by rw [w]; decide))⟩ ⟨S.1, S.2.1, s3⟩
  rw [x_lng0 (Or.inl hs)]
  exact sz
theorem xW.bast {a : Nat} {i z : Int} (hd : decode Y.2.1 pc = .ok (.bastore, 1)) (hs : x_sk a = 2) (hn : a < n) (h0 : 0 ≤ i) (h1 : i < x_sn a) (hz : z = 0 ∨ z = 1) (k : xW Y g d mc ms (pc + 1) L st cs (n, P, x_upd M a i z) Q) : xW Y g d mc ms pc L (vI z :: vI i :: vR (some a) :: st) cs (n, P, M) Q := by
  intro l G p e s m args below meth c H locs ls C S
  obtain ⟨sz, s0⟩ := List.forall_mem_cons.mp S.2.2
  obtain ⟨s1, s2⟩ := List.forall_mem_cons.mp s0
  obtain ⟨-, s3⟩ := List.forall_mem_cons.mp s2
  have s1' : inR i := s1
  obtain ⟨hsz, h1000, hP⟩ := C.2.2.2.2.2.2.1
  have he := x_cw_get (G := G) (h := (n, P, M)) hn
  rw [x_ce2 hs] at he
  refine W.zast C.2.1.1 C.2.1.2.1 (hP a _ he) ((C.2.2.1.2 2 _ rfl).1 (x_sn a) (fun j : Nat => .int (Int32.ofInt (M a j)))) (fun q => by cases q) (by show ¬ (_ < 0 ∨ (arrV _ _ _).slots.size ≤ _); rw [arrV_size]; exact x_in s1' h0 h1) rfl rfl hd fun H1 e1 z1 oq => ?_
  have e2 : H1[x_ad G a]? = some ((vp_cell (G.2.1 2) (x_sn a, .inl (fun j : Nat => Int32.ofInt (M a j)))).setSlot (Int32.ofInt i).toNatClampNeg (.int (Int32.ofInt z))) := by
    rw [e1]
    rcases hz with rfl | rfl <;> rfl
  refine k l G p e s m args below meth c H1 _ ls ⟨trivial, C.2.1, C.2.2.1, C.2.2.2.1, C.2.2.2.2.1, C.2.2.2.2.2.1.put z1 oq (x_ad_A (by omega)), ⟨fun g0 hg => ⟨(hsz g0 hg).1, z1.trans (hsz g0 hg).2⟩, h1000, x_afterI h1000 hP hn s1' h0 hs (Or.inr rfl) e2 oq⟩, x_okM_upd C.2.2.2.2.2.2.2 ?_ (fun w _ => absurd hs (by rw [w]; decide))⟩ ⟨S.1, S.2.1, s3⟩
  rw [x_lng0 (Or.inr hs)]
  exact sz
theorem xW.last {a : Nat} {i z : Int} (hd : decode Y.2.1 pc = .ok (.lastore, 1)) (hs : x_sk a = 1) (hn : a < n) (h0 : 0 ≤ i) (h1 : i < x_sn a) (k : xW Y g d mc ms (pc + 1) L st cs (n, P, x_upd M a i z) Q) : xW Y g d mc ms pc L (vJ z :: vI i :: vR (some a) :: st) cs (n, P, M) Q := by
  intro l G p e s m args below meth c H locs ls C S
  obtain ⟨sz, s0⟩ := List.forall_mem_cons.mp S.2.2
  obtain ⟨s1, s2⟩ := List.forall_mem_cons.mp s0
  obtain ⟨-, s3⟩ := List.forall_mem_cons.mp s2
  have s1' : inR i := s1
  obtain ⟨hsz, h1000, hP⟩ := C.2.2.2.2.2.2.1
  have hD : va_D (x_A G) (x_cw G (n, P, M)) := x_D h1000
  have he0 := x_cw_get (G := G) (h := (n, P, M)) hn
  have he := he0
  rw [x_ce1 hs] at he
  refine W.last C.2.1.1 C.2.1.2.1 (hP a _ he) ((C.2.2.1.2 1 _ rfl).1 (x_sn a) (fun j : Nat => .long (Int64.ofInt (M a j)))) (fun q => by cases q) (by show ¬ (_ < 0 ∨ (arrV _ _ _).slots.size ≤ _); rw [arrV_size]; exact x_in s1' h0 h1) rfl rfl hd fun H1 e1 z1 oq => ?_
  have hP1 : va_P G.1 vwCl (x_cw G (n, P, x_upd M a i z)) H1 := by
    rw [← x_cw_set (a := a) (e := .inl (G.2.1 1, x_sn a, .inr (.inl (fun j : Nat => Int64.ofInt (x_upd M a i z a j))))) (P := P) (M := M) (x_ce1 hs) (fun b hb => x_ce_ne (fun _ => rfl) (x_upd_ne hb))]
    refine hP.set hD he0 ?_ oq
    show H1[x_ad G a]? = some (vp_cell _ _)
    rw [e1, vp_cell_l, vp_cell_l, arrV_store]
    congr 2
    funext q
    unfold updV x_upd
    by_cases hq : q = (Int32.ofInt i).toNatClampNeg
    · rw [if_pos hq, if_pos ⟨rfl, by rw [hq]; exact x_toNat s1' h0⟩]
    · rw [if_neg hq, if_neg (fun z => hq (by have := z.2; rw [x_clamp s1']; omega))]
  refine k l G p e s m args below meth c H1 _ ls ⟨trivial, C.2.1, C.2.2.1, C.2.2.2.1, C.2.2.2.2.1, C.2.2.2.2.2.1.put z1 oq (x_ad_A (by omega)), ⟨fun g0 hg => ⟨(hsz g0 hg).1, z1.trans (hsz g0 hg).2⟩, h1000, hP1⟩, x_okM_upd C.2.2.2.2.2.2.2 ?_ (fun w _ => absurd hs (by rw [w]; decide))⟩ ⟨S.1, S.2.1, s3⟩
  rw [x_lng1 hs]
  exact sz
end Arr
