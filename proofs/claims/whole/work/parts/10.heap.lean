def x_tc (ty : FieldType) : Nat := match ty with
  | .int => 0
  | .long => 1
  | .boolean => 3
  | .object _ => 2
  | .array _ => 2
  | _ => 9
/-- entry idx of own's pool is field j of class ci; fin: it is final -/
def x_FK (own : String) (idx ci j : Nat) (fin : Bool) : Prop := ∃ (C : String) (T : u_T) (N : Nat) (ty0 : Nat → FieldType), vwCl[ci]? = some (C, T, N) ∧ j < N ∧ (∀ w ∈ u_ws C T N, w ∈ x_TBL) ∧ (∀ k, k < N → parseFieldDescriptor (T k).2.2.1 = some (ty0 k)) ∧ (∀ a, a < N → ∀ b, b < N → a ≠ b → (T a).2.1 ≠ (T b).2.1) ∧ (T j).1 = C ∧ (T j).2.2.2 = fin ∧ (x_tc (ty0 j) = x_ft ci j ∨ x_tc (ty0 j) = 2 ∧ x_ft ci j = 4) ∧
  (Cond.fieldLink own idx C (T j).2.1 (T j).2.2.1 ∈ x_TBL ∨ ∃ host, own ≠ C ∧ Cond.fieldLinkNest own idx C (T j).2.1 (T j).2.2.1 host ∈ tables_1)
theorem x_ce_obj {cA : Nat → ClassId} {ad : Nat → Nat} {P : xP} {M : xM} {a ci : Nat} (hs : x_sk a = ci + 5) : x_ce cA ad P M a = .inr (ci, (List.range (x_sn a)).map (x_fv ad P M a ci)) := by
  unfold x_ce
  rw [if_neg (by omega), if_neg (by omega), if_neg (by omega), if_neg (by omega), if_neg (by omega), hs]
  rfl
theorem x_cls {ci : Nat} {C : String} {T : u_T} {N a : Nat} (hc : vwCl[ci]? = some (C, T, N)) (hs : x_sk a = ci + 5) : x_sn a = N := by
  obtain ⟨-, -, h3⟩ := x_shape a (by omega)
  rw [hs, Nat.add_sub_cancel, List.getD_eq_getElem?_getD, hc] at h3
  exact h3.symm
theorem x_okI2 {M : xM} (hM : x_okM M) {a ci j : Nat} (hs : x_sk a = ci + 5) (ht : x_ft ci j ≠ 1) : inR (M a j) := by
  have h1 := hM.1 a j
  have h2 : x_lng a j = false := by
    unfold x_lng
    rw [hs, Nat.add_sub_cancel, Int.toNat_natCast]
    have e1 : (ci + 5 == 1) = false := by rw [beq_eq_false_iff_ne]; omega
    have e2 : (x_ft ci j == 1) = false := by rw [beq_eq_false_iff_ne]; exact ht
    rw [e1, e2, Bool.and_false, Bool.or_false]
  rw [h2] at h1
  exact h1
theorem x_okJ2 {M : xM} (hM : x_okM M) {a ci j : Nat} (hs : x_sk a = ci + 5) (ht : x_ft ci j = 1) : inL (M a j) := by
  have h1 := hM.1 a j
  have h2 : x_lng a j = true := by
    unfold x_lng
    rw [hs, Nat.add_sub_cancel, Int.toNat_natCast, ht]
    have e1 : Nat.ble 5 (ci + 5) = true := Nat.ble_eq.mpr (by omega)
    rw [e1]
    simp
  rw [h2] at h1
  exact h1
section Heap
variable {Y : xY} {g : Option Nat} {d mc ms pc : Nat} {L : xL} {st : List xV} {cs : Nat × Nat} {n : Nat} {P : xP} {M : xM} {Q : xH → Option xV → Prop}
theorem x_getW {v : xV} {a idx ci j : Nat} {fin : Bool} (hd : decode Y.2.1 pc = .ok (.getfield idx, 3)) (hF : x_FK Y.1.cls idx ci j fin) (hs : x_sk a = ci + 5) (hn : a < n) (hv : ∀ ad : Nat → Nat, x_fv ad P M a ci j = x_tr ad v) (hok : x_okM M → x_ok v) (k : xW Y g d mc ms (pc + 3) L (v :: st) cs (n, P, M) Q) : xW Y g d mc ms pc L (vR (some a) :: st) cs (n, P, M) Q := by
  intro l G p e s m args below meth c H locs ls C S
  obtain ⟨s1, s2⟩ := List.forall_mem_cons.mp S.2.2
  obtain ⟨CN, T, N, ty0, hc, hj, hin, -, -, hdc, -, -, hl⟩ := hF
  have hP := C.2.2.2.2.2.2.1.2.2
  have hts := C.2.1.2.2.2.2.2.2.2
  have hin' : ∀ w ∈ u_ws CN T N, w ∈ x_ws Y := fun w hw => List.mem_cons_of_mem _ (hin w hw)
  have he := x_cw_get (G := G) (h := (n, P, M)) hn
  rw [x_ce_obj hs] at he
  have hvv : ((List.range (x_sn a)).map (x_fv (x_ad G) P M a ci))[j]? = some (x_tr (x_ad G) v) := by
    rw [List.getElem?_map, List.getElem?_range (by rw [x_cls hc hs]; exact hj), ← hv]
    rfl
  have kk := k l G p e s m args below meth c H locs ls C ⟨S.1, S.2.1, List.forall_mem_cons.mpr ⟨hok C.2.2.2.2.2.2.2, s2⟩⟩
  rcases hl with hl | ⟨host, -, hl⟩
  · exact va_get C.2.1.1 C.2.1.2.1 hts hin' C.2.1.2.2.2.2.2.2.1 C.2.2.1 hP a he hc j hj (hts _ (List.mem_cons_of_mem _ hl)) (by rw [hdc]; exact fun _ q => q) hvv hd kk
  · exact va_getN C.2.1.1 C.2.1.2.1 hts hin' C.2.1.2.2.2.2.2.2.1 C.2.2.1 hP a he hc j hj ((C.2.2.2.1.2.2.2.2 _ hl rfl).use rfl) (by rw [hdc]; exact fun _ q => q) hvv hd kk
theorem xW.getI {a idx ci j : Nat} {fin : Bool} (hd : decode Y.2.1 pc = .ok (.getfield idx, 3)) (hF : x_FK Y.1.cls idx ci j fin) (hs : x_sk a = ci + 5) (hn : a < n) (ht : x_ft ci j = 0 ∨ x_ft ci j = 3) (k : xW Y g d mc ms (pc + 3) L (vI (M a j) :: st) cs (n, P, M) Q) : xW Y g d mc ms pc L (vR (some a) :: st) cs (n, P, M) Q :=
  x_getW (v := vI (M a j)) hd hF hs hn (fun ad => by unfold x_fv; rw [if_neg (by omega), if_neg (by omega), if_neg (by omega)]; rfl) (fun hM => x_okI2 hM hs (by omega)) k
theorem xW.getJ {a idx ci j : Nat} {fin : Bool} (hd : decode Y.2.1 pc = .ok (.getfield idx, 3)) (hF : x_FK Y.1.cls idx ci j fin) (hs : x_sk a = ci + 5) (hn : a < n) (ht : x_ft ci j = 1) (k : xW Y g d mc ms (pc + 3) L (vJ (M a j) :: st) cs (n, P, M) Q) : xW Y g d mc ms pc L (vR (some a) :: st) cs (n, P, M) Q :=
  x_getW (v := vJ (M a j)) hd hF hs hn (fun ad => by unfold x_fv; rw [if_neg (by omega), if_neg (by omega), if_pos ht]; rfl) (fun hM => x_okJ2 hM hs ht) k
theorem xW.getR {a idx ci j : Nat} {fin : Bool} {o : Option Nat} (hd : decode Y.2.1 pc = .ok (.getfield idx, 3)) (hF : x_FK Y.1.cls idx ci j fin) (hs : x_sk a = ci + 5) (hn : a < n) (ht : x_ft ci j = 2) (ho : P a j = o) (k : xW Y g d mc ms (pc + 3) L (vR o :: st) cs (n, P, M) Q) : xW Y g d mc ms pc L (vR (some a) :: st) cs (n, P, M) Q :=
  x_getW (v := vR o) hd hF hs hn (fun ad => by unfold x_fv; rw [if_pos ht, ho]; rfl) (fun _ => trivial) k
theorem xW.getT {a idx ci j : Nat} {fin : Bool} (hd : decode Y.2.1 pc = .ok (.getfield idx, 3)) (hF : x_FK Y.1.cls idx ci j fin) (hs : x_sk a = ci + 5) (hn : a < n) (ht : x_ft ci j = 4) (k : xW Y g d mc ms (pc + 3) L (vR (x_dec (M a j)) :: st) cs (n, P, M) Q) : xW Y g d mc ms pc L (vR (some a) :: st) cs (n, P, M) Q :=
  x_getW (v := vR (x_dec (M a j))) hd hF hs hn (fun ad => by unfold x_fv; rw [if_neg (by omega), if_pos ht]; rfl) (fun _ => trivial) k
theorem x_setmap {α : Type} (N j : Nat) (f : Nat → α) (v : α) : ((List.range N).map f).set j v = (List.range N).map (fun i => if i = j then v else f i) := by
  apply List.ext_getElem?
  intro k
  by_cases hk : k < N
  · by_cases hkj : k = j
    · subst hkj
      rw [List.getElem?_set_self (by simp; exact hk), List.getElem?_map, List.getElem?_range hk]
      simp
    · rw [List.getElem?_set_ne (fun z => hkj z.symm), List.getElem?_map, List.getElem?_map, List.getElem?_range hk]
      simp [hkj]
  · rw [List.getElem?_eq_none (by simp; omega), List.getElem?_eq_none (by simp; omega)]
theorem x_no15 {a ci j : Nat} {v : Int} (hs : x_sk a = ci + 5) (ht : x_ft ci j ≠ 4) : a = 15 → (j : Int) = 2 → v < 82 := fun w1 w2 => by
  rw [w1] at hs
  have e : x_sk 15 = 6 := rfl
  have e1 : ci = 1 := by omega
  have e2 : j = 2 := by omega
  rw [e1, e2] at ht
  exact absurd rfl ht
theorem x_okM_upd {a : Nat} {i v : Int} (hM : x_okM M) (hv : if x_lng a i = true then inL v else inR v) (h15 : a = 15 → i = 2 → v < 82) : x_okM (x_upd M a i v) := by
  refine ⟨fun b j => ?_, ?_⟩
  rotate_left
  · unfold x_upd
    by_cases hb : (15 : Nat) = a ∧ (2 : Int) = i
    · rw [if_pos hb]; exact h15 hb.1.symm hb.2.symm
    · rw [if_neg hb]; exact hM.2
  unfold x_upd
  by_cases hb : b = a ∧ j = i
  · rw [if_pos hb, hb.1, hb.2]
    exact hv
  · rw [if_neg hb]
    exact hM.1 b j
theorem x_putW {v : xV} {a idx ci j : Nat} {P' : xP} {M' : xM} (fin : Bool) (hd : decode Y.2.1 pc = .ok (.putfield idx, 3)) (hF : x_FK Y.1.cls idx ci j fin) (hfin : fin = true → Y.1.name = "<init>" ∧ ∀ C T N, vwCl[ci]? = some (C, T, N) → C = Y.1.cls) (hs : x_sk a = ci + 5) (hn : a < n)
    (hty : ∀ (ad : Nat → Nat) (ty : FieldType), (x_tc ty = x_ft ci j ∨ x_tc ty = 2 ∧ x_ft ci j = 4) → narrow ty (x_tr ad v) = x_tr ad v ∧ fits ty (x_tr ad v) = true) (hce : ∀ ad : Nat → Nat, (fun i => if i = j then x_tr ad v else x_fv ad P M a ci i) = x_fv ad P' M' a ci)
    (hne : ∀ b, b ≠ a → (∀ i, P' b i = P b i) ∧ ∀ i, M' b i = M b i) (hok : x_okM M → x_ok v → x_okM M') (k : xW Y g d mc ms (pc + 3) L st cs (n, P', M') Q) : xW Y g d mc ms pc L (v :: vR (some a) :: st) cs (n, P, M) Q := by
  intro l G p e s m args below meth c H locs ls C S
  obtain ⟨s1, s2⟩ := List.forall_mem_cons.mp S.2.2
  obtain ⟨-, s3⟩ := List.forall_mem_cons.mp s2
  obtain ⟨CN, T, N, ty0, hc, hj, hin, hpt, hnm, hdc, hfn, htc, hl⟩ := hF
  obtain ⟨hsz, h1000, hP⟩ := C.2.2.2.2.2.2.1
  have hts := C.2.1.2.2.2.2.2.2.2
  have hS := C.2.2.2.2.2.1
  have hK := C.2.2.1
  have hown := C.2.1.2.2.2.2.2.2.1
  have hin' : ∀ w ∈ u_ws CN T N, w ∈ x_ws Y := fun w hw => List.mem_cons_of_mem _ (hin w hw)
  have hD : va_D (x_A G) (x_cw G (n, P, M)) := x_D h1000
  have he := x_cw_get (G := G) (h := (n, P, M)) hn
  rw [x_ce_obj hs] at he
  obtain ⟨hn1, hft⟩ := hty (x_ad G) (ty0 j) htc
  have hset : (x_cw G (n, P, M)).set a (x_ad G a, .inr (ci, ((List.range (x_sn a)).map (x_fv (x_ad G) P M a ci)).set j (x_tr (x_ad G) v))) = x_cw G (n, P', M') := by
    apply x_cw_set
    · rw [x_ce_obj hs, x_setmap, hce]
    · intro b hb
      exact x_ce_ne (hne b hb).1 (hne b hb).2
  have fin2 : ∀ (H1 : Heap) (locs1 : List Loc), va_P G.1 vwCl (x_cw G (n, P', M')) H1 → va_S (x_A G) s.heap H1 locs1 → H1.size = H.size → W p l e (x_rm d mc ms) s m args below meth c H1 locs1 cs.1 cs.2 (MQ below (x_Qc G g Q) args s mc ms (x_A G)) (F0 m (pc + 3) ls (st.map (x_tr (x_ad G)))) := by
    intro H1 locs1 hP1 hS1 hz
    exact k l G p e s m args below meth c H1 locs1 ls ⟨trivial, C.2.1, C.2.2.1, C.2.2.2.1, C.2.2.2.2.1, hS1, ⟨fun g0 hg => ⟨(hsz g0 hg).1, hz.trans (hsz g0 hg).2⟩, h1000, hP1⟩, hok C.2.2.2.2.2.2.2 s1⟩ ⟨S.1, S.2.1, s3⟩
  have hap := va_apart (own := Y.1.cls) hts hin' ty0 hpt hnm hK hc
  obtain ⟨r, h1, cell, q1, q2, q3, q4⟩ := hP a _ he
  have hr : r = (CN, T, N) := Option.some.inj (h1.symm.trans hc)
  subst hr
  obtain ⟨hSl, hfc, kC, hkC, hkind⟩ := hK.1 ci _ hc
  obtain ⟨cf, kf, fi, f, hi, hsl⟩ := hSl j hj
  have hst := (u_facts hfc hkC (u_lays hts hin' hj) hi).1
  have hlt : j < ((List.range (x_sn a)).map (x_fv (x_ad G) P M a ci)).length := by simp; rw [x_cls hc hs]; exact hj
  have hlay := hts _ (hin' _ (u_in_lay hj))
  unfold u_lay at hlay
  cases fin with
  | false =>
    rw [if_neg (by rw [hfn]; decide)] at hlay
    have h6 := u_store hfc hkC hkind hlay hi (hpt j hj) hn1 hft
    rcases hl with hl | ⟨host, -, hl⟩
    · refine W.putK C.2.1.1 C.2.1.2.1 (f := f) ⟨hown, hts _ (List.mem_cons_of_mem _ hl), ⟨_, _, _, by rw [← hdc]; exact hi⟩, hst⟩ (by rw [q2]; exact h6) q1 q3 (by rw [hsl]; exact k2_hasslot (q4 j hj)) rfl rfl hd fun H' e1 e2 e3 => ?_
      rw [hsl] at e1 ⊢
      refine fin2 H' _ ?_ (hS.put e2 e3 (hD.2 a _ he)) e2
      rw [← hset]
      exact hP.set hD he ⟨_, hc, t_OB.to (V := updV (vp_V _) j (x_tr (x_ad G) v)) ⟨_, e1, q2, q3, t_set q4 hap hj _⟩ (fun i _ => vp_updV_set hlt _ i)⟩ e3
    · refine va_WputK C.2.1.1 C.2.1.2.1 (f := f) hown ((C.2.2.2.1.2.2.2.2 _ hl rfl).use rfl) (by rw [← hdc]; exact hi) hst (by rw [q2]; exact h6) q1 q3 (by rw [hsl]; exact k2_hasslot (q4 j hj)) rfl rfl hd fun H' e1 e2 e3 => ?_
      rw [hsl] at e1 ⊢
      refine fin2 H' _ ?_ (hS.put e2 e3 (hD.2 a _ he)) e2
      rw [← hset]
      exact hP.set hD he ⟨_, hc, t_OB.to (V := updV (vp_V _) j (x_tr (x_ad G) v)) ⟨_, e1, q2, q3, t_set q4 hap hj _⟩ (fun i _ => vp_updV_set hlt _ i)⟩ e3
  | true =>
    obtain ⟨hin1, hcc⟩ := hfin rfl
    have hCN : CN = Y.1.cls := hcc CN T N hc
    rw [if_pos hfn] at hlay
    have hcf : m.cls = cf := by
      obtain ⟨_, _, c', _, _, _, -, -, hf', -, -, -, hown2, -⟩ := Cond.laysFinal_spec hlay
      have e1 : c' = cf := by have := hi.symm.trans hf'; simp at this; exact this.1.symm
      rw [hdc, hCN] at hown2
      rw [← e1]; exact Option.some.inj (hown.symm.trans hown2)
    have h6 := u_fits hfc hkC hkind (Or.inr hlay) hi (hpt j hj) hn1 hft
    rcases hl with hl | ⟨host, hno, hl⟩
    · refine W.putFinK C.2.1.1 C.2.1.2.1 hown (hts _ (List.mem_cons_of_mem _ hl)) (by rw [← hdc]; exact hi) hst hcf (by rw [C.2.1.2.2.2.2.2.1]; exact hin1) (by rw [q2]; exact h6) q1 q3 (by rw [hsl]; exact k2_hasslot (q4 j hj)) rfl rfl hd fun H' e1 e2 e3 => ?_
      rw [hsl] at e1 ⊢
      refine fin2 H' _ ?_ (hS.put e2 e3 (hD.2 a _ he)) e2
      rw [← hset]
      exact hP.set hD he ⟨_, hc, t_OB.to (V := updV (vp_V _) j (x_tr (x_ad G) v)) ⟨_, e1, q2, q3, t_set q4 hap hj _⟩ (fun i _ => vp_updV_set hlt _ i)⟩ e3
    · exact absurd hCN.symm hno
theorem x_updI {ci j a : Nat} {z : Int} (ht : x_ft ci j = 0 ∨ x_ft ci j = 3) (ad : Nat → Nat) : (fun i => if i = j then x_tr ad (vI z) else x_fv ad P M a ci i) = x_fv ad P (x_upd M a j z) a ci := by
  funext i
  by_cases hi : i = j
  · subst hi
    rw [if_pos rfl]
    unfold x_fv x_upd
    rw [if_neg (by omega), if_neg (by omega), if_neg (by omega), if_pos ⟨rfl, rfl⟩]
    rfl
  · rw [if_neg hi]
    unfold x_fv x_upd
    rw [if_neg (show ¬ (a = a ∧ (i : Int) = (j : Int)) from fun z => hi (Int.ofNat.inj z.2))]
theorem x_updJ {ci j a : Nat} {z : Int} (ht : x_ft ci j = 1) (ad : Nat → Nat) : (fun i => if i = j then x_tr ad (vJ z) else x_fv ad P M a ci i) = x_fv ad P (x_upd M a j z) a ci := by
  funext i
  by_cases hi : i = j
  · subst hi
    rw [if_pos rfl]
    unfold x_fv x_upd
    rw [if_neg (by omega), if_neg (by omega), if_pos ht, if_pos ⟨rfl, rfl⟩]
    rfl
  · rw [if_neg hi]
    unfold x_fv x_upd
    rw [if_neg (show ¬ (a = a ∧ (i : Int) = (j : Int)) from fun z => hi (Int.ofNat.inj z.2))]
theorem x_updR {ci j a : Nat} {o : Option Nat} (ht : x_ft ci j = 2) (ad : Nat → Nat) : (fun i => if i = j then x_tr ad (vR o) else x_fv ad P M a ci i) = x_fv ad (x_updP P a j o) M a ci := by
  funext i
  by_cases hi : i = j
  · subst hi
    rw [if_pos rfl]
    unfold x_fv x_updP
    rw [if_pos ht, if_pos ⟨rfl, rfl⟩]
    rfl
  · rw [if_neg hi]
    unfold x_fv x_updP
    rw [if_neg (show ¬ (a = a ∧ (i : Int) = (j : Int)) from fun z => hi (Int.ofNat.inj z.2))]
theorem x_lngI {a ci j : Nat} (hs : x_sk a = ci + 5) (ht : x_ft ci j ≠ 1) : x_lng a j = false := by
  unfold x_lng
  rw [hs, Nat.add_sub_cancel, Int.toNat_natCast]
  have e1 : (ci + 5 == 1) = false := by rw [beq_eq_false_iff_ne]; omega
  have e2 : (x_ft ci j == 1) = false := by rw [beq_eq_false_iff_ne]; exact ht
  rw [e1, e2, Bool.and_false, Bool.or_false]
theorem x_lngJ {a ci j : Nat} (hs : x_sk a = ci + 5) (ht : x_ft ci j = 1) : x_lng a j = true := by
  unfold x_lng
  rw [hs, Nat.add_sub_cancel, Int.toNat_natCast, ht]
  have e1 : Nat.ble 5 (ci + 5) = true := Nat.ble_eq.mpr (by omega)
  rw [e1]
  simp
theorem xW.putI {a idx ci j : Nat} {z : Int} (hd : decode Y.2.1 pc = .ok (.putfield idx, 3)) (hF : x_FK Y.1.cls idx ci j false) (hs : x_sk a = ci + 5) (hn : a < n) (ht : x_ft ci j = 0) (k : xW Y g d mc ms (pc + 3) L st cs (n, P, x_upd M a j z) Q) : xW Y g d mc ms pc L (vI z :: vR (some a) :: st) cs (n, P, M) Q := by
  refine x_putW (v := vI z) false hd hF (fun z => by cases z) hs hn (fun ad ty h => ?_) (x_updI (by omega)) (fun b hb => ⟨fun _ => rfl, x_upd_ne hb⟩) (fun hM hv => x_okM_upd hM ?_ (x_no15 hs (by omega))) k
  · rw [ht] at h
    rcases h with h | ⟨-, h⟩
    · cases ty <;> first | exact ⟨rfl, rfl⟩ | cases h
    · cases h
  · rw [x_lngI hs (by rw [ht]; decide)]
    exact hv
theorem xW.putZ {a idx ci j : Nat} {z : Int} (hd : decode Y.2.1 pc = .ok (.putfield idx, 3)) (hF : x_FK Y.1.cls idx ci j false) (hs : x_sk a = ci + 5) (hn : a < n) (ht : x_ft ci j = 3) (hz : z = 0 ∨ z = 1) (k : xW Y g d mc ms (pc + 3) L st cs (n, P, x_upd M a j z) Q) : xW Y g d mc ms pc L (vI z :: vR (some a) :: st) cs (n, P, M) Q := by
  refine x_putW (v := vI z) false hd hF (fun z => by cases z) hs hn (fun ad ty h => ?_) (x_updI (by omega)) (fun b hb => ⟨fun _ => rfl, x_upd_ne hb⟩) (fun hM hv => x_okM_upd hM ?_ (x_no15 hs (by omega))) k
  · rw [ht] at h
    rcases h with h | ⟨-, h⟩
    · cases ty <;> first | (rcases hz with rfl | rfl <;> exact ⟨rfl, rfl⟩) | cases h
    · cases h
  · rw [x_lngI hs (by rw [ht]; decide)]
    exact hv
theorem xW.putJ {a idx ci j : Nat} {z : Int} (hd : decode Y.2.1 pc = .ok (.putfield idx, 3)) (hF : x_FK Y.1.cls idx ci j false) (hs : x_sk a = ci + 5) (hn : a < n) (ht : x_ft ci j = 1) (k : xW Y g d mc ms (pc + 3) L st cs (n, P, x_upd M a j z) Q) : xW Y g d mc ms pc L (vJ z :: vR (some a) :: st) cs (n, P, M) Q := by
  refine x_putW (v := vJ z) false hd hF (fun z => by cases z) hs hn (fun ad ty h => ?_) (x_updJ ht) (fun b hb => ⟨fun _ => rfl, x_upd_ne hb⟩) (fun hM hv => x_okM_upd hM ?_ (x_no15 hs (by omega))) k
  · rw [ht] at h
    rcases h with h | ⟨-, h⟩
    · cases ty <;> first | exact ⟨rfl, rfl⟩ | cases h
    · cases h
  · rw [x_lngJ hs ht]
    exact hv
theorem xW.putR {a idx ci j : Nat} {o : Option Nat} (fin : Bool) (hd : decode Y.2.1 pc = .ok (.putfield idx, 3)) (hF : x_FK Y.1.cls idx ci j fin) (hfin : fin = true → Y.1.name = "<init>" ∧ ∀ C T N, vwCl[ci]? = some (C, T, N) → C = Y.1.cls) (hs : x_sk a = ci + 5) (hn : a < n) (ht : x_ft ci j = 2) (k : xW Y g d mc ms (pc + 3) L st cs (n, x_updP P a j o, M) Q) : xW Y g d mc ms pc L (vR o :: vR (some a) :: st) cs (n, P, M) Q := by
  refine x_putW (v := vR o) fin hd hF hfin hs hn (fun ad ty h => ?_) (x_updR ht) (fun b hb => ⟨x_updP_ne hb, fun _ => rfl⟩) (fun hM hv => hM) k
  rw [ht] at h
  rcases h with h | ⟨-, h⟩
  · cases ty <;> first | (cases o <;> exact ⟨rfl, rfl⟩) | cases h
  · cases h
theorem x_updT {ci j a : Nat} {o : Option Nat} (ht : x_ft ci j = 4) (ad : Nat → Nat) : (fun i => if i = j then x_tr ad (vR o) else x_fv ad P M a ci i) = x_fv ad P (x_upd M a j (x_enc o)) a ci := by
  funext i
  by_cases hi : i = j
  · subst hi
    rw [if_pos rfl]
    unfold x_fv x_upd
    rw [if_neg (by omega), if_pos ht, if_pos ⟨rfl, rfl⟩, x_dec_enc]
    rfl
  · rw [if_neg hi]
    unfold x_fv x_upd
    rw [if_neg (show ¬ (a = a ∧ (i : Int) = (j : Int)) from fun z => hi (Int.ofNat.inj z.2))]
theorem xW.putT {a idx ci j : Nat} {o : Option Nat} (hd : decode Y.2.1 pc = .ok (.putfield idx, 3)) (hF : x_FK Y.1.cls idx ci j false) (hs : x_sk a = ci + 5) (hn : a < n) (ht : x_ft ci j = 4) (ho : inT (x_enc o)) (k : xW Y g d mc ms (pc + 3) L st cs (n, P, x_upd M a j (x_enc o)) Q) : xW Y g d mc ms pc L (vR o :: vR (some a) :: st) cs (n, P, M) Q := by
  refine x_putW (v := vR o) false hd hF (fun z => by cases z) hs hn (fun ad ty h => ?_) (x_updT ht) (fun b hb => ⟨fun _ => rfl, x_upd_ne hb⟩) (fun hM hv => x_okM_upd hM ?_ (fun _ _ => ho.2)) k
  · rw [ht] at h
    rcases h with h | ⟨h, -⟩
    · cases ty <;> cases h
    · cases ty <;> first | (cases o <;> exact ⟨rfl, rfl⟩) | cases h
  · rw [x_lngI hs (by omega)]
    exact ho.1
end Heap
