/-- the cell a: its kind, its length; it is made -/
def x_cell (n a kd : Nat) (N : Int) : Prop := x_sk a = kd ∧ ((x_sn a : Nat) : Int) = N ∧ a < n
def kI (n : Nat) (P : xP) (F : xM → Int → Prop) : xH → Option xV → Prop := fun h r => ∃ (M : xM) (z : Int), h = (n, P, M) ∧ r = some (vI z) ∧ F M z
def kJ (n : Nat) (P : xP) (F : xM → Int → Prop) : xH → Option xV → Prop := fun h r => ∃ (M : xM) (z : Int), h = (n, P, M) ∧ r = some (vJ z) ∧ F M z
def kV (n : Nat) (P : xP) (F : xM → Prop) : xH → Option xV → Prop := fun h r => ∃ M : xM, h = (n, P, M) ∧ r = none ∧ F M
def kR (n : Nat) (P : xP) (F : xM → Option Nat → Prop) : xH → Option xV → Prop := fun h r => ∃ (M : xM) (o : Option Nat), h = (n, P, M) ∧ r = some (vR o) ∧ F M o
/-- contracts of methods that make nothing: an int (boolean), a long, nothing, a reference comes back; what changes are numbers -/
def xCI (Y : xY) (g : Option Nat) (d : Nat) (av : List xV) (n : Nat) (P : xP) (M : xM) (F : xM → Int → Prop) : Prop := xC Y g d 0 0 av (n, P, M) (kI n P F)
def xCJ (Y : xY) (g : Option Nat) (d : Nat) (av : List xV) (n : Nat) (P : xP) (M : xM) (F : xM → Int → Prop) : Prop := xC Y g d 0 0 av (n, P, M) (kJ n P F)
def xCV (Y : xY) (g : Option Nat) (d : Nat) (av : List xV) (n : Nat) (P : xP) (M : xM) (F : xM → Prop) : Prop := xC Y g d 0 0 av (n, P, M) (kV n P F)
def xCR (Y : xY) (g : Option Nat) (d : Nat) (av : List xV) (n : Nat) (P : xP) (M : xM) (F : xM → Option Nat → Prop) : Prop := xC Y g d 0 0 av (n, P, M) (kR n P F)
theorem xCI.mono {Y : xY} {g : Option Nat} {d : Nat} {av : List xV} {n : Nat} {P : xP} {M : xM} {F F' : xM → Int → Prop} (k : xCI Y g d av n P M F) (h : ∀ M z, F M z → F' M z) : xCI Y g d av n P M F' :=
  xC.mono (fun h' r q => by obtain ⟨M', z, e1, e2, q⟩ := q; exact ⟨M', z, e1, e2, h M' z q⟩) k
theorem xCJ.mono {Y : xY} {g : Option Nat} {d : Nat} {av : List xV} {n : Nat} {P : xP} {M : xM} {F F' : xM → Int → Prop} (k : xCJ Y g d av n P M F) (h : ∀ M z, F M z → F' M z) : xCJ Y g d av n P M F' :=
  xC.mono (fun h' r q => by obtain ⟨M', z, e1, e2, q⟩ := q; exact ⟨M', z, e1, e2, h M' z q⟩) k
theorem xCV.mono {Y : xY} {g : Option Nat} {d : Nat} {av : List xV} {n : Nat} {P : xP} {M : xM} {F F' : xM → Prop} (k : xCV Y g d av n P M F) (h : ∀ M, F M → F' M) : xCV Y g d av n P M F' :=
  xC.mono (fun h' r q => by obtain ⟨M', e1, e2, q⟩ := q; exact ⟨M', e1, e2, h M' q⟩) k
theorem xCR.mono {Y : xY} {g : Option Nat} {d : Nat} {av : List xV} {n : Nat} {P : xP} {M : xM} {F F' : xM → Option Nat → Prop} (k : xCR Y g d av n P M F) (h : ∀ M o, F M o → F' M o) : xCR Y g d av n P M F' :=
  xC.mono (fun h' r q => by obtain ⟨M', o, e1, e2, q⟩ := q; exact ⟨M', o, e1, e2, h M' o q⟩) k
def x_MV (own : String) (idx : Nat) (Y' : xY) (np ci : Nat) : Prop := x_MK own idx Y' np ∧ Cond.instanceMethod Y'.1 ∈ x_TBL ∧ Cond.selects Y'.1.cls Y'.1 Y'.1 ∈ x_TBL ∧ ∃ r, vwCl[ci]? = some r ∧ r.1 = Y'.1.cls
def x_MS (own : String) (idx : Nat) (Y' : xY) (np : Nat) : Prop := x_MK own idx Y' np ∧ Cond.static Y'.1 ∈ x_TBL
section Forms
variable {Y Y' : xY} {g : Option Nat} {d mc ms pc : Nat} {L : xL} {st : List xV} {cs : Nat × Nat} {n : Nat} {P : xP} {M : xM} {Q : xH → Option xV → Prop}
theorem xW.callVI {F : xM → Int → Prop} {a idx ci np : Nat} {N : Int} (As rest : List xV) (hd : decode Y.2.1 pc = .ok (.invokevirtual idx, 3)) (hM : x_MV Y.1.cls idx Y' np ci) (hc : x_cell n a (ci + 5) N) (hst : st = As.reverse ++ vR (some a) :: rest) (hnp : As.length = np) (hW : (rest.map x_cat).sum ≤ 8) (hr : cs.1 ≤ mc ∧ cs.2 ≤ ms)
    (H : xCI Y' g d (vR (some a) :: As) n P M F) (k : ∀ M' z, F M' z → xW Y g (d + 1) mc ms (pc + 3) L (vI z :: rest) cs (n, P, M') Q) : xW Y g (d + 1) mc ms pc L st cs (n, P, M) Q := by
  obtain ⟨h1, h2, h3, r, h4, h5⟩ := hM
  exact xW.callV (As := As) (rest := rest) hd h1 h2 h3 h4 h5 hc.1 hc.2.2 hst hnp hW hr (xC.mono (fun h' r q => by obtain ⟨M', z, rfl, rfl, q⟩ := q; exact k M' z q) H)
theorem xW.callVJ {F : xM → Int → Prop} {a idx ci np : Nat} {N : Int} (As rest : List xV) (hd : decode Y.2.1 pc = .ok (.invokevirtual idx, 3)) (hM : x_MV Y.1.cls idx Y' np ci) (hc : x_cell n a (ci + 5) N) (hst : st = As.reverse ++ vR (some a) :: rest) (hnp : As.length = np) (hW : (rest.map x_cat).sum ≤ 8) (hr : cs.1 ≤ mc ∧ cs.2 ≤ ms)
    (H : xCJ Y' g d (vR (some a) :: As) n P M F) (k : ∀ M' z, F M' z → xW Y g (d + 1) mc ms (pc + 3) L (vJ z :: rest) cs (n, P, M') Q) : xW Y g (d + 1) mc ms pc L st cs (n, P, M) Q := by
  obtain ⟨h1, h2, h3, r, h4, h5⟩ := hM
  exact xW.callV (As := As) (rest := rest) hd h1 h2 h3 h4 h5 hc.1 hc.2.2 hst hnp hW hr (xC.mono (fun h' r q => by obtain ⟨M', z, rfl, rfl, q⟩ := q; exact k M' z q) H)
theorem xW.callVV {F : xM → Prop} {a idx ci np : Nat} {N : Int} (As rest : List xV) (hd : decode Y.2.1 pc = .ok (.invokevirtual idx, 3)) (hM : x_MV Y.1.cls idx Y' np ci) (hc : x_cell n a (ci + 5) N) (hst : st = As.reverse ++ vR (some a) :: rest) (hnp : As.length = np) (hW : (rest.map x_cat).sum ≤ 8) (hr : cs.1 ≤ mc ∧ cs.2 ≤ ms)
    (H : xCV Y' g d (vR (some a) :: As) n P M F) (k : ∀ M', F M' → xW Y g (d + 1) mc ms (pc + 3) L rest cs (n, P, M') Q) : xW Y g (d + 1) mc ms pc L st cs (n, P, M) Q := by
  obtain ⟨h1, h2, h3, r, h4, h5⟩ := hM
  exact xW.callV (As := As) (rest := rest) hd h1 h2 h3 h4 h5 hc.1 hc.2.2 hst hnp hW hr (xC.mono (fun h' r q => by obtain ⟨M', rfl, rfl, q⟩ := q; exact k M' q) H)
theorem xW.callVR {F : xM → Option Nat → Prop} {a idx ci np : Nat} {N : Int} (As rest : List xV) (hd : decode Y.2.1 pc = .ok (.invokevirtual idx, 3)) (hM : x_MV Y.1.cls idx Y' np ci) (hc : x_cell n a (ci + 5) N) (hst : st = As.reverse ++ vR (some a) :: rest) (hnp : As.length = np) (hW : (rest.map x_cat).sum ≤ 8) (hr : cs.1 ≤ mc ∧ cs.2 ≤ ms)
    (H : xCR Y' g d (vR (some a) :: As) n P M F) (k : ∀ M' o, F M' o → xW Y g (d + 1) mc ms (pc + 3) L (vR o :: rest) cs (n, P, M') Q) : xW Y g (d + 1) mc ms pc L st cs (n, P, M) Q := by
  obtain ⟨h1, h2, h3, r, h4, h5⟩ := hM
  exact xW.callV (As := As) (rest := rest) hd h1 h2 h3 h4 h5 hc.1 hc.2.2 hst hnp hW hr (xC.mono (fun h' r q => by obtain ⟨M', z, rfl, rfl, q⟩ := q; exact k M' z q) H)
theorem xW.callSI {F : xM → Int → Prop} {idx np : Nat} (As rest : List xV) (hd : decode Y.2.1 pc = .ok (.invokestatic idx, 3)) (hM : x_MS Y.1.cls idx Y' np) (hst : st = As.reverse ++ rest) (hnp : As.length = np) (hW : (rest.map x_cat).sum ≤ 8) (hr : cs.1 ≤ mc ∧ cs.2 ≤ ms)
    (H : xCI Y' g d As n P M F) (k : ∀ M' z, F M' z → xW Y g (d + 1) mc ms (pc + 3) L (vI z :: rest) cs (n, P, M') Q) : xW Y g (d + 1) mc ms pc L st cs (n, P, M) Q :=
  xW.callS (As := As) (rest := rest) hd hM.1 hM.2 hst hnp hW hr (xC.mono (fun h' r q => by obtain ⟨M', z, rfl, rfl, q⟩ := q; exact k M' z q) H)
theorem xW.callSJ {F : xM → Int → Prop} {idx np : Nat} (As rest : List xV) (hd : decode Y.2.1 pc = .ok (.invokestatic idx, 3)) (hM : x_MS Y.1.cls idx Y' np) (hst : st = As.reverse ++ rest) (hnp : As.length = np) (hW : (rest.map x_cat).sum ≤ 8) (hr : cs.1 ≤ mc ∧ cs.2 ≤ ms)
    (H : xCJ Y' g d As n P M F) (k : ∀ M' z, F M' z → xW Y g (d + 1) mc ms (pc + 3) L (vJ z :: rest) cs (n, P, M') Q) : xW Y g (d + 1) mc ms pc L st cs (n, P, M) Q :=
  xW.callS (As := As) (rest := rest) hd hM.1 hM.2 hst hnp hW hr (xC.mono (fun h' r q => by obtain ⟨M', z, rfl, rfl, q⟩ := q; exact k M' z q) H)
theorem xW.callSV {F : xM → Prop} {idx np : Nat} (As rest : List xV) (hd : decode Y.2.1 pc = .ok (.invokestatic idx, 3)) (hM : x_MS Y.1.cls idx Y' np) (hst : st = As.reverse ++ rest) (hnp : As.length = np) (hW : (rest.map x_cat).sum ≤ 8) (hr : cs.1 ≤ mc ∧ cs.2 ≤ ms)
    (H : xCV Y' g d As n P M F) (k : ∀ M', F M' → xW Y g (d + 1) mc ms (pc + 3) L rest cs (n, P, M') Q) : xW Y g (d + 1) mc ms pc L st cs (n, P, M) Q :=
  xW.callS (As := As) (rest := rest) hd hM.1 hM.2 hst hnp hW hr (xC.mono (fun h' r q => by obtain ⟨M', rfl, rfl, q⟩ := q; exact k M' q) H)
theorem xW.gI {a idx ci j : Nat} {fin : Bool} {N : Int} (hd : decode Y.2.1 pc = .ok (.getfield idx, 3)) (hF : x_FK Y.1.cls idx ci j fin) (hc : x_cell n a (ci + 5) N) (ht : x_ft ci j = 0 ∨ x_ft ci j = 3) (k : xW Y g d mc ms (pc + 3) L (vI (M a j) :: st) cs (n, P, M) Q) : xW Y g d mc ms pc L (vR (some a) :: st) cs (n, P, M) Q := xW.getI hd hF hc.1 hc.2.2 ht k
theorem xW.gJ {a idx ci j : Nat} {fin : Bool} {N : Int} (hd : decode Y.2.1 pc = .ok (.getfield idx, 3)) (hF : x_FK Y.1.cls idx ci j fin) (hc : x_cell n a (ci + 5) N) (ht : x_ft ci j = 1) (k : xW Y g d mc ms (pc + 3) L (vJ (M a j) :: st) cs (n, P, M) Q) : xW Y g d mc ms pc L (vR (some a) :: st) cs (n, P, M) Q := xW.getJ hd hF hc.1 hc.2.2 ht k
theorem xW.gR {a idx ci j : Nat} {fin : Bool} {N : Int} {o : Option Nat} (hd : decode Y.2.1 pc = .ok (.getfield idx, 3)) (hF : x_FK Y.1.cls idx ci j fin) (hc : x_cell n a (ci + 5) N) (ht : x_ft ci j = 2) (ho : P a j = o) (k : xW Y g d mc ms (pc + 3) L (vR o :: st) cs (n, P, M) Q) : xW Y g d mc ms pc L (vR (some a) :: st) cs (n, P, M) Q := xW.getR hd hF hc.1 hc.2.2 ht ho k
theorem xW.gT {a idx ci j : Nat} {fin : Bool} {N : Int} (hd : decode Y.2.1 pc = .ok (.getfield idx, 3)) (hF : x_FK Y.1.cls idx ci j fin) (hc : x_cell n a (ci + 5) N) (ht : x_ft ci j = 4) (k : xW Y g d mc ms (pc + 3) L (vR (x_dec (M a j)) :: st) cs (n, P, M) Q) : xW Y g d mc ms pc L (vR (some a) :: st) cs (n, P, M) Q := xW.getT hd hF hc.1 hc.2.2 ht k
theorem xW.sI {a idx ci j : Nat} {z N : Int} (hd : decode Y.2.1 pc = .ok (.putfield idx, 3)) (hF : x_FK Y.1.cls idx ci j false) (hc : x_cell n a (ci + 5) N) (ht : x_ft ci j = 0) (k : xW Y g d mc ms (pc + 3) L st cs (n, P, x_upd M a j z) Q) : xW Y g d mc ms pc L (vI z :: vR (some a) :: st) cs (n, P, M) Q := xW.putI hd hF hc.1 hc.2.2 ht k
theorem xW.sZ {a idx ci j : Nat} {z N : Int} (hd : decode Y.2.1 pc = .ok (.putfield idx, 3)) (hF : x_FK Y.1.cls idx ci j false) (hc : x_cell n a (ci + 5) N) (ht : x_ft ci j = 3) (hz : z = 0 ∨ z = 1) (k : xW Y g d mc ms (pc + 3) L st cs (n, P, x_upd M a j z) Q) : xW Y g d mc ms pc L (vI z :: vR (some a) :: st) cs (n, P, M) Q := xW.putZ hd hF hc.1 hc.2.2 ht hz k
theorem xW.sJ {a idx ci j : Nat} {z N : Int} (hd : decode Y.2.1 pc = .ok (.putfield idx, 3)) (hF : x_FK Y.1.cls idx ci j false) (hc : x_cell n a (ci + 5) N) (ht : x_ft ci j = 1) (k : xW Y g d mc ms (pc + 3) L st cs (n, P, x_upd M a j z) Q) : xW Y g d mc ms pc L (vJ z :: vR (some a) :: st) cs (n, P, M) Q := xW.putJ hd hF hc.1 hc.2.2 ht k
theorem xW.sT {a idx ci j : Nat} {o : Option Nat} {N : Int} (hd : decode Y.2.1 pc = .ok (.putfield idx, 3)) (hF : x_FK Y.1.cls idx ci j false) (hc : x_cell n a (ci + 5) N) (ht : x_ft ci j = 4) (ho : inT (x_enc o)) (k : xW Y g d mc ms (pc + 3) L st cs (n, P, x_upd M a j (x_enc o)) Q) : xW Y g d mc ms pc L (vR o :: vR (some a) :: st) cs (n, P, M) Q := xW.putT hd hF hc.1 hc.2.2 ht ho k
theorem xW.ald {a : Nat} {i N : Int} (hd : decode Y.2.1 pc = .ok (.iaload, 1)) (hc : x_cell n a 0 N) (hi : 0 ≤ i ∧ i < N) (k : xW Y g d mc ms (pc + 1) L (vI (M a i) :: st) cs (n, P, M) Q) : xW Y g d mc ms pc L (vI i :: vR (some a) :: st) cs (n, P, M) Q := xW.iald hd hc.1 hc.2.2 hi.1 (by rw [hc.2.1]; exact hi.2) k
theorem xW.zald {a : Nat} {i N : Int} (hd : decode Y.2.1 pc = .ok (.baload, 1)) (hc : x_cell n a 2 N) (hi : 0 ≤ i ∧ i < N) (k : xW Y g d mc ms (pc + 1) L (vI (M a i) :: st) cs (n, P, M) Q) : xW Y g d mc ms pc L (vI i :: vR (some a) :: st) cs (n, P, M) Q := xW.bald hd hc.1 hc.2.2 hi.1 (by rw [hc.2.1]; exact hi.2) k
theorem xW.jald {a : Nat} {i N : Int} (hd : decode Y.2.1 pc = .ok (.laload, 1)) (hc : x_cell n a 1 N) (hi : 0 ≤ i ∧ i < N) (k : xW Y g d mc ms (pc + 1) L (vJ (M a i) :: st) cs (n, P, M) Q) : xW Y g d mc ms pc L (vI i :: vR (some a) :: st) cs (n, P, M) Q := xW.lald hd hc.1 hc.2.2 hi.1 (by rw [hc.2.1]; exact hi.2) k
theorem xW.rald {a kd : Nat} {i N : Int} {o : Option Nat} (hd : decode Y.2.1 pc = .ok (.aaload, 1)) (hc : x_cell n a kd N) (hk : kd = 3 ∨ kd = 4) (hi : 0 ≤ i ∧ i < N) (ho : P a i = o) (k : xW Y g d mc ms (pc + 1) L (vR o :: st) cs (n, P, M) Q) : xW Y g d mc ms pc L (vI i :: vR (some a) :: st) cs (n, P, M) Q := xW.aald hd (by rw [hc.1]; exact hk) hc.2.2 hi.1 (by rw [hc.2.1]; exact hi.2) ho k
theorem xW.len {a kd : Nat} {N : Int} (hd : decode Y.2.1 pc = .ok (.arraylength, 1)) (hc : x_cell n a kd N) (hk : kd = 0 ∨ kd = 4) (hr : inR N) (k : xW Y g d mc ms (pc + 1) L (vI N :: st) cs (n, P, M) Q) : xW Y g d mc ms pc L (vR (some a) :: st) cs (n, P, M) Q := xW.alen hd (by rw [hc.1]; exact hk) hc.2.2 (by rw [hc.2.1]; exact hr) (by rw [hc.2.1]; exact k)
theorem xW.ast {a : Nat} {i z N : Int} (hd : decode Y.2.1 pc = .ok (.iastore, 1)) (hc : x_cell n a 0 N) (hi : 0 ≤ i ∧ i < N) (k : xW Y g d mc ms (pc + 1) L st cs (n, P, x_upd M a i z) Q) : xW Y g d mc ms pc L (vI z :: vI i :: vR (some a) :: st) cs (n, P, M) Q := xW.iast hd hc.1 hc.2.2 hi.1 (by rw [hc.2.1]; exact hi.2) k
theorem xW.zast {a : Nat} {i z N : Int} (hd : decode Y.2.1 pc = .ok (.bastore, 1)) (hc : x_cell n a 2 N) (hi : 0 ≤ i ∧ i < N) (hz : z = 0 ∨ z = 1) (k : xW Y g d mc ms (pc + 1) L st cs (n, P, x_upd M a i z) Q) : xW Y g d mc ms pc L (vI z :: vI i :: vR (some a) :: st) cs (n, P, M) Q := xW.bast hd hc.1 hc.2.2 hi.1 (by rw [hc.2.1]; exact hi.2) hz k
theorem xW.jast {a : Nat} {i z N : Int} (hd : decode Y.2.1 pc = .ok (.lastore, 1)) (hc : x_cell n a 1 N) (hi : 0 ≤ i ∧ i < N) (k : xW Y g d mc ms (pc + 1) L st cs (n, P, x_upd M a i z) Q) : xW Y g d mc ms pc L (vJ z :: vI i :: vR (some a) :: st) cs (n, P, M) Q := xW.last hd hc.1 hc.2.2 hi.1 (by rw [hc.2.1]; exact hi.2) k
theorem xW.rI {z : Int} {F : xM → Int → Prop} (hd : decode Y.2.1 pc = .ok (.ireturn, 1)) (hY : Y.2.2.2 = some .int) (k : F M z) : xW Y g d 0 0 pc L [vI z] (0, 0) (n, P, M) (kI n P F) := xW.iret hd hY ⟨Nat.le_refl _, Nat.le_refl _⟩ ⟨M, z, rfl, rfl, k⟩
theorem xW.rZ {z : Int} {F : xM → Int → Prop} (hd : decode Y.2.1 pc = .ok (.ireturn, 1)) (hY : Y.2.2.2 = some .boolean) (hz : z = 0 ∨ z = 1) (k : F M z) : xW Y g d 0 0 pc L [vI z] (0, 0) (n, P, M) (kI n P F) := xW.zret hd hY hz ⟨Nat.le_refl _, Nat.le_refl _⟩ ⟨M, z, rfl, rfl, k⟩
theorem xW.rJ {z : Int} {F : xM → Int → Prop} (hd : decode Y.2.1 pc = .ok (.lreturn, 1)) (hY : Y.2.2.2 = some .long) (k : F M z) : xW Y g d 0 0 pc L [vJ z] (0, 0) (n, P, M) (kJ n P F) := xW.lret hd hY ⟨Nat.le_refl _, Nat.le_refl _⟩ ⟨M, z, rfl, rfl, k⟩
theorem xW.rV {F : xM → Prop} (hd : decode Y.2.1 pc = .ok (.return_, 1)) (hY : Y.2.2.2 = none) (k : F M) : xW Y g d 0 0 pc L [] (0, 0) (n, P, M) (kV n P F) := xW.vret hd hY ⟨Nat.le_refl _, Nat.le_refl _⟩ ⟨M, rfl, rfl, k⟩
theorem xW.rR {o : Option Nat} {C : String} {F : xM → Option Nat → Prop} (hd : decode Y.2.1 pc = .ok (.areturn, 1)) (hY : Y.2.2.2 = some (.object C)) (k : F M o) : xW Y g d 0 0 pc L [vR o] (0, 0) (n, P, M) (kR n P F) := xW.aret hd hY ⟨_, rfl⟩ ⟨Nat.le_refl _, Nat.le_refl _⟩ ⟨M, o, rfl, rfl, k⟩
/-- a switch's arms -/
def x_sw (p : Nat → Prop) (z : Int) : Int → List Nat → Prop
  | _, [] => True
  | v, t :: ts => (z = v → p t) ∧ x_sw p z (v + 1) ts
theorem x_sw_at {p : Nat → Prop} {z : Int} : ∀ {ts : List Nat} {v : Int}, x_sw p z v ts → ∀ (i t : Nat), z = v + (i : Int) → ts[i]? = some t → p t
  | [], v, h, i, t, hz, ht => by cases ht
  | u :: ts, v, h, 0, t, hz, ht => by
    cases ht
    exact h.1 (by omega)
  | u :: ts, v, h, i + 1, t, hz, ht => x_sw_at h.2 i t (by omega) ht
theorem xW.sw {z dflt lo hi : Int} {offs : Array Int} {len : Nat} (td : Nat) (ts : List Nat) (hd : decode Y.2.1 pc = .ok (.tableswitch dflt lo hi offs, len)) (h1 : (pc : Int) + dflt = (td : Int)) (h2 : offs.toList.map (fun o : Int => (pc : Int) + o) = ts.map (fun t : Nat => (t : Int))) (h3 : hi - lo + 1 = (ts.length : Int))
    (kd : (z < lo ∨ hi < z) → xW Y g d mc ms td L st cs (n, P, M) Q) (kt : x_sw (fun t => xW Y g d mc ms t L st cs (n, P, M) Q) z lo ts) : xW Y g d mc ms pc L (vI z :: st) cs (n, P, M) Q :=
  xW.table hd h1 h2 h3 kd (fun i t hz ht => x_sw_at kt i t hz ht)
end Forms
