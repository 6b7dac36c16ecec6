/-! session: the class's arrange -/
def smv (A : Int → Int) (v : Int) : Nat → Int
  | 0 => 0
  | c + 1 => smv A v c + (if bi1 v c then A (20 + 7 * c + 2) else 0)
theorem smv_rmv {A : Int → Int} {v c : Int} (hc : 0 ≤ c ∧ c < 8) (hb : bi1 v c) : ∀ m : Nat, m ≤ 8 → smv A (rmv v c) m + (if c < (m : Int) then A (20 + 7 * c + 2) else 0) = smv A v m
  | 0, _ => by
    rw [if_neg (by omega)]
    rfl
  | m + 1, hm => by
    have ih := smv_rmv (A := A) hc hb m (by omega)
    have e := bi1_rmv (v := v) (c := c) (j := (m : Int)) hc (by omega)
    show smv A (rmv v c) m + (if bi1 (rmv v c) m then A (20 + 7 * m + 2) else 0) + _ = smv A v m + (if bi1 v m then A (20 + 7 * m + 2) else 0)
    by_cases q : (m : Int) = c
    · subst q
      rw [if_neg (by omega)] at ih
      rw [if_neg (fun z => (e.mp z).2 rfl), if_pos hb, if_pos (by omega)]
      omega
    · have e2 : bi1 (rmv v c) m ↔ bi1 v m := ⟨fun z => (e.mp z).1, fun z => e.mpr ⟨z, q⟩⟩
      by_cases q2 : bi1 v m
      · rw [if_pos (e2.mpr q2), if_pos q2]
        by_cases q3 : c < (m : Int)
        · rw [if_pos q3] at ih; rw [if_pos (by omega)]; omega
        · rw [if_neg q3] at ih; rw [if_neg (by omega)]; omega
      · rw [if_neg (fun z => q2 (e2.mp z)), if_neg q2]
        by_cases q3 : c < (m : Int)
        · rw [if_pos q3] at ih; rw [if_pos (by omega)]; omega
        · rw [if_neg q3] at ih; rw [if_neg (by omega)]; omega
theorem smv_r {A : Int → Int} (h : oka A) {v : Int} (hm : ∀ c, 0 ≤ c → c < 8 → bi1 v c → 0 ≤ c ∧ c < A 0) : ∀ m : Nat, m ≤ 8 → 0 ≤ smv A v m ∧ smv A v m ≤ 9 * (memF v m).length
  | 0, _ => ⟨Int.le_refl _, by show (0 : Int) ≤ 9 * ((0 : Nat) : Int); omega⟩
  | m + 1, hm8 => by
    have ih := smv_r h hm m (by omega)
    rw [memF_snoc, List.length_append]
    show 0 ≤ smv A v m + (if bi1 v m then A (20 + 7 * m + 2) else 0) ∧ smv A v m + (if bi1 v m then A (20 + 7 * m + 2) else 0) ≤ _
    by_cases q : bi1 v m
    · have := (oka_told h (hm m (by omega) (by omega) q)).2.2.2.1
      have e : ([(m : Int)] : List Int).length = 1 := rfl
      rw [if_pos q, if_pos q, e]
      omega
    · rw [if_neg q, if_neg q]
      show _ ∧ _ ≤ 9 * (((memF v m).length + 0 : Nat) : Int)
      omega
theorem fB_app (ρ : Option xTx) (A : Int → Int) (pre : List Int) (sum s : Int) : ∀ (L1 L2 : List (List Int)) (b : Int × List Int), fB ρ A pre sum s (L1 ++ L2) b = fB ρ A pre sum s L2 (fB ρ A pre sum s L1 b)
  | [], _, _ => rfl
  | q :: L1, L2, b => fB_app ρ A pre sum s L1 L2 (upB b (sum + gS ρ A q s) (pre ++ q))
theorem fB_cons {ρ : Option xTx} {A : Int → Int} {pre : List Int} {sum s sum' s' c : Int} (h : ∀ q, sum + gS ρ A (c :: q) s = sum' + gS ρ A q s') : ∀ (L : List (List Int)) (b : Int × List Int), fB ρ A pre sum s (L.map (fun q => c :: q)) b = fB ρ A (pre ++ [c]) sum' s' L b
  | [], _ => rfl
  | q :: L, b => by
    show fB ρ A pre sum s (L.map (fun q => c :: q)) (upB b (sum + gS ρ A (c :: q) s) (pre ++ (c :: q))) = fB ρ A (pre ++ [c]) sum' s' L (upB b (sum' + gS ρ A q s') (pre ++ [c] ++ q))
    rw [h q, fB_cons h L, List.append_assoc]
    rfl
theorem rmv_r {v c : Int} (hv : in8 v) (hc : 0 ≤ c ∧ c < 8) : in8 (rmv v c) := by
  unfold rmv
  have e : ∀ w : Int32, 0 ≤ ((nI v.toNat) &&& w).toInt ∧ ((nI v.toNat) &&& w).toInt < 256 := fun w => by
    have h : ((nI v.toNat) &&& w).toBitVec.toNat ≤ v.toNat := by
      rw [Int32.toBitVec_and, BitVec.toNat_and, xb_tn (by omega)]
      exact Nat.and_le_left
    rw [xb_ti (x := (nI v.toNat) &&& w) rfl (by omega)]
    omega
  unfold x_and
  rw [xb_of hv.1]
  exact e _
theorem filter_ne_len : ∀ {l : List Int} {c : Int}, l.Nodup → c ∈ l → (l.filter (fun x => decide (x ≠ c))).length + 1 = l.length
  | [], c, _, h => nomatch h
  | x :: l, c, nd, h => by
    obtain ⟨n1, n2⟩ := List.nodup_cons.mp nd
    by_cases q : x = c
    · subst q
      rw [List.filter_cons_of_neg (by rw [decide_eq_false (fun z => z rfl)]; decide), List.length_cons]
      congr 1
      rw [List.filter_eq_self.mpr (fun y hy => decide_eq_true (show y ≠ x from fun z => by rw [z] at hy; exact n1 hy))]
    · have hm : c ∈ l := by
        rcases List.mem_cons.mp h with w | w
        · exact absurd w.symm q
        · exact w
      rw [List.filter_cons_of_pos (p := fun x => decide (x ≠ c)) (decide_eq_true q), List.length_cons, List.length_cons, filter_ne_len n2 hm]
theorem popc_rmv {v c : Int} (hv : in8 v) (hc : 0 ≤ c ∧ c < 8) (hb : bi1 v c) : popc (rmv v c) + 1 = popc v := by
  rw [← popc_mem (rmv_r hv hc), ← popc_mem hv, memF_rmv hc]
  have := filter_ne_len (l := memF v 8) (c := c) (List.Pairwise.filter _ (rng_nd 8 0)) (memF_mem.mpr ⟨⟨hc.1, by have : ((8 : Nat) : Int) = 8 := rfl; omega⟩, hb⟩)
  omega
def offA (M M' : xM) : Prop := (∀ c, c < 12 ∨ (15 < c ∧ c < 24) ∨ 25 < c → M' c = M c) ∧ ∀ j, j ≠ 11 → M' 15 j = M 15 j
theorem offA_refl (M : xM) : offA M M := ⟨fun _ _ => rfl, fun _ _ => rfl⟩
theorem offA_trans {M M' M'' : xM} (h : offA M M') (h' : offA M' M'') : offA M M'' := ⟨fun c hc => (h'.1 c hc).trans (h.1 c hc), fun j hj => (h'.2 j hj).trans (h.2 j hj)⟩
theorem offA_upd {M M' : xM} {i v : Int} (h : offA M M') : offA M (x_upd M' 24 i v) := ⟨fun c hc => by rw [← h.1 c hc]; funext j; exact x_upd_nb (by omega), fun j hj => by rw [← h.2 j hj]; exact x_upd_nb (by decide)⟩
theorem offA_W {M M' : xM} (h : offW M M') : offA M M' := ⟨fun c hc => h c (by omega), fun j _ => by rw [h 15 (by omega)]⟩
theorem wC_A {ρ : Option xTx} {A : Int → Int} {s : Int} {M M' : xM} (h : offA M M') (hw : wC ρ A s M) : wC ρ A s M' := by
  unfold wC at *
  rw [h.2 3 (by decide), h.1 16 (by omega), h.1 17 (by omega), h.1 18 (by omega)]
  exact hw
/-- best so far: cells 15(11), 25 -/
def bst (M : xM) (T : Nat) (b : Int × List Int) : Prop := M 15 11 = b.1 ∧ -1 ≤ b.1 ∧ b.1 ≤ 5000 ∧ (b.1 ≠ -1 → rowIs (M 25) b.2 ∧ b.2.length = T)
theorem rowIs_pre {f : Int → Int} {p q : List Int} (h : rowIs f (p ++ q)) : rowIs f p := fun j hj => by
  rw [h j (by rw [List.length_append]; omega), List.getD_eq_getElem?_getD, List.getElem?_append_left hj, ← List.getD_eq_getElem?_getD]
section Sess6
variable {g : Option Nat} {d n : Nat} {P : xP} {F : xM → Int → Prop}
theorem k_arr (hn : 82 ≤ n) (hP : x_PP P) {A : Int → Int} {o : Option Nat} {ρ : Option xTx} {hrs : Int} (hh : 0 ≤ hrs ∧ hrs ≤ 45) : ∀ (k : Nat) (v : Int) (pre : List Int) (sum s : Int) (b : Int × List Int) (M : xM) (G : xM → Prop), in8 v → popc v = k → pre.length + k ≤ 5 → (∀ c, 0 ≤ c → c < 8 → bi1 v c → 0 ≤ c ∧ c < A 0) → relC A (CC M) → clR n P M o ρ → wC ρ A (ls A hrs) M → M 15 2 = x_enc o → 0 ≤ s → (s = 60 ∨ s + smv A v 8 ≤ hrs) → (0 ≤ sum ∧ sum ≤ 999 * pre.length) → rowIs (M 24) pre → bst M (pre.length + k) b → (∀ M', offA M M' → rowIs (M' 24) pre → bst M' (pre.length + k) (fB ρ A pre sum s (ords k v) b) → G M') → xCV Y_X1_arrange none (d + k + 5) [vR (some 15), vI (pre.length : Int), vI v, vI s, vI sum] n P M G := by
  intro k
  induction k with
  | zero =>
    intro v pre sum s b M G hv hp hl hm hC hR hw h2 hs0 hs hsum h24 hb H
    have v0 : v = 0 := by
      by_cases q : v = 0
      · exact q
      · have := memF_ne (v := v) ⟨by have := hv.1; omega, by have := hv.2; omega⟩
        have := popc_mem hv
        omega
    subst v0
    refine b_X1_arrange hn hP ⟨fun z => absurd rfl z, fun _ => ?_⟩
    have eo : fB ρ A pre sum s (ords 0 0) b = upB b sum pre := by
      show upB b (sum + 0) (pre ++ []) = _
      rw [Int.add_zero, List.append_nil]
    rw [eo] at H
    obtain ⟨b1, b2, b3, b4⟩ := hb
    refine ⟨fun z => ?_, fun z => ?_⟩
    · have eb : upB b sum pre = b := if_pos (by omega)
      rw [eb] at H
      exact H M (offA_refl M) h24 ⟨b1, b2, b3, b4⟩
    · have eb : upB b sum pre = (sum, pre) := if_neg (by omega)
      rw [eb] at H
      refine H _ ⟨fun c hc => ?_, fun j hj => ?_⟩ ?_ ⟨?_, by show -1 ≤ sum; omega, by show sum ≤ 5000; omega, fun _ => ⟨fun j hj => ?_, rfl⟩⟩
      · funext j
        rw [cpy_ne (by omega), x_upd_nb (by omega)]
      · rw [cpy_ne (by decide), x_upd_nj hj]
      · have : x_cpy (x_upd M 15 11 sum) 24 25 0 0 5 24 = M 24 := by
          funext j
          rw [cpy_ne (by decide), x_upd_nb (by decide)]
        rw [this]
        exact h24
      · rw [cpy_ne (by decide), x_upd_at]
      · rw [cpy_in (by omega) (by have : pre.length ≤ 5 := by omega
                                  have : j < pre.length := hj
                                  omega), x_upd_nb (by decide)]
        exact h24 j hj
  | succ k ih =>
    intro v pre sum s b M G hv hp hl hm hC hR hw h2 hs0 hs hsum h24 hb H
    have ok : oka A := ⟨_, hC⟩
    have v0 : v ≠ 0 := fun q => by
      rw [q] at hp
      have : popc 0 = 0 := by decide +kernel
      omega
    have h11 := hC.2.2.2.1.2.1.2.2.2.1
    have m8 := hC.2.2.2.1.1
    have a0 : A 0 = M 4 1 := hC.1.1
    have lsr := ls_r ok (v := hrs) (by omega)
    refine b_X1_arrange (d := d + (k + 1)) hn hP ⟨fun _ => ⟨fun z => absurd z (by omega), fun _ => ⟨fun _ => ?_, fun z => absurd (by omega) z⟩⟩, fun z => absurd z v0⟩
    have loop : ∀ (m c : Nat) (N : xM) (b : Int × List Int), c + m = 8 → offA M N → rowIs (N 24) pre → bst N (pre.length + (k + 1)) b → (∀ M', offA M M' → rowIs (M' 24) pre → bst M' (pre.length + (k + 1)) (fB ρ A pre sum s (ordS (ords k) v m (c : Int)) b) → G M') → xW Y_X1_arrange none (d + (k + 1) + 5) 0 0 47 [(0, vR (some 15)), (1, vI (pre.length : Int)), (2, vI v), (3, vI s), (4, vI sum), (5, vI (c : Int))] [] (0, 0) (n, P, N) (kV n P G) := by
      intro m
      induction m with
      | zero =>
        intro c N b hc oN r24 hb H
        exact b_X1_arrange_47 (d := d + (k + 1)) hn hP ⟨fun _ => H N oN r24 hb, fun z => absurd (by omega) z⟩
      | succ m ih2 =>
        intro c N b hc oN r24 hb H
        have eS : ordS (ords k) v (m + 1) (c : Int) = (if bi1 v c then (ords k (rmv v c)).map (fun q => (c : Int) :: q) else []) ++ ordS (ords k) v m ((c : Int) + 1) := rfl
        rw [eS, fB_app] at H
        refine b_X1_arrange_47 (d := d + (k + 1)) hn hP ⟨fun z => absurd z (by omega), fun _ => ⟨fun nb => b_X1_arrange_142 (d := d + (k + 1)) hn hP ⟨by unfold inR; omega, ?_⟩, fun hb1 => ?_⟩⟩
        · rw [if_neg nb] at H
          have := ih2 (c + 1) N b (by omega) oN r24 hb (by rw [show ((c + 1 : Nat) : Int) = (c : Int) + 1 by omega]; exact H)
          rw [show ((c + 1 : Nat) : Int) = (c : Int) + 1 by omega] at this
          exact this
        · rw [if_pos hb1] at H
          have hcc := hm c (by omega) (by omega) hb1
          obtain ⟨c8, t0, t1, t2, t3⟩ := oka_told ok hcc
          have hCN : relC A (CC N) := relC_same hC (fun x x0 x1 => oN.1 x (by omega))
          obtain ⟨k0, k1, k2, k3⟩ := relC_told hCN hcc
          have n4 : N 4 1 = A 0 := by rw [oN.1 4 (by omega)]; exact a0.symm
          refine c_X5_at hn hP (x_rows4 hn hP) (by omega) (by omega) (by omega) ?_
          rw [show N (4 + 1) (4 * (c : Int) + 2) = A (20 + 7 * (c : Int) + 2) from k2.symm]
          have sr := smv_rmv (A := A) (v := v) (c := (c : Int)) (by omega) hb1 8 (by omega)
          rw [if_pos (show (c : Int) < ((8 : Nat) : Int) by omega)] at sr
          have hm' : ∀ x, 0 ≤ x → x < 8 → bi1 (rmv v c) x → 0 ≤ x ∧ x < A 0 := fun x x0 x1 hx => hm x x0 x1 ((bi1_rmv (by omega) ⟨x0, x1⟩).mp hx).1
          have smr := smv_r ok hm' 8 (by omega)
          refine k_endOf hn hP (ρ := ρ) (S := ls A hrs) hCN (clR_of (fun x x0 x1 => oN.1 x (by omega)) hR) (wC_A oN hw) (by rw [oN.2 2 (by decide)]; exact h2) (by omega) hcc (by omega) (by omega) (fun N2 o2 => ?_)
          generalize hE : (if s + A (20 + 7 * (c : Int) + 2) ≤ ls A hrs then vd ρ A c s (A (20 + 7 * (c : Int) + 2)) else -2) = E
          have vr := vd_r (ρ := ρ) (A := A) (c := (c : Int)) (s := s) (hd := A (20 + 7 * (c : Int) + 2)) (by omega) (by omega)
          have Er : -2 ≤ E ∧ E ≤ 999 := by rw [← hE]; split <;> omega
          have key : ∀ q, sum + gS ρ A ((c : Int) :: q) s = (sum + (if E ≤ 0 then 0 else E)) + gS ρ A q (if E = -2 then 60 else s + A (20 + 7 * (c : Int) + 2)) := fun q => by
            have gu : gS ρ A ((c : Int) :: q) s = if 60 ≤ s ∨ eO ρ A c s 0 = -2 then 0 else (if eO ρ A c s 0 ≤ 0 then 0 else eO ρ A c s 0) + gS ρ A q (s + A (20 + 7 * (c : Int) + 2)) := rfl
            rw [gu]
            by_cases s60 : s = 60
            · have E2 : E = -2 := by rw [← hE]; exact if_neg (by omega)
              rw [if_pos (Or.inl (by omega)), if_pos E2, gS_60 ρ A q (Int.le_refl _), if_pos (by omega)]
              omega
            · have hsm : s + smv A v 8 ≤ hrs := by rcases hs with q | q; exact absurd q s60; exact q
              have eE : eO ρ A c s 0 = E := by
                rw [← hE]
                unfold eO
                rw [Int.add_zero]
                by_cases q : A 11 + s + A (20 + 7 * (c : Int) + 2) ≤ 9999
                · rw [if_pos q, if_pos (by unfold ls; split <;> omega)]
                · rw [if_neg q, if_neg (by unfold ls; split <;> omega)]
              rw [eE]
              by_cases E2 : E = -2
              · rw [if_pos (Or.inr E2), if_pos E2, gS_60 ρ A q (Int.le_refl _), if_pos (by omega)]
                omega
              · rw [if_neg (fun z => by rcases z with z | z; omega; exact E2 z), if_neg E2]
                omega
          rw [fB_cons key] at H
          have o12 := offA_trans oN (offA_W o2)
          have main : xW Y_X1_arrange none (d + (k + 1) + 5) 0 0 106 [(0, vR (some 15)), (1, vI (pre.length : Int)), (2, vI v), (3, vI s), (4, vI sum), (5, vI (c : Int)), (7, vI E)] [vI (if E = -2 then 60 else s + A (20 + 7 * (c : Int) + 2))] (0, 0) (n, P, N2) (kV n P G) := by
            refine b_X1_arrange_106 (d := d + (k + 1)) hn hP ⟨by omega, by unfold inR; omega, k_max hn ⟨?_, ?_⟩⟩
            · unfold inR
              split <;> omega
            have pl : (pre ++ [(c : Int)]).length = pre.length + 1 := by rw [List.length_append]; rfl
            have o13 : offA M (x_upd N2 24 (pre.length : Int) (c : Int)) := offA_upd o12
            have e24 : x_upd N2 24 (pre.length : Int) (c : Int) 24 = up (N 24) (pre.length : Int) (c : Int) := by
              rw [x_upd_up, setA_at, o2 24 (by omega)]
            have b15 : x_upd N2 24 (pre.length : Int) (c : Int) 15 = N 15 := by
              funext j
              rw [x_upd_nb (by decide), o2 15 (by omega)]
            have b25 : x_upd N2 24 (pre.length : Int) (c : Int) 25 = N 25 := by
              funext j
              rw [x_upd_nb (by decide), o2 25 (by omega)]
            have := ih (rmv v c) (pre ++ [(c : Int)]) (sum + (if E ≤ 0 then 0 else E)) (if E = -2 then 60 else s + A (20 + 7 * (c : Int) + 2)) b (x_upd N2 24 (pre.length : Int) (c : Int)) (fun M11 => xW Y_X1_arrange none (d + (k + 1) + 5) 0 0 142 [(0, vR (some 15)), (1, vI (pre.length : Int)), (2, vI v), (3, vI s), (4, vI sum), (5, vI (c : Int))] [] (0, 0) (n, P, M11) (kV n P G)) (rmv_r hv (by omega)) (by have := popc_rmv hv (c := (c : Int)) (by omega) hb1; omega) (by omega) hm' (relC_same hC (fun x x0 x1 => o13.1 x (by omega))) (clR_of (fun x x0 x1 => o13.1 x (by omega)) hR) (wC_A o13 hw) (by rw [o13.2 2 (by decide)]; exact h2) (by split <;> omega) (by
              by_cases E2 : E = -2
              · rw [if_pos E2]; exact Or.inl rfl
              · rw [if_neg E2]
                have s60 : s ≠ 60 := fun q => E2 (by rw [← hE]; exact if_neg (by omega))
                have hsm : s + smv A v 8 ≤ hrs := by rcases hs with q | q; exact absurd q s60; exact q
                exact Or.inr (by omega)) (by rw [pl]; split <;> omega) (by rw [e24]; exact rowIs_snoc r24) (by
              unfold bst at hb ⊢
              rw [b15, b25, pl, show pre.length + 1 + k = pre.length + (k + 1) by omega]
              exact hb) (fun M11 o11 r11 b11 => ?_)
            · rw [pl, show ((pre.length + 1 : Nat) : Int) = (pre.length : Int) + 1 by omega] at this
              exact this
            · rw [pl, show pre.length + 1 + k = pre.length + (k + 1) by omega] at b11
              have nx := ih2 (c + 1) M11 _ (by omega) (offA_trans o13 o11) (rowIs_pre r11) b11 (by rw [show ((c + 1 : Nat) : Int) = (c : Int) + 1 by omega]; exact H)
              rw [show ((c + 1 : Nat) : Int) = (c : Int) + 1 by omega] at nx
              exact b_X1_arrange_142 (d := d + (k + 1)) hn hP ⟨by unfold inR; omega, nx⟩
          refine ⟨fun q => ⟨by unfold inR; omega, ?_⟩, fun q => ?_⟩
          · rw [if_neg q] at main
            exact main
          · rw [if_pos q] at main
            exact main
    exact loop 8 0 M b (by omega) (offA_refl M) h24 hb H
end Sess6
