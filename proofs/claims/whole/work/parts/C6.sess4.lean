/-! session: the reference -/
def upB (b : Int × List Int) (z : Int) (o : List Int) : Int × List Int := if z ≤ b.1 then b else (z, o)
def fB (ρ : Option xTx) (A : Int → Int) (pre : List Int) (sum s : Int) : List (List Int) → Int × List Int → Int × List Int
  | [], b => b
  | q :: L, b => fB ρ A pre sum s L (upB b (sum + gS ρ A q s) (pre ++ q))
theorem bX_nat {a : Int} (h : 0 ≤ a ∧ a < 256) {i : Nat} (hi : i < 32) : bX a i = a.toNat.testBit i := by
  show bt (Int32.ofInt a) i = _
  rw [xb_of h.1]
  show (BitVec.ofNat 32 a.toNat).getLsbD i = _
  rw [BitVec.getLsbD_ofNat, decide_eq_true hi, Bool.true_and]
theorem shl1_nat {m : Int} (h : 0 ≤ m ∧ m ≤ 8) : x_shl 1 m = ((2 ^ m.toNat : Nat) : Int) := by
  have e : (2 : Nat) ^ m.toNat ≤ 2 ^ 8 := Nat.pow_le_pow_right (by decide) (by omega)
  have o : (1 : Int).toNat = 1 := rfl
  rw [x_shl_nat (by decide) (by omega) (by rw [o]; omega), o, Nat.one_mul]
theorem hi_bit {v m : Int} (hv : in8 v) (hm : 0 ≤ m ∧ m ≤ 8) (h : x_shl 1 m ≤ v) : ∃ c, (m ≤ c ∧ c < 8) ∧ bi1 v c := by
  rw [shl1_nat hm] at h
  obtain ⟨i, hi, ht⟩ := Nat.exists_ge_and_testBit_of_ge_two_pow (x := v.toNat) (n := m.toNat) (by omega)
  have i8 : i < 8 := by
    rcases Nat.lt_or_ge i 8 with q | q
    · exact q
    · have := Nat.testBit_lt_two_pow (x := v.toNat) (i := i) (Nat.lt_of_lt_of_le (show v.toNat < 2 ^ 8 by omega) (Nat.pow_le_pow_right (by decide) q))
      rw [this] at ht; cases ht
  refine ⟨(i : Int), by omega, ?_⟩
  rw [bi1_b (by omega), Int.toNat_natCast, bX_nat hv (by omega)]
  exact ht
theorem lo_bit {v m c : Int} (hv : 0 ≤ v) (hm : 0 ≤ m ∧ m ≤ 8) (h : v < x_shl 1 m) (hc : m ≤ c ∧ c < 8) : ¬ bi1 v c := by
  rw [shl1_nat hm] at h
  have e : (2 : Nat) ^ m.toNat ≤ 2 ^ 8 := Nat.pow_le_pow_right (by decide) (by omega)
  rw [bi1_b (by omega), bX_nat ⟨hv, by omega⟩ (by omega), Nat.testBit_lt_two_pow (Nat.lt_of_lt_of_le (show v.toNat < 2 ^ m.toNat by omega) (Nat.pow_le_pow_right (by decide) (by omega)))]
  intro z
  cases z
theorem memF_top {v m : Int} (hv : 0 ≤ v) (hm : 0 ≤ m ∧ m ≤ 8) (h : v < x_shl 1 m) : ∀ j : Nat, m.toNat + j ≤ 8 → memF v (m.toNat + j) = memF v m.toNat
  | 0, _ => rfl
  | j + 1, hj => by
    rw [← Nat.add_assoc, memF_snoc, if_neg (lo_bit hv hm h (by omega)), List.append_nil]
    exact memF_top hv hm h j (by omega)
theorem memF_le (v : Int) : ∀ (m j : Nat), (memF v m).length ≤ (memF v (m + j)).length
  | m, 0 => Nat.le_refl _
  | m, j + 1 => by
    rw [← Nat.add_assoc, memF_snoc, List.length_append]
    have := memF_le v m j
    omega
abbrev vs (A : Int → Int) (v i : Int) : Prop := (1 ≤ v ∧ v ≤ 255) ∧ popc v ≤ 5 ∧ (-1 ≤ i ∧ i < popc v) ∧ ∀ c, 0 ≤ c → c < 8 → bi1 v c → wt A c
def sAns (i : Int) (b : Int × List Int) : Int := if i = -1 then b.1 else b.2.getD i.toNat 0
theorem rowIs_snoc {f : Int → Int} {p : List Int} {x : Int} (h : rowIs f p) : rowIs (up f (p.length : Int) x) (p ++ [x]) := fun j hj => by
  have e : (p ++ [x]).length = p.length + 1 := by rw [List.length_append]; rfl
  rw [e] at hj
  by_cases q : j = p.length
  · subst q
    rw [up_at, List.getD_eq_getElem?_getD, List.getElem?_append_right (Nat.le_refl _), Nat.sub_self]
    rfl
  · rw [up_ne (by omega), List.getD_eq_getElem?_getD, List.getElem?_append_left (by omega), ← List.getD_eq_getElem?_getD]
    exact h j (by omega)
theorem idn_len : ∀ n, (idn n).length = n
  | 0 => rfl
  | n + 1 => by
    show (idn n ++ [(n : Int)]).length = n + 1
    rw [List.length_append, idn_len n]
    rfl
section Sess4
variable {g : Option Nat} {d n : Nat} {P : xP} {M : xM} {F : xM → Int → Prop} {G : xM → Prop}
/-- best so far stands in cell 81 -/
theorem q_rows (hn : 82 ≤ n) (hP : x_PP P) {ρ : Option xTx} {k : Nat} {i : Int} {mem : Int → Int} (hρ : rho M (M 65 2) ρ) (h : oka (M 65)) (hk : 1 ≤ k ∧ k ≤ 5) (hi : -1 ≤ i ∧ i < k) (hmem : ∀ x, 0 ≤ x → x < (k : Int) → 0 ≤ mem x ∧ mem x < M 65 0) :
    ∀ (f : Nat) (r : List Int) (b : Int × List Int) (N : xM), offR M N → N 65 = M 65 → wR ρ (M 65) (lz (M 65) 60) N → (∀ x, 0 ≤ x → x < (k : Int) → N 79 x = mem x) → r.length = k → endR f r = true → (∀ q ∈ rws f r, q.length = k ∧ ∀ x ∈ q, 0 ≤ x ∧ x < (k : Int)) → rowIs (N 80) r → (-1 ≤ b.1 ∧ (b.1 = -1 ∨ b.2.length = k)) → (b.1 ≠ -1 → rowIs (N 81) b.2) →
      (∀ M', offR M M' → M' 65 = M 65 → F M' (sAns i (fB ρ (M 65) [] 0 0 ((rws f r).map (fun q => q.map mem)) b))) → xW Y_X10_session g (d + 7) 0 0 119 [(0, vR (some 64)), (2, vI i), (3, vI (k : Int)), (4, vI b.1), (5, vI 1)] [] (0, 0) (n, P, N) (kI n P F) := by
  intro f
  have last : ∀ (b : Int × List Int) (N : xM), offR M N → N 65 = M 65 → 0 ≤ b.1 → b.2.length = k → rowIs (N 81) b.2 → (∀ M', offR M M' → M' 65 = M 65 → F M' (sAns i b)) → xW Y_X10_session g (d + 7) 0 0 119 [(0, vR (some 64)), (2, vI i), (3, vI (k : Int)), (4, vI b.1), (5, vI 0)] [] (0, 0) (n, P, N) (kI n P F) := by
    intro b N oN eN b0 bl hb81 H
    have HH := H N oN eN
    unfold sAns at HH
    refine b_X10_session_119 hn hP ⟨fun _ => ⟨fun hz => ⟨by omega, ?_⟩, fun hz => ?_⟩, fun z => absurd rfl z⟩
    · rw [if_neg hz] at HH
      have := hb81 i.toNat (by omega)
      rw [show ((i.toNat : Nat) : Int) = i by omega] at this
      rw [this]
      exact HH
    · rw [if_pos hz] at HH
      exact HH
  -- one row
  have row : ∀ (r : List Int) (b : Int × List Int) (N : xM), offR M N → N 65 = M 65 → wR ρ (M 65) (lz (M 65) 60) N → (∀ x, 0 ≤ x → x < (k : Int) → N 79 x = mem x) → r.length = k → (∀ x ∈ r, 0 ≤ x ∧ x < (k : Int)) → rowIs (N 80) r → (-1 ≤ b.1 ∧ (b.1 = -1 ∨ b.2.length = k)) → (b.1 ≠ -1 → rowIs (N 81) b.2) →
      (∀ N', offR M N' → N' 65 = M 65 → wR ρ (M 65) (lz (M 65) 60) N' → (∀ x, 0 ≤ x → x < (k : Int) → N' 79 x = mem x) → rowIs (N' 80) r → (0 ≤ (upB b (0 + gS ρ (M 65) (r.map mem) 0) ([] ++ r.map mem)).1 ∧ (upB b (0 + gS ρ (M 65) (r.map mem) 0) ([] ++ r.map mem)).2.length = k) → rowIs (N' 81) (upB b (0 + gS ρ (M 65) (r.map mem) 0) ([] ++ r.map mem)).2 → xW Y_X10_session g (d + 7) 0 0 176 [(0, vR (some 64)), (2, vI i), (3, vI (k : Int)), (4, vI (upB b (0 + gS ρ (M 65) (r.map mem) 0) ([] ++ r.map mem)).1)] [] (0, 0) (n, P, N') (kI n P F)) →
      xW Y_X10_session g (d + 7) 0 0 119 [(0, vR (some 64)), (2, vI i), (3, vI (k : Int)), (4, vI b.1), (5, vI 1)] [] (0, 0) (n, P, N) (kI n P F) := by
    intro r b N oN eN hw h79 hl hr h80 hb hb81 H
    rw [Int.zero_add, List.nil_append] at H
    have em : r.map (N 79) = r.map mem := List.map_congr_left (fun x hx => h79 x (hr x hx).1 (hr x hx).2)
    refine b_X10_session_119 hn hP ⟨fun z => absurd z (by decide), fun _ => ?_⟩
    rw [← hl]
    refine q_sent hn hP (ρ := ρ) (by rw [eN]; exact rho_R oN hρ) (by rw [eN]; exact h) (by rw [eN]; exact hw) h80 (by omega) (fun x hx => ?_) (fun N2 o2 => ?_)
    · have := hr x hx
      have := hmem x (by omega) (by omega)
      rw [h79 x (by omega) (by omega), eN]
      omega
    rw [eN, em, hl]
    have sg := gS_r (ρ := ρ) h (r.map mem) 0 (fun c hc => by
      obtain ⟨x, hx, rfl⟩ := List.mem_map.mp hc
      exact hmem x (hr x hx).1 (hr x hx).2)
    have o12 := offR_trans oN (offE_R o2)
    have e65 : N2 65 = M 65 := (offE_65 o2).trans eN
    have s80 : N2 80 = N 80 := o2.1 80 (by decide) (by decide) (by decide)
    have s81 : N2 81 = N 81 := o2.1 81 (by decide) (by decide) (by decide)
    have s79 : N2 79 = N 79 := o2.1 79 (by decide) (by decide) (by decide)
    generalize gS ρ (M 65) (r.map mem) 0 = z at *
    refine ⟨fun hz => ?_, fun hz => ?_⟩
    · have eb : upB b z (r.map mem) = b := if_pos hz
      rw [eb] at H
      exact H N2 o12 e65 (wR_E o2 hw) (fun x x0 x1 => by rw [s79]; exact h79 x x0 x1) (by rw [s80]; exact h80) ⟨by omega, by rcases hb.2 with q | q; omega; exact q⟩ (by rw [s81]; exact hb81 (by omega))
    · have eb : upB b z (r.map mem) = (z, r.map mem) := if_neg hz
      rw [eb] at H
      have lp : ∀ (m j : Nat) (N3 : xM), j + m = k → offR M N3 → N3 65 = M 65 → wR ρ (M 65) (lz (M 65) 60) N3 → N3 79 = N 79 → N3 80 = N 80 → (∀ q : Nat, q < j → N3 81 (q : Int) = (r.map mem).getD q 0) → xW Y_X10_session g (d + 7) 0 0 145 [(0, vR (some 64)), (2, vI i), (3, vI (k : Int)), (4, vI z), (7, vI (j : Int))] [] (0, 0) (n, P, N3) (kI n P F) := by
        intro m
        induction m with
        | zero =>
          intro j N3 hj o3 e3 w3 t79 t80 t81
          refine b_X10_session_145 hn hP ⟨fun _ => ?_, fun q => absurd (by omega) q⟩
          exact H N3 o3 e3 w3 (fun x x0 x1 => by rw [t79]; exact h79 x x0 x1) (by rw [t80]; exact h80) ⟨sg.1, by rw [List.length_map]; exact hl⟩ (fun q hq => t81 q (by rw [List.length_map] at hq; omega))
        | succ m ih =>
          intro j N3 hj o3 e3 w3 t79 t80 t81
          have e80 := h80 j (by omega)
          have rj : r.getD j 0 ∈ r := by
            rw [List.getD_eq_getElem?_getD, List.getElem?_eq_getElem (show j < r.length by omega)]
            exact List.getElem_mem _
          have rr := hr _ rj
          have ev : N3 79 (N3 80 (j : Int)) = (r.map mem).getD j 0 := by
            rw [t80, e80, t79, h79 _ rr.1 rr.2, List.getD_eq_getElem?_getD, List.getD_eq_getElem?_getD, List.getElem?_map, List.getElem?_eq_getElem (show j < r.length by omega)]
            rfl
          refine b_X10_session_145 hn hP ⟨fun q => absurd q (by omega), fun _ => ⟨by omega, by rw [t80, e80]; omega, by omega, by unfold inR; omega, ?_⟩⟩
          rw [ev]
          have := ih (j + 1) (x_upd N3 81 (j : Int) ((r.map mem).getD j 0)) (by omega) (offR_upd o3 (by omega)) (by rw [← e3]; funext q; exact x_upd_nb (by decide)) (fun q q0 q1 => by rw [x_upd_nb (by decide), x_upd_nb (by decide), x_upd_nb (by decide)]; exact w3 q q0 q1) (by rw [← t79]; funext q; exact x_upd_nb (by decide)) (by rw [← t80]; funext q; exact x_upd_nb (by decide)) (fun q hq => by
            by_cases qj : q = j
            · subst qj; rw [x_upd_at]
            · rw [x_upd_nj (by omega)]; exact t81 q (by omega))
          rw [show ((j + 1 : Nat) : Int) = (j : Int) + 1 by omega] at this
          exact this
      exact lp k 0 N2 (by omega) o12 e65 (wR_E o2 hw) s79 s80 (fun q hq => absurd hq (by omega))
  induction f with
  | zero =>
    intro r b N oN eN hw h79 hl hend hall h80 hb hb81 H
    have hr := (hall r (List.mem_cons_self ..)).2
    refine row r b N oN eN hw h79 hl hr h80 hb hb81 (fun N' o' e' w' t79 t80 tb t81 => ?_)
    have hN : nxt r = none := by
      unfold endR at hend
      cases hx : nxt r with
      | none => rfl
      | some q => rw [hx] at hend; cases hend
    refine b_X10_session_176 hn hP ?_
    rw [← hl]
    refine q_nextRow hn hP (by omega) t80 (fun _ => ?_) (fun q hq => by rw [hN] at hq; cases hq)
    rw [hl]
    exact last _ N' o' e' tb.1 tb.2 t81 H
  | succ f ih =>
    intro r b N oN eN hw h79 hl hend hall h80 hb hb81 H
    cases hx : nxt r with
    | none =>
      have er : rws (f + 1) r = [r] := by unfold rws; rw [hx]
      rw [er] at H hall
      have hr := (hall r (List.mem_cons_self ..)).2
      refine row r b N oN eN hw h79 hl hr h80 hb hb81 (fun N' o' e' w' t79 t80 tb t81 => ?_)
      refine b_X10_session_176 hn hP ?_
      rw [← hl]
      refine q_nextRow hn hP (by omega) t80 (fun _ => ?_) (fun q hq => by rw [hx] at hq; cases hq)
      rw [hl]
      exact last _ N' o' e' tb.1 tb.2 t81 H
    | some q =>
      have er : rws (f + 1) r = r :: rws f q := by
        show (match nxt r with | none => [r] | some q => r :: rws f q) = _
        rw [hx]
      have ee : endR f q = true := by
        have : endR (f + 1) r = (match nxt r with | none => true | some q => endR f q) := rfl
        rw [this, hx] at hend
        exact hend
      rw [er] at H hall
      have hr := (hall r (List.mem_cons_self ..)).2
      refine row r b N oN eN hw h79 hl hr h80 hb hb81 (fun N' o' e' w' t79 t80 tb t81 => ?_)
      refine b_X10_session_176 hn hP ?_
      rw [← hl]
      refine q_nextRow hn hP (by omega) t80 (fun hq => by rw [hx] at hq; cases hq) (fun q' hq fr hfr => ?_)
      rw [hx] at hq
      cases hq
      rw [hl]
      refine ih q _ (setA N' 80 fr) (offR_set o' (by omega)) (by rw [setA_ne (by decide)]; exact e') (fun x x0 x1 => by rw [setA_ne (by decide), setA_ne (by decide), setA_ne (by decide)]; exact w' x x0 x1) (fun x x0 x1 => by rw [setA_ne (by decide)]; exact t79 x x0 x1) ((nxt_len hx).trans hl) ee (fun p hp => hall p (List.mem_cons_of_mem _ hp)) (by rw [setA_at]; exact hfr) ⟨by omega, Or.inr tb.2⟩ (fun _ => by rw [setA_ne (by decide)]; exact t81) H
end Sess4
