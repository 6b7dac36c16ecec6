/-! CORE: the machine seen as whole numbers. Values: ints, longs, references (cells by their number); a state: how many cells, their pointers, their numbers. -/
abbrev xV : Type := Int ⊕ Int ⊕ Option Nat
abbrev vI (z : Int) : xV := .inl z
abbrev vJ (z : Int) : xV := .inr (.inl z)
abbrev vR (o : Option Nat) : xV := .inr (.inr o)
abbrev inR (z : Int) : Prop := -2147483648 ≤ z ∧ z ≤ 2147483647
abbrev inT (z : Int) : Prop := inR z ∧ z < 82
abbrev inL (z : Int) : Prop := -9223372036854775808 ≤ z ∧ z ≤ 9223372036854775807
def x_ok (v : xV) : Prop := match v with
  | .inl z => inR z
  | .inr (.inl z) => inL z
  | .inr (.inr _) => True
def x_tr (ad : Nat → Nat) (v : xV) : Value := match v with
  | .inl z => .int (Int32.ofInt z)
  | .inr (.inl z) => .long (Int64.ofInt z)
  | .inr (.inr o) => va_rf (o.map ad)
def x_isJ (v : xV) : Bool := match v with
  | .inr (.inl _) => true
  | _ => false
abbrev xM : Type := Nat → Int → Int
abbrev xP : Type := Nat → Int → Option Nat
abbrev xH : Type := Nat × xP × xM
abbrev xY : Type := MethodName × ByteArray × Nat × Option FieldType
abbrev xL : Type := List (Nat × xV)
/-- classes' numbers and slots, array classes, base, what was left behind, the string, its bytes, the formatter -/
abbrev xG : Type := va_G × (Nat → ClassId) × Nat × Nat × Nat × Nat × Nat
def x_ad (G : xG) (k : Nat) : Nat := if k < 1000 then G.2.2.1 + k + (if k < 82 then 0 else G.2.2.2.1) else if k = 1000 then G.2.2.2.2.1 else if k = 1001 then G.2.2.2.2.2.1 else G.2.2.2.2.2.2
def x_A (G : xG) : Nat → Prop := fun q => G.2.2.1 ≤ q
def x_upd (M : xM) (a : Nat) (i v : Int) : xM := fun b j => if b = a ∧ j = i then v else M b j
def x_updP (P : xP) (a : Nat) (i : Int) (v : Option Nat) : xP := fun b j => if b = a ∧ j = i then v else P b j
/-- the cells in the order in which they are made: kind (0 int[], 1 long[], 2 boolean[], 3 Text[], 4 int[][], 5 + class), length -/
def x_SL : List (Nat × Nat) := [(12, 9), (5, 10), (0, 64), (0, 1920), (9, 2), (0, 32), (9, 2), (0, 32), (9, 2), (0, 32), (9, 2), (0, 32), (7, 3), (0, 8), (0, 300), (6, 12), (0, 61), (0, 61), (0, 61), (4, 3), (0, 5), (0, 5), (0, 5), (0, 4), (0, 5), (0, 5),
  (5, 10), (0, 64), (0, 1920), (9, 2), (0, 32), (9, 2), (0, 32), (9, 2), (0, 32), (9, 2), (0, 32), (10, 6), (0, 300), (0, 301), (0, 301), (0, 301), (3, 4),
  (11, 7), (0, 300), (0, 8), (0, 8), (0, 96), (11, 7), (0, 300), (0, 8), (0, 8), (0, 96), (11, 7), (0, 300), (0, 8), (0, 8), (0, 96), (11, 7), (0, 300), (0, 8), (0, 8), (0, 96), (0, 256),
  (13, 40), (0, 3642), (0, 3642), (0, 2820), (0, 300), (0, 160), (0, 9), (0, 8), (1, 330), (2, 330), (0, 100), (0, 100), (0, 100), (0, 13), (0, 28), (0, 8), (0, 5), (0, 5), (8, 8)]
def x_sk (a : Nat) : Nat := (x_SL.getD a (0, 0)).1
def x_sn (a : Nat) : Nat := (x_SL.getD a (0, 0)).2
/-- a class's fields: 0 int, 1 long, 2 a reference, 3 boolean, 4 a reference that is kept among the numbers (-1 null) -/
def x_FL : List (List Nat) := [[2, 2, 0, 0, 2, 2, 2, 2, 0, 0], [2, 2, 4, 0, 2, 2, 2, 2, 2, 2, 2, 0], [2, 0, 2], [2, 2, 0, 0, 0, 0, 0, 0], [2, 0], [2, 0, 2, 2, 2, 0], [2, 0, 2, 2, 2, 0, 0], [2, 2, 2, 2, 2, 2, 2, 0, 0],
  [2, 2, 2, 2, 0, 0, 0, 0, 0, 0, 0, 1, 0, 0, 0, 2, 2, 0, 0, 0, 3, 3, 3, 0, 0, 2, 0, 2, 2, 0, 2, 2, 2, 2, 3, 0, 2, 2, 2, 2]]
def x_ft (ci j : Nat) : Nat := (x_FL.getD ci []).getD j 0
def x_lng (a : Nat) (i : Int) : Bool := x_sk a == 1 || (Nat.ble 5 (x_sk a) && x_ft (x_sk a - 5) i.toNat == 1)
/-- every number fits; the one reference that is kept among the numbers is a cell that lasts -/
def x_okM (M : xM) : Prop := (∀ (a : Nat) (i : Int), if x_lng a i = true then inL (M a i) else inR (M a i)) ∧ M 15 2 < 82
def x_dec (z : Int) : Option Nat := if z < 0 then none else some z.toNat
def x_enc (o : Option Nat) : Int := match o with
  | none => -1
  | some k => (k : Int)
theorem x_dec_enc (o : Option Nat) : x_dec (x_enc o) = o := by
  cases o with
  | none => rfl
  | some k =>
    show (if (k : Int) < 0 then none else some (k : Int).toNat) = some k
    rw [if_neg (by omega), Int.toNat_natCast]
def x_fv (ad : Nat → Nat) (P : xP) (M : xM) (a ci j : Nat) : Value := if x_ft ci j = 2 then va_rf ((P a j).map ad) else if x_ft ci j = 4 then va_rf ((x_dec (M a j)).map ad) else if x_ft ci j = 1 then .long (Int64.ofInt (M a j)) else .int (Int32.ofInt (M a j))
def x_ce (cA : Nat → ClassId) (ad : Nat → Nat) (P : xP) (M : xM) (a : Nat) : va_E :=
  if x_sk a = 0 then .inl (cA 0, x_sn a, .inl (fun j : Nat => Int32.ofInt (M a j)))
  else if x_sk a = 1 then .inl (cA 1, x_sn a, .inr (.inl (fun j : Nat => Int64.ofInt (M a j))))
  else if x_sk a = 2 then .inl (cA 2, x_sn a, .inl (fun j : Nat => Int32.ofInt (M a j)))
  else if x_sk a = 3 then .inl (cA 3, x_sn a, .inr (.inr (.inr (.inr (fun j : Nat => (P a j).map ad)))))
  else if x_sk a = 4 then .inl (cA 4, x_sn a, .inr (.inr (.inr (.inr (fun j : Nat => (P a j).map ad)))))
  else .inr (x_sk a - 5, (List.range (x_sn a)).map (x_fv ad P M a (x_sk a - 5)))
def x_cw (G : xG) (h : xH) : va_W := (List.range h.1).map fun a => (x_ad G a, x_ce G.2.1 (x_ad G) h.2.1 h.2.2 a)
/-- the heap holds the state; with 'some g' its size is known too (g cells left behind) -/
def x_hI (G : xG) (g : Option Nat) (h : xH) (H : Heap) : Prop := (∀ g0, g = some g0 → G.2.2.2.1 = g0 ∧ H.size = x_ad G h.1) ∧ h.1 < 1000 ∧ va_P G.1 vwCl (x_cw G h) H
def x_tys (G : xG) : List (ClassId × FieldType) := [(G.2.1 0, .int), (G.2.1 1, .long), (G.2.1 2, .boolean), (G.2.1 3, .object "VaneCourt$Text"), (G.2.1 4, .array .int)]
def x_TBL : List Cond := lw_tbl.filter goodWord
theorem x_TBL_in {w : Cond} (h : w ∈ lw_tbl) (hg : goodWord w = true) : w ∈ x_TBL := List.mem_filter.mpr ⟨h, hg⟩
def x_ws (Y : xY) : List Cond := Cond.code Y.1 Y.2.1 Y.2.2.1 Y.2.2.2 :: x_TBL
theorem x_good {Y Y' : xY} (h : Cond.code Y'.1 Y'.2.1 Y'.2.2.1 Y'.2.2.2 ∈ x_TBL) : GoodIn (x_ws Y) (x_ws Y') := by
  intro w hw
  have h1 : w ∈ x_TBL := by
    rcases List.mem_cons.mp hw with rfl | h2
    · exact h
    · exact h2
  exact ⟨List.mem_cons_of_mem _ h1, good_of_word (List.mem_filter.mp h1).2⟩
theorem x_tr_cat (ad : Nat → Nat) (v : xV) : (x_tr ad v).category = if x_isJ v = true then 2 else 1 := by
  rcases v with z | z | o
  · rfl
  · rfl
  · cases o <;> rfl
theorem x_inR {z : Int} (h : inR z) : (Int32.ofInt z).toInt = z := Int32.toInt_ofInt_of_le (by have := h.1; omega) (by have := h.2; omega)
theorem x_inL {z : Int} (h : inL z) : (Int64.ofInt z).toInt = z := Int64.toInt_ofInt_of_le (by have := h.1; omega) (by have := h.2; omega)
theorem x_inR_of (v : Int32) : inR v.toInt := by
  have h1 := v.toInt_lt
  have h2 := v.le_toInt
  constructor <;> omega
theorem x_inL_of (v : Int64) : inL v.toInt := by
  have h1 := v.toInt_lt
  have h2 := v.le_toInt
  constructor <;> omega
theorem x_lt {a b : Int} (ha : inR a) (hb : inR b) : Int32.ofInt a < Int32.ofInt b ↔ a < b := by rw [Int32.lt_iff_toInt_lt, x_inR ha, x_inR hb]
theorem x_le {a b : Int} (ha : inR a) (hb : inR b) : Int32.ofInt a ≤ Int32.ofInt b ↔ a ≤ b := by rw [Int32.le_iff_toInt_le, x_inR ha, x_inR hb]
theorem x_eq {a b : Int} (ha : inR a) (hb : inR b) : Int32.ofInt a = Int32.ofInt b ↔ a = b := by rw [← Int32.toInt_inj, x_inR ha, x_inR hb]
theorem x_eqL {a b : Int} (ha : inL a) (hb : inL b) : Int64.ofInt a = Int64.ofInt b ↔ a = b := by rw [← Int64.toInt_inj, x_inL ha, x_inL hb]
theorem x_clamp {a : Int} (ha : inR a) : (Int32.ofInt a).toNatClampNeg = a.toNat := by
  show (Int32.ofInt a).toInt.toNat = a.toNat
  rw [x_inR ha]
theorem x_in {i : Int} {n : Nat} (hi : inR i) (h0 : 0 ≤ i) (h1 : i < n) : vp_in (Int32.ofInt i) n := by
  intro h
  rcases h with h | h
  · have h2 : (Int32.ofInt i).toInt < (0 : Int32).toInt := Int32.lt_iff_toInt_lt.mp h
    rw [x_inR hi] at h2
    have h3 : (0 : Int32).toInt = 0 := rfl
    omega
  · rw [x_clamp hi] at h
    omega
theorem x_ad_inj {G : xG} {a b : Nat} (ha : a < 1000) (hb : b < 1000) (h : x_ad G a = x_ad G b) : a = b := by
  unfold x_ad at h
  rw [if_pos ha, if_pos hb] at h
  by_cases h1 : a < 82 <;> by_cases h2 : b < 82
  · rw [if_pos h1, if_pos h2] at h; omega
  · rw [if_pos h1, if_neg h2] at h; omega
  · rw [if_neg h1, if_pos h2] at h; omega
  · rw [if_neg h1, if_neg h2] at h; omega
theorem x_ad_A {G : xG} {a : Nat} (ha : a < 1000) : x_A G (x_ad G a) := by
  unfold x_A x_ad
  rw [if_pos ha]
  omega
theorem x_cw_get {G : xG} {h : xH} {a : Nat} (ha : a < h.1) : (x_cw G h)[a]? = some (x_ad G a, x_ce G.2.1 (x_ad G) h.2.1 h.2.2 a) := by
  unfold x_cw
  rw [List.getElem?_map, List.getElem?_range ha]
  rfl
theorem x_cw_inv {G : xG} {h : xH} {k : Nat} {q : Nat × va_E} (hk : (x_cw G h)[k]? = some q) : k < h.1 ∧ q = (x_ad G k, x_ce G.2.1 (x_ad G) h.2.1 h.2.2 k) := by
  unfold x_cw at hk
  rw [List.getElem?_map] at hk
  by_cases hl : k < h.1
  · rw [List.getElem?_range hl] at hk
    exact ⟨hl, (Option.some.inj hk).symm⟩
  · rw [List.getElem?_eq_none (by rw [List.length_range]; omega)] at hk
    cases hk
theorem x_D {G : xG} {h : xH} (hn : h.1 < 1000) : va_D (x_A G) (x_cw G h) := by
  refine ⟨fun i j p q hi hj hpq => ?_, fun k q hk => ?_⟩
  · obtain ⟨h1, rfl⟩ := x_cw_inv hi
    obtain ⟨h2, rfl⟩ := x_cw_inv hj
    exact x_ad_inj (by omega) (by omega) hpq
  · obtain ⟨h1, rfl⟩ := x_cw_inv hk
    exact x_ad_A (by omega)
/-- one cell set anew: the world of what differs from the old there alone -/
theorem x_cw_set {G : xG} {n : Nat} {P P' : xP} {M M' : xM} {a : Nat} {e : va_E} (he : x_ce G.2.1 (x_ad G) P' M' a = e) (ho : ∀ b, b ≠ a → x_ce G.2.1 (x_ad G) P' M' b = x_ce G.2.1 (x_ad G) P M b) : (x_cw G (n, P, M)).set a (x_ad G a, e) = x_cw G (n, P', M') := by
  apply List.ext_getElem?
  intro k
  by_cases hk : k < n
  · by_cases hka : k = a
    · subst hka
      rw [List.getElem?_set_self (by simp [x_cw]; exact hk), x_cw_get (h := (n, P', M')) hk, he]
    · rw [List.getElem?_set_ne (fun z => hka z.symm), x_cw_get (h := (n, P, M)) hk, x_cw_get (h := (n, P', M')) hk, ho k hka]
  · rw [List.getElem?_eq_none (by simp [x_cw]; omega), List.getElem?_eq_none (by simp [x_cw]; omega)]
theorem x_ce_ne {cA : Nat → ClassId} {ad : Nat → Nat} {P P' : xP} {M M' : xM} {b : Nat} (hP : ∀ j, P' b j = P b j) (hM : ∀ j, M' b j = M b j) : x_ce cA ad P' M' b = x_ce cA ad P M b := by
  have h1 : P' b = P b := funext hP
  have h2 : M' b = M b := funext hM
  have h3 : x_fv ad P' M' b (x_sk b - 5) = x_fv ad P M b (x_sk b - 5) := by
    funext j
    unfold x_fv
    rw [h1, h2]
  unfold x_ce
  rw [h1, h2, h3]
theorem x_upd_ne {M : xM} {a b : Nat} {i v : Int} (h : b ≠ a) (j : Int) : x_upd M a i v b j = M b j := if_neg (fun z => h z.1)
theorem x_updP_ne {P : xP} {a b : Nat} {i : Int} {v : Option Nat} (h : b ≠ a) (j : Int) : x_updP P a i v b j = P b j := if_neg (fun z => h z.1)
/-- what the kinds of objects are long -/
theorem x_shape : ∀ a, 5 ≤ x_sk a → a < 83 ∧ x_sk a - 5 < 9 ∧ (vwCl.getD (x_sk a - 5) ("", TX0, 0)).2.2 = x_sn a := by
  intro a h
  by_cases ha : a < 83
  · have key : ∀ a, a < 83 → 5 ≤ x_sk a → x_sk a - 5 < 9 ∧ (vwCl.getD (x_sk a - 5) ("", TX0, 0)).2.2 = x_sn a := by decide +kernel
    exact ⟨ha, key a ha h⟩
  · exfalso
    have h2 : x_sk a = 0 := by
      unfold x_sk
      rw [List.getD_eq_getElem?_getD, List.getElem?_eq_none (by show 83 ≤ a; omega)]
      rfl
    omega
