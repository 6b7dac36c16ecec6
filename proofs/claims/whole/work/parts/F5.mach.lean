/-! the reference's reading of a law's words, as a machine. Its pile and counts: the last laid first -/
abbrev pS : Type := Bool × Nat × List Int × List Int × List (Int × Int) × Bool
def rkO (o : Int) : Int := if 40 ≤ o then 0 else if 20 ≤ o then 24 - o else if 10 ≤ o then 5 else if o = 4 then 8 else if 7 ≤ o then 7 else 6
def enO (o : Int) : Int := if o = 4 then 76 else if o = 5 then 43 else if o = 6 then 45 else if o = 7 then 42 else if o = 8 then 47 else if o = 10 then 60 else if o = 11 then 70 else if o = 12 then 62 else if o = 13 then 71 else if o = 14 then 61 else if o = 15 then 35 else if o = 20 then 23 else if o = 21 then 22 else if o = 22 then 21 else 20
def stl (m : Int) : List Int → List (Int × Int) → List Int × List (Int × Int)
  | [], l => ([], l)
  | o :: r, l => if m ≤ rkO o then stl m r (if o = 16 then l else l ++ [(enO o, 0)]) else (o :: r, l)
def opn : List Int → Int
  | [] => -1
  | o :: r => if 40 ≤ o then o else opn r
def cmd : List Int → Bool
  | [] => false
  | o :: r => if 5 < rkO o then cmd r else decide (rkO o = 5)
abbrev isOp (o : Int) : Prop := o = 4 ∨ o = 20 ∨ o = 40 ∨ o = 41
def ops : List Int → Nat
  | [] => 0
  | o :: r => (if isOp o then 1 else 0) + ops r
def ltT (m : Int) : List Int → Prop
  | [] => True
  | o :: _ => rkO o < m
abbrev hre (tr : Int) (p : List Int) : Prop := tr ≠ 0 ∧ opn p ≠ 40
def ahT : List Int → Prop
  | [] => True
  | o :: _ => o = 41 ∨ (1 ≤ rkO o ∧ rkO o ≤ 4)
def ahd (tr : Int) (p : List Int) : Prop := hre tr p ∧ ahT p
abbrev nar (k : Int) : Prop := k ≠ 42 ∧ k ≠ 47 ∧ k ≠ 43 ∧ k ≠ 45
abbrev cmO (k o : Int) : Prop := (k = 60 ∧ o = 10) ∨ (k = 70 ∧ o = 11) ∨ (k = 62 ∧ o = 12) ∨ (k = 71 ∧ o = 13) ∨ (k = 61 ∧ o = 14) ∨ (k = 35 ∧ o = 15)
abbrev arO (k o : Int) : Prop := (k = 43 ∧ o = 5) ∨ (k = 45 ∧ o = 6) ∨ (k = 42 ∧ o = 7) ∨ (k = 47 ∧ o = 8)
def btw (k tr : Int) (u : Bool) (p : List Int) (o : Int) : Prop := (p.head? ≠ some 16 ∧ arO k o) ∨ (hre tr p ∧ cmd p = false ∧ nar k ∧ cmO k o) ∨ (hre tr p ∧ cmd p = true ∧ ((k = 22 ∧ o = 21) ∨ (k = 21 ∧ o = 22) ∨ (k = 20 ∧ o = 23 ∧ opn p = -1 ∧ u = false)))
def nob (k tr : Int) (u : Bool) (p : List Int) : Prop := (p.head? = some 16 ∨ nar k) ∧ (hre tr p → (cmd p = false → ¬ cmpK k) ∧ (cmd p = true → k ≠ 22 ∧ k ≠ 21 ∧ (k = 20 → opn p ≠ -1 ∨ u = true)))
def bgF (K V : Nat → Int) (κ tr : Int) (p : List Int) (j : Nat) (e : Int) (i : Nat) : Prop :=
  (K j = 72 ∧ 9999 < V j ∧ e = 2 ∧ i = j) ∨ ((11 ≤ K j ∧ K j ≤ 18) ∧ ¬ ofL κ (K j - 11) ∧ e = 5 ∧ i = j) ∨
  (8 ≤ ops p ∧ (K j = 40 ∨ K j = 45 ∨ (ahd tr p ∧ (K j = 23 ∨ K j = 25))) ∧ e = 3 ∧ i = j) ∨
  (ops p < 8 ∧ ahd tr p ∧ K j = 25 ∧ K (j + 1) ≠ 40 ∧ e = 1 ∧ i = j + 1) ∨
  (ahd tr p ∧ K j = 24 ∧ 4 ≤ κ ∧ e = 5 ∧ i = j) ∨ (ahd tr p ∧ K j = 24 ∧ κ < 4 ∧ K (j + 1) ≠ 72 ∧ e = 1 ∧ i = j + 1) ∨
  (ahd tr p ∧ K j = 24 ∧ κ < 4 ∧ K (j + 1) = 72 ∧ 7 < V (j + 1) ∧ e = 2 ∧ i = j + 1) ∨
  (K j ≠ 72 ∧ ¬ (11 ≤ K j ∧ K j ≤ 18) ∧ K j ≠ 40 ∧ K j ≠ 45 ∧ (K j = 23 ∨ K j = 24 ∨ K j = 25 → ¬ ahd tr p) ∧ e = 1 ∧ i = j)
/-- what the machine does: if X holds behind a step, it holds ahead of it; Z: a fault at a token, Z0: the end at a token -/
def RLs (K V : Nat → Int) (κ tr : Int) (X : pS → Prop) (Z : Int → Nat → Prop) (Z0 : Nat → List (Int × Int) → Prop) : Prop :=
  (∀ j p c l u e v, (K j = 72 ∧ V j ≤ 9999 ∧ e = 72 ∧ v = V j) ∨ ((11 ≤ K j ∧ K j ≤ 18) ∧ ofL κ (K j - 11) ∧ e = 75 ∧ v = K j - 11) → X (true, j + 1, (stl 8 p (l ++ [(e, v)])).1, c, (stl 8 p (l ++ [(e, v)])).2, u) → X (false, j, p, c, l, u)) ∧
  (∀ j p c l u e i, bgF K V κ tr p j e i → Z e i → X (false, j, p, c, l, u)) ∧
  (∀ j p c l u o, ops p < 8 → (K j = 40 ∧ o = 40) ∨ (K j = 45 ∧ o = 4) ∨ (K j = 23 ∧ ahd tr p ∧ o = 20) → X (false, j + 1, o :: p, c, l, u) → X (false, j, p, c, l, u)) ∧
  (∀ j p c l u, ops p < 8 → ahd tr p → K j = 25 → K (j + 1) = 40 → X (false, j + 2, 41 :: p, 1 :: c, l, u) → X (false, j, p, c, l, u)) ∧
  (∀ j p c l u, ahd tr p → K j = 24 → κ < 4 → K (j + 1) = 72 → V (j + 1) ≤ 7 → X (true, j + 2, 16 :: p, c, l ++ [(24, V (j + 1))], u) → X (false, j, p, c, l, u)) ∧
  (∀ j p c l u o, btw (K j) tr u p o → X (false, j + 1, o :: (stl (rkO o) p l).1, c, (stl (rkO o) p l).2, u || decide (o = 23)) → X (true, j, p, c, l, u)) ∧
  (∀ j p c l u q, nob (K j) tr u p → opn p = 41 → cmd p = true → K j = 44 → q < 6 → X (false, j + 1, (stl 1 p l).1, (q + 1) :: c, (stl 1 p l).2, u) → X (true, j, p, q :: c, l, u)) ∧
  (∀ j p c l u, nob (K j) tr u p → opn p = 41 → cmd p = true → K j = 44 → Z 7 j → X (true, j, p, 6 :: c, l, u)) ∧
  (∀ j p c l u q p' l', nob (K j) tr u p → opn p = 41 → cmd p = true → K j = 41 → stl 1 p l = (41 :: p', l') → X (true, j + 1, 16 :: p', c, l' ++ [(25, q)], u) → X (true, j, p, q :: c, l, u)) ∧
  (∀ j p c l u p' l', nob (K j) tr u p → opn p = 40 → K j = 41 → stl 1 p l = (40 :: p', l') → X (true, j + 1, (stl 8 p' l').1, c, (stl 8 p' l').2, u) → X (true, j, p, c, l, u)) ∧
  (∀ j p c l u, nob (K j) tr u p → (hre tr p ∧ cmd p = false) ∨ (opn p = 41 ∧ K j ≠ 44 ∧ K j ≠ 41) ∨ (opn p = 40 ∧ K j ≠ 41) → Z 1 j → X (true, j, p, c, l, u)) ∧
  (∀ j p c l u, nob (K j) tr u p → opn p = -1 → (tr ≠ 0 → cmd p = true) → Z0 j (stl 1 p l).2 → X (true, j, p, c, l, u))
/-- a reading r, told with H where it goes well, gives A -/
def Go (Z : Int → Nat → Prop) (r : sR) (H : Nat → List (Int × Int) → Prop) (A : Prop) : Prop := r.1 ≠ -1 → (r.1 = 0 → H r.2.1 r.2.2) → (r.1 ≠ 0 → Z r.1 r.2.1) → A
section GoS
variable {Z : Int → Nat → Prop} {r : sR} {k : Nat → sR} {H H1 : Nat → List (Int × Int) → Prop} {A : Prop}
theorem Go_sq (g1 : Go Z r H1 A) (g2 : Go Z (k r.2.1) (fun j cs => H j (r.2.2 ++ cs)) (H1 r.2.1 r.2.2)) : Go Z (sq r k) H A := by
  intro hm h0 hz
  by_cases q : r.1 = 0
  · have e : sq r k = ((k r.2.1).1, (k r.2.1).2.1, r.2.2 ++ (k r.2.1).2.2) := if_pos q
    rw [e] at hm h0 hz
    exact g1 (by rw [q]; decide) (fun _ => g2 hm h0 hz) (fun n => absurd q n)
  · have e : sq r k = r := if_neg q
    rw [e] at hm h0 hz
    exact g1 hm (fun n => absurd n q) hz
theorem Go_em {e : Int × Int} (g : Go Z r (fun j cs => H j (cs ++ [e])) A) : Go Z (em r e) H A := by
  intro hm h0 hz
  by_cases q : r.1 = 0
  · have e' : em r e = (0, r.2.1, r.2.2 ++ [e]) := if_pos q
    rw [e'] at hm h0 hz
    exact g (by rw [q]; decide) (fun _ => h0 rfl) (fun n => absurd q n)
  · have e' : em r e = r := if_neg q
    rw [e'] at hm h0 hz
    exact g hm (fun n => absurd n q) hz
theorem Go_bad {e : Int} {j : Nat} {l : List (Int × Int)} (he : e ≠ 0) (h : Z e j → A) : Go Z (e, j, l) H A := fun _ _ hz => h (hz he)
theorem Go_ok {j : Nat} {l : List (Int × Int)} (h : H j l → A) : Go Z (0, j, l) H A := fun _ h0 _ => h (h0 rfl)
theorem Go_mono (g : Go Z r H A) (h : ∀ j cs, H1 j cs → H j cs) : Go Z r H1 A := fun hm h0 hz => g hm (fun q => h _ _ (h0 q)) hz
theorem Go_to {B : Prop} (g : Go Z r H B) (h : B → A) : Go Z r H A := fun hm h0 hz => h (g hm h0 hz)
end GoS
theorem stl_go {m o : Int} {r : List Int} {l : List (Int × Int)} (h : m ≤ rkO o) : stl m (o :: r) l = stl m r (if o = 16 then l else l ++ [(enO o, 0)]) := if_pos h
theorem stl_no {m o : Int} {r : List Int} {l : List (Int × Int)} (h : ¬ m ≤ rkO o) : stl m (o :: r) l = (o :: r, l) := if_neg h
theorem stl_lt {m : Int} : ∀ {p : List Int} {l : List (Int × Int)}, ltT m p → stl m p l = (p, l)
  | [], _, _ => rfl
  | o :: r, l, h => stl_no (by have : rkO o < m := h; omega)
theorem ltT_le {m m' : Int} (hm : m ≤ m') : ∀ {p : List Int}, ltT m p → ltT m' p
  | [], _ => trivial
  | o :: _, h => by
    have : rkO o < m := h
    show rkO o < m'
    omega
theorem ahd_lt {tr : Int} {p : List Int} (h : ahd tr p) : ltT 5 p := by
  cases p with
  | nil => trivial
  | cons o r =>
    have h2 : o = 41 ∨ (1 ≤ rkO o ∧ rkO o ≤ 4) := h.2
    show rkO o < 5
    rcases h2 with e | e
    · subst e; decide
    · omega
theorem ahd_cmd {tr : Int} {p : List Int} (h : ahd tr p) : cmd p = false := by
  cases p with
  | nil => rfl
  | cons o r =>
    have h2 : rkO o < 5 := ahd_lt h
    show (if 5 < rkO o then cmd r else decide (rkO o = 5)) = false
    rw [if_neg (by omega)]
    exact decide_eq_false (by omega)
theorem ahd_16 {tr : Int} {p : List Int} (h : ahd tr p) : p.head? ≠ some 16 := by
  cases p with
  | nil => exact fun z => by cases z
  | cons o r =>
    intro z
    have e : o = 16 := Option.some.inj z
    have h2 : rkO o < 5 := ahd_lt h
    subst e
    exact absurd h2 (by decide)
theorem opn_cons {o : Int} {p : List Int} (h : ¬ 40 ≤ o) : opn (o :: p) = opn p := if_neg h
theorem cmd_hi {o : Int} {p : List Int} (h : 5 < rkO o) : cmd (o :: p) = cmd p := if_pos h
theorem cmd_5 {o : Int} {p : List Int} (h : rkO o = 5) : cmd (o :: p) = true := by
  show (if 5 < rkO o then cmd p else decide (rkO o = 5)) = true
  rw [if_neg (by omega)]
  exact decide_eq_true h
theorem ops_no {o : Int} {p : List Int} (h : ¬ isOp o) : ops (o :: p) = ops p := by
  show (if isOp o then 1 else 0) + ops p = ops p
  rw [if_neg h, Nat.zero_add]
theorem ops_yes {o : Int} {p : List Int} (h : isOp o) : ops (o :: p) = ops p + 1 := by
  show (if isOp o then 1 else 0) + ops p = ops p + 1
  rw [if_pos h, Nat.add_comm]
/-- what waits above p, once settled down to rank m or lower, is what p and l are -/
def aS (m : Int) (p1 : List Int) (l1 : List (Int × Int)) (p : List Int) (l : List (Int × Int)) : Prop := (∀ m', m' ≤ m → stl m' p1 l1 = stl m' p l) ∧ opn p1 = opn p
def sS (m : Int) (p1 : List Int) (l1 : List (Int × Int)) (p : List Int) (l : List (Int × Int)) : Prop := aS m p1 l1 p l ∧ cmd p1 = cmd p ∧ p1.head? ≠ some 16
def kS (m k : Int) (p1 : List Int) (l1 : List (Int × Int)) (p : List Int) (l : List (Int × Int)) : Prop := aS m p1 l1 p l ∧ cmd p1 = true ∧ (p1.head? = some 16 ∨ nar k)
theorem aS_refl (m : Int) (p : List Int) (l : List (Int × Int)) : aS m p l p l := ⟨fun _ _ => rfl, rfl⟩
theorem aS_pop {m o : Int} {p1 p : List Int} {l1 l : List (Int × Int)} {m' : Int} (h : aS m p1 l1 (o :: p) l) (h40 : ¬ 40 ≤ o) (h16 : o ≠ 16) (hm : m' ≤ rkO o) (hm2 : m' ≤ m) : aS m' p1 l1 p (l ++ [(enO o, 0)]) := by
  refine ⟨fun q hq => ?_, by rw [h.2, opn_cons h40]⟩
  rw [h.1 q (by omega), stl_go (by omega), if_neg h16]
theorem sS_pop {m o : Int} {p1 p : List Int} {l1 l : List (Int × Int)} {m' : Int} (h : sS m p1 l1 (o :: p) l) (h40 : ¬ 40 ≤ o) (h16 : o ≠ 16) (h5 : 5 < rkO o) (hm : m' ≤ rkO o) (hm2 : m' ≤ m) : sS m' p1 l1 p (l ++ [(enO o, 0)]) := ⟨aS_pop h.1 h40 h16 hm hm2, by rw [h.2.1, cmd_hi h5], h.2.2⟩
theorem kS_pop {m k o : Int} {p1 p : List Int} {l1 l : List (Int × Int)} {m' : Int} (h : kS m k p1 l1 (o :: p) l) (h40 : ¬ 40 ≤ o) (h16 : o ≠ 16) (hm : m' ≤ rkO o) (hm2 : m' ≤ m) : kS m' k p1 l1 p (l ++ [(enO o, 0)]) := ⟨aS_pop h.1 h40 h16 hm hm2, h.2.1, h.2.2⟩
theorem kS_le {m m' k : Int} {p1 p : List Int} {l1 l : List (Int × Int)} (h : kS m k p1 l1 p l) (hm : m' ≤ m) : kS m' k p1 l1 p l := ⟨⟨fun q hq => h.1.1 q (by omega), h.1.2⟩, h.2⟩
theorem sS_le {m m' : Int} {p1 p : List Int} {l1 l : List (Int × Int)} (h : sS m p1 l1 p l) (hm : m' ≤ m) : sS m' p1 l1 p l := ⟨⟨fun q hq => h.1.1 q (by omega), h.1.2⟩, h.2⟩
