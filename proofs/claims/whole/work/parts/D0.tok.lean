/-! tokens of a text: as functions of its bytes f and its length L -/
abbrev isSp (c : Int) : Prop := c = 32 ∨ c = 10
abbrev isLt (c : Int) : Prop := (97 ≤ c ∧ c ≤ 122) ∨ (65 ≤ c ∧ c ≤ 90)
abbrev isDg (c : Int) : Prop := 48 ≤ c ∧ c ≤ 57
abbrev isSg (c : Int) : Prop := c = 35 ∨ (40 ≤ c ∧ c ≤ 45) ∨ c = 47 ∨ (58 ≤ c ∧ c ≤ 62)
def spB (c : Int) : Bool := decide (isSp c)
def ltB (c : Int) : Bool := decide (isLt c)
def dgB (c : Int) : Bool := decide (isDg c)
theorem spB_t {c : Int} : spB c = true ↔ isSp c := decide_eq_true_iff
theorem ltB_t {c : Int} : ltB c = true ↔ isLt c := decide_eq_true_iff
theorem dgB_t {c : Int} : dgB c = true ↔ isDg c := decide_eq_true_iff
/-- the end of a run of such bytes -/
def rn (q : Int → Bool) (f : Int → Int) (L : Int) : Nat → Int → Int
  | 0, p => p
  | m + 1, p => if p < L ∧ q (f p) = true then rn q f L m (p + 1) else p
def rE (q : Int → Bool) (f : Int → Int) (L p : Int) : Int := rn q f L (L - p).toNat p
theorem rE_stop {q : Int → Bool} {f : Int → Int} {L p : Int} (h : ¬ (p < L ∧ q (f p) = true)) : rE q f L p = p := by
  unfold rE
  cases (L - p).toNat with
  | zero => rfl
  | succ m => unfold rn; exact if_neg h
theorem rE_go {q : Int → Bool} {f : Int → Int} {L p : Int} (h : p < L) (hq : q (f p) = true) : rE q f L p = rE q f L (p + 1) := by
  unfold rE
  rw [show (L - p).toNat = (L - (p + 1)).toNat + 1 by omega]
  show (if p < L ∧ q (f p) = true then rn q f L (L - (p + 1)).toNat (p + 1) else p) = _
  rw [if_pos ⟨h, hq⟩]
theorem rE_r {q : Int → Bool} {f : Int → Int} {L : Int} : ∀ (m : Nat) (p : Int), p + m = L → (p ≤ rE q f L p ∧ rE q f L p ≤ L) ∧ (∀ j, p ≤ j → j < rE q f L p → q (f j) = true) ∧ ¬ (rE q f L p < L ∧ q (f (rE q f L p)) = true)
  | 0, p, h => by
    have e : rE q f L p = p := rE_stop (fun z => by omega)
    rw [e]
    exact ⟨by omega, fun j j0 j1 => absurd j1 (by omega), fun z => by omega⟩
  | m + 1, p, h => by
    by_cases hq : q (f p) = true
    · rw [rE_go (by omega) hq]
      obtain ⟨h1, h2, h3⟩ := rE_r (q := q) (f := f) (L := L) m (p + 1) (by omega)
      refine ⟨by omega, fun j j0 j1 => ?_, h3⟩
      by_cases jp : j = p
      · subst jp; exact hq
      · exact h2 j (by omega) j1
    · have e : rE q f L p = p := rE_stop (fun z => hq z.2)
      rw [e]
      exact ⟨by omega, fun j j0 j1 => absurd j1 (by omega), fun z => hq z.2⟩
theorem rE_rg {q : Int → Bool} {f : Int → Int} {L p : Int} (h : p ≤ L) : (p ≤ rE q f L p ∧ rE q f L p ≤ L) ∧ (∀ j, p ≤ j → j < rE q f L p → q (f j) = true) ∧ ¬ (rE q f L p < L ∧ q (f (rE q f L p)) = true) := rE_r (L - p).toNat p (by omega)
theorem rE_gt {q : Int → Bool} {f : Int → Int} {L p : Int} (h : p < L) (hq : q (f p) = true) : p < rE q f L p := by
  rw [rE_go h hq]
  have := (rE_rg (q := q) (f := f) (L := L) (p := p + 1) (by omega)).1
  omega
/-- the letters from s on -/
def ltr (f : Int → Int) : Nat → Int → List Int
  | 0, _ => []
  | m + 1, p => f p :: ltr f m (p + 1)
def wd (f : Int → Int) (s e : Int) : List Int := ltr f (e - s).toNat s
/-- a number, not above 10000 -/
def nv (f : Int → Int) : Nat → Int → Int → Int
  | 0, _, a => a
  | m + 1, p, a => nv f m (p + 1) (if a * 10 + f p - 48 ≤ 10000 then a * 10 + f p - 48 else 10000)
def wT : List (List Int) := [[99, 111, 100, 101], [118, 101, 101, 114, 115], [98, 108, 111, 119, 115], [102, 111, 103, 115], [115, 101, 110, 116, 101, 110, 99, 101], [99, 97, 115, 101], [99, 97, 108, 108], [100, 101, 108, 97, 121], [97, 112, 112, 101, 97, 108], [103, 117, 115, 116], [119, 105, 116, 104, 100, 114, 97, 119], [104, 111, 117, 114], [113, 117, 97, 114, 116, 101, 114], [102, 111, 114, 99, 101], [100, 114, 97, 119], [107, 105, 110, 100], [103, 114, 97, 118, 105, 116, 121], [104, 111, 117, 114, 115], [108, 97, 119, 115], [110, 101, 101, 100, 115], [117, 110, 108, 101, 115, 115], [111, 114], [97, 110, 100], [110, 111, 116], [102, 97, 99, 116], [109, 111, 115, 116]]
/-- which word: its place in the table, from k on -/
def wK (l : List Int) : List (List Int) → Int → Int
  | [], _ => 74
  | w :: T, k => if l = w then k else wK l T (k + 1)
theorem wT_ok : x_words.toList.map (fun ch => (ch.toNat : Int)) = wT.flatMap (fun w => w ++ [32]) := by decide +kernel
abbrev isW2 (f : Int → Int) (L s c : Int) : Prop := f s = c ∧ s + 1 < L ∧ f (s + 1) = 61
def kd (f : Int → Int) (L s : Int) : Int := if L ≤ s then 73 else if isLt (f s) then wK (wd f s (rE ltB f L s)) wT 0 else if isDg (f s) then 72 else if isW2 f L s 60 then 70 else if isW2 f L s 62 then 71 else if isSg (f s) then f s else 74
def en (f : Int → Int) (L s : Int) : Int := if L ≤ s then s else if isLt (f s) then rE ltB f L s else if isDg (f s) then rE dgB f L s else if isW2 f L s 60 ∨ isW2 f L s 62 then s + 2 else s + 1
def vl (f : Int → Int) (L s : Int) : Int := if ¬ L ≤ s ∧ ¬ isLt (f s) ∧ isDg (f s) then nv f (rE dgB f L s - s).toNat s 0 else 0
def ps (f : Int → Int) (L : Int) : Nat → Int
  | 0 => rE spB f L 0
  | j + 1 => rE spB f L (en f L (ps f L j))
theorem en_r {f : Int → Int} {L s : Int} (h : s < L) : s < en f L s ∧ en f L s ≤ L := by
  unfold en
  rw [if_neg (by omega)]
  by_cases h1 : isLt (f s)
  · rw [if_pos h1]
    exact ⟨rE_gt h (ltB_t.mpr h1), (rE_rg (by omega)).1.2⟩
  · rw [if_neg h1]
    by_cases h2 : isDg (f s)
    · rw [if_pos h2]
      exact ⟨rE_gt h (dgB_t.mpr h2), (rE_rg (by omega)).1.2⟩
    · rw [if_neg h2]
      split
      · rename_i h3
        rcases h3 with h3 | h3
        · have := h3.2.1; omega
        · have := h3.2.1; omega
      · omega
theorem ps_r {f : Int → Int} {L : Int} (h : 0 ≤ L) : ∀ j : Nat, 0 ≤ ps f L j ∧ ps f L j ≤ L
  | 0 => (rE_rg h).1
  | j + 1 => by
    have ih := ps_r (f := f) h j
    by_cases q : ps f L j < L
    · have e := en_r (f := f) q
      have := (rE_rg (q := spB) (f := f) (L := L) (p := en f L (ps f L j)) e.2).1
      show 0 ≤ rE spB f L (en f L (ps f L j)) ∧ rE spB f L (en f L (ps f L j)) ≤ L
      omega
    · have e : en f L (ps f L j) = ps f L j := by unfold en; exact if_pos (by omega)
      have := (rE_rg (q := spB) (f := f) (L := L) (p := ps f L j) ih.2).1
      show 0 ≤ rE spB f L (en f L (ps f L j)) ∧ rE spB f L (en f L (ps f L j)) ≤ L
      rw [e]
      omega
theorem ps_lt {f : Int → Int} {L : Int} (h : 0 ≤ L) {j : Nat} (hj : ps f L j < L) : ps f L j < ps f L (j + 1) := by
  have e := en_r (f := f) hj
  have := (rE_rg (q := spB) (f := f) (L := L) (p := en f L (ps f L j)) e.2).1
  show _ < rE spB f L (en f L (ps f L j))
  omega
theorem nv_r (f : Int → Int) : ∀ (m : Nat) (p a : Int), (∀ j, p ≤ j → j < p + m → isDg (f j)) → (0 ≤ a ∧ a ≤ 10000) → 0 ≤ nv f m p a ∧ nv f m p a ≤ 10000
  | 0, _, _, _, h => h
  | m + 1, p, a, hd, h => by
    have q := hd p (by omega) (by omega)
    exact nv_r f m (p + 1) _ (fun j j0 j1 => hd j (by omega) (by omega)) (by split <;> omega)
theorem wK_r (l : List Int) : ∀ (T : List (List Int)) (k : Int), 0 ≤ k → (0 ≤ wK l T k ∧ wK l T k < k + T.length) ∨ wK l T k = 74
  | [], _, _ => Or.inr rfl
  | w :: T, k, hk => by
    have e : (((w :: T).length : Nat) : Int) = (T.length : Int) + 1 := by rw [List.length_cons]; omega
    have e2 : wK l (w :: T) k = if l = w then k else wK l T (k + 1) := rfl
    rw [e2]
    by_cases q : l = w
    · rw [if_pos q, e]; omega
    · rw [if_neg q, e]
      have := wK_r l T (k + 1) (by omega)
      omega
