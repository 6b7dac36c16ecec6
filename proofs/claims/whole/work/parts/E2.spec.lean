/-! reading: what a law's words come to. K j, V j: kind and worth of token j; J: the end -/
def numR (a b : Int) : Prop := (b < 10000 ∧ a = b) ∨ (b = 10000 ∧ 10000 ≤ a)
theorem rv_nv (f : Int → Int) : ∀ (m : Nat) (p a b : Int), (∀ j, p ≤ j → j < p + m → isDg (f j)) → numR a b → numR (rv f m p a) (nv f m p b)
  | 0, _, _, _, _, h => h
  | m + 1, p, a, b, hd, h => by
    have q := hd p (by omega) (by omega)
    refine rv_nv f m (p + 1) _ _ (fun j j0 j1 => hd j (by omega) (by omega)) ?_
    unfold numR at *
    by_cases h1 : a ≤ 99999
    · rw [if_pos h1]
      split <;> omega
    · rw [if_neg h1]
      split <;> omega
theorem tk_num {f : Int → Int} {L s : Int} {M : xM} (hs : s ≤ L) (ht : tkR f L M s) (h : kd f L s = 72) : numR (M 64 10) (vl f L s) := by
  have k1 := (tk_kind ht).2.1.mpr h
  obtain ⟨_, _, a, b, c, e⟩ := ht
  by_cases h1 : L ≤ s
  · rw [a h1] at k1; omega
  by_cases h2 : isLt (f s)
  · rw [(b h1 h2).1] at k1; omega
  by_cases h3 : isDg (f s)
  · have rg := rE_rg (q := dgB) (f := f) (L := L) (p := s) hs
    rw [(c h1 h2 h3).2]
    unfold vl
    rw [if_pos ⟨h1, h2, h3⟩]
    exact rv_nv f _ s 0 0 (fun j j0 j1 => dgB_t.mp (rg.2.1 j j0 (by omega))) (Or.inl ⟨by decide, rfl⟩)
  · have := (tk_kind (M := M) (f := f) (L := L) (s := s) ⟨by assumption, by assumption, a, b, c, e⟩).2.1.mp k1
    unfold kd at this
    rw [if_neg h1, if_neg h2, if_neg h3] at this
    exfalso
    revert this
    split
    · intro z; omega
    · split
      · intro z; omega
      · split
        · rename_i q; intro z; omega
        · intro z; omega
abbrev sR : Type := Int × Nat × List (Int × Int)
def sq (r : sR) (k : Nat → sR) : sR := if r.1 = 0 then ((k r.2.1).1, (k r.2.1).2.1, r.2.2 ++ (k r.2.1).2.2) else r
def em (r : sR) (e : Int × Int) : sR := if r.1 = 0 then (0, r.2.1, r.2.2 ++ [e]) else r
abbrev cmpK (k : Int) : Prop := k = 60 ∨ k = 62 ∨ k = 61 ∨ k = 35 ∨ k = 70 ∨ k = 71
/-- may a law of kind κ ask name v? -/
abbrev ofL (κ v : Int) : Prop := v < 3 ∨ (v = 3 ∧ ¬ (κ < 4 ∨ κ = 7)) ∨ ((4 ≤ v ∧ v ≤ 6) ∧ (κ < 4 ∨ κ = 7)) ∨ (v = 7 ∧ κ = 7)
/-- modes: 0 either, 1 its loop, 2 both, 3 its loop, 4 ask, 5 sum, 6 its loop, 7 product, 8 its loop, 9 one, 10 + p: most, behind p parts -/
def sp (K V : Nat → Int) (κ : Int) : Nat → Nat → Nat → Nat → sR
  | 0, _, _, j => (-1, j, [])
  | f + 1, mo, dp, j =>
    if mo = 0 then sq (sp K V κ f 2 dp j) (fun j => sp K V κ f 1 dp j)
    else if mo = 1 then (if K j = 21 then sq (em (sp K V κ f 2 dp (j + 1)) (21, 0)) (fun j => sp K V κ f 1 dp j) else (0, j, []))
    else if mo = 2 then sq (sp K V κ f 4 dp j) (fun j => sp K V κ f 3 dp j)
    else if mo = 3 then (if K j = 22 then sq (em (sp K V κ f 4 dp (j + 1)) (22, 0)) (fun j => sp K V κ f 3 dp j) else (0, j, []))
    else if mo = 4 then
      (if K j = 23 then (if 8 ≤ dp then (3, j, []) else em (sp K V κ f 4 (dp + 1) (j + 1)) (23, 0))
      else if K j = 25 then (if 8 ≤ dp then (3, j, []) else if K (j + 1) = 40 then sq (sp K V κ f 0 (dp + 1) (j + 2)) (fun j => sp K V κ f 11 (dp + 1) j) else (1, j + 1, []))
      else if K j = 24 then (if 4 ≤ κ then (5, j, []) else if K (j + 1) = 72 then (if 7 < V (j + 1) then (2, j + 1, []) else (0, j + 2, [(24, V (j + 1))])) else (1, j + 1, []))
      else sq (sp K V κ f 5 dp j) (fun j => if cmpK (K j) then em (sp K V κ f 5 dp (j + 1)) (K j, 0) else (1, j, [])))
    else if mo = 5 then sq (sp K V κ f 7 dp j) (fun j => sp K V κ f 6 dp j)
    else if mo = 6 then (if K j = 43 ∨ K j = 45 then sq (em (sp K V κ f 7 dp (j + 1)) (K j, 0)) (fun j => sp K V κ f 6 dp j) else (0, j, []))
    else if mo = 7 then sq (sp K V κ f 9 dp j) (fun j => sp K V κ f 8 dp j)
    else if mo = 8 then (if K j = 42 ∨ K j = 47 then sq (em (sp K V κ f 9 dp (j + 1)) (K j, 0)) (fun j => sp K V κ f 8 dp j) else (0, j, []))
    else if mo = 9 then
      (if K j = 40 then (if 8 ≤ dp then (3, j, []) else sq (sp K V κ f 5 (dp + 1) (j + 1)) (fun j => if K j = 41 then (0, j + 1, []) else (1, j, [])))
      else if K j = 45 then (if 8 ≤ dp then (3, j, []) else em (sp K V κ f 9 (dp + 1) (j + 1)) (76, 0))
      else if 11 ≤ K j ∧ K j ≤ 18 then (if ofL κ (K j - 11) then (0, j + 1, [(75, K j - 11)]) else (5, j, []))
      else if K j = 72 then (if 9999 < V j then (2, j, []) else (0, j + 1, [(72, V j)])) else (1, j, []))
    else if K j = 44 then (if 16 ≤ mo then (7, j, []) else sq (sp K V κ f 0 dp (j + 1)) (fun j => sp K V κ f (mo + 1) dp j))
    else if K j = 41 then (0, j + 1, [(25, (mo : Int) - 10)]) else (1, j, [])
/-- how much fuel a mode asks at one token -/
def rkM (mo : Nat) : Nat := if mo = 0 then 6 else if mo = 2 then 5 else if mo = 4 then 4 else if mo = 5 then 3 else if mo = 7 then 2 else 1
theorem sq_f {r : sR} {k : Nat → sR} (h1 : r.1 ≠ -1) (h2 : r.1 = 0 → (k r.2.1).1 ≠ -1) : (sq r k).1 ≠ -1 := by
  unfold sq
  by_cases h : r.1 = 0
  · rw [if_pos h]; exact h2 h
  · rw [if_neg h]; exact h1
theorem em_f {r : sR} {e : Int × Int} (h1 : r.1 ≠ -1) : (em r e).1 ≠ -1 := by
  unfold em
  by_cases h : r.1 = 0
  · rw [if_pos h]; show (0 : Int) ≠ -1; decide
  · rw [if_neg h]; exact h1
theorem sq_0 {r : sR} {k : Nat → sR} (h : (sq r k).1 = 0) : r.1 = 0 ∧ (k r.2.1).1 = 0 ∧ (sq r k).2.1 = (k r.2.1).2.1 ∧ (sq r k).2.2 = r.2.2 ++ (k r.2.1).2.2 := by
  unfold sq at *
  by_cases q : r.1 = 0
  · rw [if_pos q] at h ⊢; exact ⟨q, h, rfl, rfl⟩
  · rw [if_neg q] at h; exact absurd h q
theorem em_0 {r : sR} {e : Int × Int} (h : (em r e).1 = 0) : r.1 = 0 ∧ (em r e).2.1 = r.2.1 ∧ (em r e).2.2 = r.2.2 ++ [e] := by
  unfold em at *
  by_cases q : r.1 = 0
  · rw [if_pos q]; exact ⟨q, rfl, rfl⟩
  · rw [if_neg q] at h; exact absurd h q
