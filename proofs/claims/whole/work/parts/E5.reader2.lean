/-! the class's Reader: sums -/
section Reader2
variable {K V p : Nat → Int} {κ : Int} {f dp j : Nat}
theorem sp_9 : sp K V κ (f + 1) 9 dp j = (if K j = 40 then (if 8 ≤ dp then (3, j, []) else sq (sp K V κ f 5 (dp + 1) (j + 1)) (fun j => if K j = 41 then (0, j + 1, []) else (1, j, []))) else if K j = 45 then (if 8 ≤ dp then (3, j, []) else em (sp K V κ f 9 (dp + 1) (j + 1)) (76, 0)) else if 11 ≤ K j ∧ K j ≤ 18 then (if ofL κ (K j - 11) then (0, j + 1, [(75, K j - 11)]) else (5, j, [])) else if K j = 72 then (if 9999 < V j then (2, j, []) else (0, j + 1, [(72, V j)])) else (1, j, [])) := rfl
theorem sp_8 : sp K V κ (f + 1) 8 dp j = (if K j = 42 ∨ K j = 47 then sq (em (sp K V κ f 9 dp (j + 1)) (K j, 0)) (fun j => sp K V κ f 8 dp j) else (0, j, [])) := rfl
theorem sp_7 : sp K V κ (f + 1) 7 dp j = sq (sp K V κ f 9 dp j) (fun j => sp K V κ f 8 dp j) := rfl
theorem sp_6 : sp K V κ (f + 1) 6 dp j = (if K j = 43 ∨ K j = 45 then sq (em (sp K V κ f 7 dp (j + 1)) (K j, 0)) (fun j => sp K V κ f 6 dp j) else (0, j, [])) := rfl
theorem sp_5 : sp K V κ (f + 1) 5 dp j = sq (sp K V κ f 7 dp j) (fun j => sp K V κ f 6 dp j) := rfl
theorem sp_4 : sp K V κ (f + 1) 4 dp j = (if K j = 23 then (if 8 ≤ dp then (3, j, []) else em (sp K V κ f 4 (dp + 1) (j + 1)) (23, 0)) else if K j = 25 then (if 8 ≤ dp then (3, j, []) else if K (j + 1) = 40 then sq (sp K V κ f 0 (dp + 1) (j + 2)) (fun j => sp K V κ f 11 (dp + 1) j) else (1, j + 1, [])) else if K j = 24 then (if 4 ≤ κ then (5, j, []) else if K (j + 1) = 72 then (if 7 < V (j + 1) then (2, j + 1, []) else (0, j + 2, [(24, V (j + 1))])) else (1, j + 1, [])) else sq (sp K V κ f 5 dp j) (fun j => if cmpK (K j) then em (sp K V κ f 5 dp (j + 1)) (K j, 0) else (1, j, []))) := rfl
theorem sp_3 : sp K V κ (f + 1) 3 dp j = (if K j = 22 then sq (em (sp K V κ f 4 dp (j + 1)) (22, 0)) (fun j => sp K V κ f 3 dp j) else (0, j, [])) := rfl
theorem sp_2 : sp K V κ (f + 1) 2 dp j = sq (sp K V κ f 4 dp j) (fun j => sp K V κ f 3 dp j) := rfl
theorem sp_1 : sp K V κ (f + 1) 1 dp j = (if K j = 21 then sq (em (sp K V κ f 2 dp (j + 1)) (21, 0)) (fun j => sp K V κ f 1 dp j) else (0, j, [])) := rfl
theorem sp_0 : sp K V κ (f + 1) 0 dp j = sq (sp K V κ f 2 dp j) (fun j => sp K V κ f 1 dp j) := rfl
theorem sp_p {q : Nat} : sp K V κ (f + 1) (10 + q) dp j = (if K j = 44 then (if 16 ≤ 10 + q then (7, j, []) else sq (sp K V κ f 0 dp (j + 1)) (fun j => sp K V κ f (10 + q + 1) dp j)) else if K j = 41 then (0, j + 1, [(25, ((10 + q : Nat) : Int) - 10)]) else (1, j, [])) := by
  conv => lhs; unfold sp
  rw [if_neg (by omega), if_neg (by omega), if_neg (by omega), if_neg (by omega), if_neg (by omega), if_neg (by omega), if_neg (by omega), if_neg (by omega), if_neg (by omega), if_neg (by omega)]
end Reader2
/-- how a reading ends in the class -/
def rdP (t J : Nat) (K V p : Nat → Int) (κ : Int) (l : List (Int × Int)) (r : sR) (M' : xM) (z : Int) : Prop := (r.1 = 0 ∧ z = 1 ∧ cl t J K V p κ M' r.2.1 (l ++ r.2.2)) ∨ (r.1 ≠ 0 ∧ z = 0 ∧ flt t J K V p M' r.1 r.2.1)
section Reader3
variable {t J : Nat} {K V p : Nat → Int} {κ : Int} {l : List (Int × Int)} {M : xM}
theorem rdP_ok {r : sR} {z : Int} (h : rdP t J K V p κ l r M z) (hz : ¬ z = 0) : r.1 = 0 ∧ z = 1 ∧ cl t J K V p κ M r.2.1 (l ++ r.2.2) := by
  rcases h with h | h
  · exact h
  · exact absurd h.2.1 hz
theorem rdP_no {r : sR} {z : Int} (h : rdP t J K V p κ l r M z) (hz : z = 0) : r.1 ≠ 0 ∧ flt t J K V p M r.1 r.2.1 := by
  rcases h with h | h
  · omega
  · exact ⟨h.1, h.2.2⟩
theorem rdP_z {r : sR} {z : Int} (h : rdP t J K V p κ l r M z) : z = 0 ∨ z = 1 := by
  rcases h with h | h
  · exact Or.inr h.2.1
  · exact Or.inl h.2.1
theorem rdP_sq1 {r : sR} {k : Nat → sR} (h : r.1 ≠ 0) (hf : flt t J K V p M r.1 r.2.1) : rdP t J K V p κ l (sq r k) M 0 := by
  have e : sq r k = r := if_neg h
  rw [e]
  exact Or.inr ⟨h, rfl, hf⟩
theorem rdP_sq2 {r : sR} {k : Nat → sR} {z : Int} (h : r.1 = 0) (hk : rdP t J K V p κ (l ++ r.2.2) (k r.2.1) M z) : rdP t J K V p κ l (sq r k) M z := by
  have e : sq r k = ((k r.2.1).1, (k r.2.1).2.1, r.2.2 ++ (k r.2.1).2.2) := if_pos h
  rw [e]
  rcases hk with q | q
  · refine Or.inl ⟨q.1, q.2.1, ?_⟩
    have := q.2.2
    rw [List.append_assoc] at this
    exact this
  · exact Or.inr q
theorem rdP_em1 {r : sR} {e : Int × Int} (h : r.1 ≠ 0) (hf : flt t J K V p M r.1 r.2.1) : rdP t J K V p κ l (em r e) M 0 := by
  have q : em r e = r := if_neg h
  rw [q]
  exact Or.inr ⟨h, rfl, hf⟩
theorem rdP_em2 {r : sR} {e : Int × Int} (h : r.1 = 0) (hc : cl t J K V p κ M r.2.1 (l ++ r.2.2 ++ [e])) : rdP t J K V p κ l (em r e) M 1 := by
  have q : em r e = (0, r.2.1, r.2.2 ++ [e]) := if_pos h
  rw [q]
  refine Or.inl ⟨rfl, rfl, ?_⟩
  rw [List.append_assoc] at hc
  exact hc
end Reader3
