/-! session: the reference's next row, the sum of sentences -/
def rowIs (f : Int → Int) (p : List Int) : Prop := ∀ j : Nat, j < p.length → f (j : Int) = p.getD j 0
theorem getD_set (p : List Int) (i : Nat) (v : Int) (j : Nat) (hi : i < p.length) : (p.set i v).getD j 0 = if j = i then v else p.getD j 0 := by
  rw [List.getD_eq_getElem?_getD, List.getElem?_set]
  by_cases h : i = j
  · subst h
    rw [if_pos rfl, if_pos rfl, if_pos hi]
    rfl
  · rw [if_neg h, if_neg (fun z => h z.symm), List.getD_eq_getElem?_getD]
theorem rowIs_set {f : Int → Int} {p : List Int} {i : Nat} {v : Int} (h : rowIs f p) (hi : i < p.length) : rowIs (up f (i : Int) v) (p.set i v) := fun j hj => by
  rw [List.length_set] at hj
  rw [getD_set p i v j hi]
  by_cases q : j = i
  · subst q; rw [up_at, if_pos rfl]
  · rw [up_ne (by omega), if_neg q]; exact h j hj
theorem swp_len (p : List Int) (x y : Nat) : (swp p x y).length = p.length := by
  unfold swp
  rw [List.length_set, List.length_set]
theorem rvs_len : ∀ (f x y : Nat) (p : List Int), (rvs f x y p).length = p.length
  | 0, _, _, _ => rfl
  | f + 1, x, y, p => by
    unfold rvs
    split
    · rfl
    · rw [rvs_len f, swp_len]
theorem nxt_len {p q : List Int} (h : nxt p = some q) : q.length = p.length := by
  unfold nxt at h
  split at h
  · cases h
  · cases h
    rw [rvs_len, swp_len]
section Sess3
variable {g : Option Nat} {d n : Nat} {P : xP} {M : xM} {F : xM → Int → Prop} {G : xM → Prop}
theorem swp_mem {p : List Int} {x y : Nat} (h : rowIs (M 80) p) (hx : x < p.length) (hy : y < p.length) : ∃ f, x_upd (x_upd M 80 (x : Int) (M 80 (y : Int))) 80 (y : Int) (M 80 (x : Int)) = setA M 80 f ∧ rowIs f (swp p x y) := by
  refine ⟨up (up (M 80) (x : Int) (M 80 (y : Int))) (y : Int) (M 80 (x : Int)), ?_, ?_⟩
  · rw [x_upd_up M 80 (x : Int), x_upd_up2]
  · rw [h x hx, h y hy]
    unfold swp
    exact rowIs_set (rowIs_set h hx) (by rw [List.length_set]; exact hy)
theorem q_rvs (hn : 82 ≤ n) (hP : x_PP P) : ∀ (f x y : Nat) (p : List Int) (M : xM), rowIs (M 80) p → p.length ≤ 5 → y < p.length → y ≤ x + 2 * f → (∀ h, rowIs h (rvs f x y p) → F (setA M 80 h) 1) → xW Y_X10_nextRow g d 0 0 100 [(0, vR (some 64)), (5, vI (x : Int)), (6, vI (y : Int))] [] (0, 0) (n, P, M) (kI n P F) := by
  intro f
  induction f with
  | zero =>
    intro x y p M hr h5 hy hf H
    refine b_X10_nextRow_100 hn hP ⟨fun _ => ?_, fun z => absurd z (by omega)⟩
    have := H (M 80) hr
    rwa [setA_self] at this
  | succ f ih =>
    intro x y p M hr h5 hy hf H
    unfold rvs at H
    refine b_X10_nextRow_100 hn hP ⟨fun z => ?_, fun z => ⟨by omega, by omega, by omega, by omega, by unfold inR; omega, by unfold inR; omega, ?_⟩⟩
    · rw [if_pos (by omega)] at H
      have := H (M 80) hr
      rwa [setA_self] at this
    · rw [if_neg (by omega)] at H
      obtain ⟨f', e, hr'⟩ := swp_mem hr (x := x) (y := y) (by omega) hy
      rw [e]
      have := ih (x + 1) (y - 1) (swp p x y) (setA M 80 f') (by rw [setA_at]; exact hr') (by rw [swp_len]; exact h5) (by rw [swp_len]; omega) (by omega) (fun h hh => by rw [setA_setA]; exact H h hh)
      rw [show ((x + 1 : Nat) : Int) = (x : Int) + 1 by omega, show ((y - 1 : Nat) : Int) = (y : Int) + (-1) by omega] at this
      exact this
theorem q_nextRow (hn : 82 ≤ n) (hP : x_PP P) {p : List Int} (hp : 1 ≤ p.length ∧ p.length ≤ 5) (hr : rowIs (M 80) p) (H0 : nxt p = none → F M 0) (H1 : ∀ q, nxt p = some q → ∀ f, rowIs f q → F (setA M 80 f) 1) : xCI Y_X10_nextRow g d [vR (some 64), vI (p.length : Int)] n P M F := by
  have ev := fun j hj => hr j hj
  refine b_X10_nextRow hn hP ⟨by unfold inR; omega, ?_⟩
  have two : ∀ i, d1 p (p.length - 1) = i + 1 → i + 1 < p.length → ∀ k, i ≤ k → k < p.length → d2 p (p.getD i 0) (p.length - 1) = d2 p (p.getD i 0) k → xW Y_X10_nextRow g d 0 0 41 [(0, vR (some 64)), (1, vI (p.length : Int)), (2, vI (i : Int)), (3, vI (k : Int))] [] (0, 0) (n, P, M) (kI n P F) := by
    intro i hi hil k
    have fin : ∀ k, i ≤ k → k < p.length → d2 p (p.getD i 0) (p.length - 1) = k → xW Y_X10_nextRow g d 0 0 100 [(0, vR (some 64)), (5, vI ((i : Int) + 1)), (6, vI ((p.length : Int) - 1))] [] (0, 0) (n, P, x_upd (x_upd M 80 (i : Int) (M 80 (k : Int))) 80 (k : Int) (M 80 (i : Int))) (kI n P F) := fun k hik hk hd => by
      obtain ⟨f', e, hr'⟩ := swp_mem hr (x := i) (y := k) (by omega) hk
      rw [e]
      have hx : nxt p = some (rvs 5 (i + 1) (p.length - 1) (swp p i k)) := by
        unfold nxt
        rw [hi, if_neg (by omega), Nat.add_sub_cancel, hd]
      have := q_rvs (F := F) (g := g) (d := d) hn hP 5 (i + 1) (p.length - 1) (swp p i k) (setA M 80 f') (by rw [setA_at]; exact hr') (by rw [swp_len]; omega) (by rw [swp_len]; omega) (by omega) (fun h hh => by rw [setA_setA]; exact H1 _ hx h hh)
      rw [show ((i + 1 : Nat) : Int) = (i : Int) + 1 by omega, show ((p.length - 1 : Nat) : Int) = (p.length : Int) - 1 by omega] at this
      exact this
    induction k with
    | zero =>
      intro hik hk hd
      have i0 : i = 0 := by omega
      refine b_X10_nextRow_41 hn hP ⟨by omega, by omega, fun _ => ⟨by omega, by omega, by omega, by omega, by unfold inR; omega, by unfold inR; omega, fin 0 (by omega) (by omega) hd⟩, fun z => absurd (by rw [i0]; exact Int.le_refl _) z⟩
    | succ k ih =>
      intro hik hk hd
      have e1 := ev i (by omega)
      have e2 := ev (k + 1) hk
      have ed : d2 p (p.getD i 0) (k + 1) = if p.getD i 0 ≤ p.getD (k + 1) 0 then k + 1 else d2 p (p.getD i 0) k := rfl
      refine b_X10_nextRow_41 hn hP ⟨by omega, by omega, fun z => ⟨by omega, by omega, by omega, by omega, by unfold inR; omega, by unfold inR; omega, fin (k + 1) hik hk ?_⟩, fun z => ⟨by unfold inR; omega, ?_⟩⟩
      · rw [e1, e2] at z
        rw [hd, ed, if_pos z]
      · rw [e1, e2] at z
        have ne : i ≠ k + 1 := fun q => by rw [q] at z; exact z (Int.le_refl _)
        have := ih (by omega) (by omega) (by rw [hd, ed, if_neg z])
        rw [show ((k + 1 : Nat) : Int) + (-1) = (k : Int) by omega]
        exact this
  have one : ∀ i, i < p.length → d1 p (p.length - 1) = d1 p i → xW Y_X10_nextRow g d 0 0 4 [(0, vR (some 64)), (1, vI (p.length : Int)), (2, vI ((i : Int) - 1))] [] (0, 0) (n, P, M) (kI n P F) := by
    intro i
    induction i with
    | zero =>
      intro hi hd
      refine b_X10_nextRow_4 hn hP ⟨fun _ => b_X10_nextRow_31 hn hP ⟨fun z => absurd z (by omega), fun _ => H0 ?_⟩, fun z => absurd (show ((0 : Nat) : Int) - 1 < 0 by omega) z⟩
      unfold nxt
      rw [hd]
      exact if_pos rfl
    | succ i ih =>
      intro hi hd
      have e1 := ev i (by omega)
      have e2 := ev (i + 1) hi
      have ed : d1 p (i + 1) = if p.getD i 0 ≤ p.getD (i + 1) 0 then i + 1 else d1 p i := rfl
      rw [show ((i + 1 : Nat) : Int) - 1 = (i : Int) by omega]
      refine b_X10_nextRow_4 hn hP ⟨fun z => absurd z (by omega), fun _ => ⟨by omega, by unfold inR; omega, by omega, fun z => b_X10_nextRow_31 hn hP ⟨fun _ => ⟨by unfold inR; omega, ?_⟩, fun z => absurd (show (0 : Int) ≤ (i : Int) by omega) z⟩, fun z => ⟨by unfold inR; omega, ?_⟩⟩⟩
      · rw [show (i : Int) + 1 = ((i + 1 : Nat) : Int) by omega, e1, e2] at z
        rw [ed, if_pos z] at hd
        have := two i hd hi (p.length - 1) (by omega) (by omega) rfl
        rw [show ((p.length - 1 : Nat) : Int) = (p.length : Int) - 1 by omega] at this
        exact this
      · rw [show (i : Int) + 1 = ((i + 1 : Nat) : Int) by omega, e1, e2] at z
        rw [ed, if_neg z] at hd
        exact ih (by omega) hd
  have := one (p.length - 1) (by omega) rfl
  rw [show ((p.length - 1 : Nat) : Int) - 1 = (p.length : Int) - 2 by omega] at this
  exact this
/-- the sum of the sentences of an order, from s on -/
def gS (ρ : Option xTx) (A : Int → Int) : List Int → Int → Int
  | [], _ => 0
  | c :: r, s => if 60 ≤ s ∨ eO ρ A c s 0 = -2 then 0 else (if eO ρ A c s 0 ≤ 0 then 0 else eO ρ A c s 0) + gS ρ A r (s + A (20 + 7 * c + 2))
theorem gS_r {ρ : Option xTx} {A : Int → Int} (h : oka A) : ∀ (l : List Int) (s : Int), (∀ c ∈ l, 0 ≤ c ∧ c < A 0) → 0 ≤ gS ρ A l s ∧ gS ρ A l s ≤ 999 * l.length
  | [], s, _ => ⟨Int.le_refl _, Int.le_refl _⟩
  | c :: r, s, hl => by
    have ih := gS_r (ρ := ρ) h r (s + A (20 + 7 * c + 2)) (fun x hx => hl x (List.mem_cons_of_mem _ hx))
    have e := eO_r (ρ := ρ) h (hl c (List.mem_cons_self ..)) (k := s) (e := 0) (by omega)
    have hlen : ((c :: r).length : Int) = (r.length : Int) + 1 := by rw [List.length_cons]; omega
    unfold gS
    split
    · omega
    · split <;> omega
theorem gS_60 (ρ : Option xTx) (A : Int → Int) (l : List Int) {s : Int} (h : 60 ≤ s) : gS ρ A l s = 0 := by
  cases l with
  | nil => rfl
  | cons c r => unfold gS; exact if_pos (Or.inl h)
theorem q_sent (hn : 82 ≤ n) (hP : x_PP P) {ρ : Option xTx} {r : List Int} (hρ : rho M (M 65 2) ρ) (h : oka (M 65)) (hw : wR ρ (M 65) (lz (M 65) 60) M) (hr : rowIs (M 80) r) (h5 : r.length ≤ 5) (hm : ∀ i ∈ r, (0 ≤ i ∧ i < 8) ∧ 0 ≤ M 79 i ∧ M 79 i < M 65 0) (H : ∀ M', offE M M' → F M' (gS ρ (M 65) (r.map (M 79)) 0)) : xCI Y_X10_sentencesBy g (d + 6) [vR (some 64), vI (r.length : Int)] n P M F := by
  obtain ⟨K, hI⟩ := oka_inv h
  have h11 := hI.2.1.2.2.2.1
  have loop : ∀ (l : List Int) (i : Nat) (sum s : Int), i + l.length = r.length → (∀ j, j < l.length → l.getD j 0 = r.getD (i + j) 0) → (∀ x ∈ l, x ∈ r) → (0 ≤ sum ∧ sum ≤ 999 * i) → (0 ≤ s ∧ s ≤ 9 * i) → sum + gS ρ (M 65) (l.map (M 79)) s = gS ρ (M 65) (r.map (M 79)) 0 → ∀ N, offE M N → xW Y_X10_sentencesBy g (d + 6) 0 0 7 [(0, vR (some 64)), (1, vI (r.length : Int)), (2, vI sum), (3, vI s), (4, vI (i : Int))] [] (0, 0) (n, P, N) (kI n P F) := by
    intro l
    induction l with
    | nil =>
      intro i sum s hi _ _ hs1 hs2 hg N oN
      have hl0 : ([] : List Int).length = 0 := rfl
      refine b_X10_sentencesBy_7 hn hP ⟨fun _ => ?_, fun z => absurd (by omega) z⟩
      have : sum = gS ρ (M 65) (r.map (M 79)) 0 := by rw [← hg]; show sum = sum + 0; omega
      rw [this]
      exact H N oN
    | cons x l ih =>
      intro i sum s hi he hmem hs1 hs2 hg N oN
      have hl1 : (x :: l).length = l.length + 1 := rfl
      have xr := hmem x (List.mem_cons_self ..)
      obtain ⟨x8, xc⟩ := hm x xr
      have e80 : N 80 (i : Int) = x := by
        rw [oN.1 80 (by decide) (by decide) (by decide), hr i (by omega)]
        have := he 0 (by omega)
        rw [Nat.add_zero] at this
        rw [← this]
        rfl
      have e79 : N 79 = M 79 := oN.1 79 (by decide) (by decide) (by decide)
      have e65 : N 65 = M 65 := offE_65 oN
      have c79 : N 79 x = M 79 x := by rw [e79]
      obtain ⟨c8, t0, t1, t2, t3⟩ := oka_told h xc
      refine b_X10_sentencesBy_7 hn hP ⟨fun z => absurd z (by omega), fun _ => ⟨by omega, by rw [e80]; exact x8, ?_⟩⟩
      rw [e80, c79]
      have gu : gS ρ (M 65) ((x :: l).map (M 79)) s = if 60 ≤ s ∨ eO ρ (M 65) (M 79 x) s 0 = -2 then 0 else (if eO ρ (M 65) (M 79 x) s 0 ≤ 0 then 0 else eO ρ (M 65) (M 79 x) s 0) + gS ρ (M 65) (l.map (M 79)) (s + M 65 (20 + 7 * M 79 x + 2)) := rfl
      rw [gu] at hg
      have er := eO_r (ρ := ρ) h xc (k := s) (e := 0) (by omega)
      refine q_isEnding hn hP (ρ := ρ) (z := lz (M 65) 60) (by rw [e65]; exact rho_R (offE_R oN) hρ) (by rw [e65]; exact h) (by rw [e65]; exact wR_E oN hw) (by rw [e65]; exact xc) (by omega) (by omega) (fun q => ?_) ?_ (fun q => ⟨fun z => absurd rfl z, fun _ => ?_⟩) (fun q N2 o2 g1 g2 => ⟨fun _ => ?_, fun z => absurd z (by decide)⟩)
      · rw [e65] at q ⊢
        unfold lz
        split <;> omega
      · unfold lz
        split <;> omega
      · rw [e65] at q
        have e2 : eO ρ (M 65) (M 79 x) s 0 = -2 := if_neg q
        rw [if_pos (Or.inr e2), Int.add_zero] at hg
        rw [hg]
        exact H N oN
      · rw [e65] at q g2
        have e2 : eO ρ (M 65) (M 79 x) s 0 = vd ρ (M 65) (M 79 x) s (M 65 (20 + 7 * M 79 x + 2) + 0) := if_pos q
        rw [← e2] at g2
        have vr := vd_r (ρ := ρ) (A := M 65) (c := M 79 x) (s := s) (hd := M 65 (20 + 7 * M 79 x + 2) + 0) (by omega) (by omega)
        rw [if_neg (fun z => by rcases z with z | z <;> omega)] at hg
        have o12 := offE_trans oN o2
        have g2' : N2 64 35 = if eO ρ (M 65) (M 79 x) s 0 ≤ 0 then 0 else eO ρ (M 65) (M 79 x) s 0 := by
          rw [g2]
          split
          · rw [if_pos (by omega)]
          · split <;> omega
        have gr : 0 ≤ N2 64 35 ∧ N2 64 35 ≤ 999 := by rw [g2']; split <;> omega
        rw [← g2'] at hg
        refine ⟨by unfold inR; omega, c_X10_get hn hP c8 (by omega) ⟨by rw [offE_65 o12]; unfold inR; omega, by unfold inR; omega, ?_⟩⟩
        rw [offE_65 o12]
        have := ih (i + 1) (sum + N2 64 35) (s + M 65 (20 + 7 * M 79 x + 2)) (by omega) (fun j hj => by
          have := he (j + 1) (by omega)
          rw [show i + 1 + j = i + (j + 1) by omega, ← this]
          rfl) (fun y hy => hmem y (List.mem_cons_of_mem _ hy)) (by omega) (by omega) (by omega) N2 o12
        rw [show ((i + 1 : Nat) : Int) = (i : Int) + 1 by omega] at this
        exact this
  have := loop r 0 0 0 (by omega) (fun j _ => by rw [Nat.zero_add]) (fun x hx => hx) (by omega) (by omega) (Int.zero_add _) M (offE_refl M)
  exact b_X10_sentencesBy hn hP this
end Sess3
