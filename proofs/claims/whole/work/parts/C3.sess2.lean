/-! orders: lists of the bits -/
theorem flatMap_cg {l : List Int} {f g : Int → List (List Int)} (h : ∀ c ∈ l, f c = g c) : l.flatMap f = l.flatMap g := by
  induction l with
  | nil => rfl
  | cons c r ih =>
    rw [List.flatMap_cons, List.flatMap_cons, h c (List.mem_cons_self ..), ih (fun x hx => h x (List.mem_cons_of_mem _ hx))]
theorem pV_map : ∀ (k : Nat) (l : List Int) (g : Int → Int), (∀ x ∈ l, ∀ y ∈ l, g x = g y → x = y) → pV k (l.map g) = (pV k l).map (List.map g)
  | 0, l, g, _ => rfl
  | k + 1, l, g, hg => by
    show (l.map g).flatMap (fun c => (pV k ((l.map g).filter (fun x => decide (x ≠ c)))).map (fun q => c :: q)) = (l.flatMap (fun c => (pV k (l.filter (fun x => decide (x ≠ c)))).map (fun q => c :: q))).map (List.map g)
    rw [List.flatMap_map, List.map_flatMap]
    refine flatMap_cg (fun c hc => ?_)
    show (pV k ((l.map g).filter (fun x => decide (x ≠ g c)))).map (fun q => g c :: q) = _
    have e : (l.map g).filter (fun x => decide (x ≠ g c)) = (l.filter (fun x => decide (x ≠ c))).map g := by
      rw [List.filter_map]
      congr 1
      refine List.filter_congr (fun x hx => ?_)
      show decide (g x ≠ g c) = decide (x ≠ c)
      by_cases q : x = c
      · rw [q, decide_eq_false (fun z => z rfl), decide_eq_false (fun z => z rfl)]
      · rw [decide_eq_true (show g x ≠ g c from fun z => q (hg x hx c hc z)), decide_eq_true (show x ≠ c from q)]
    rw [e, pV_map k _ g (fun x hx y hy => hg x (List.mem_filter.mp hx).1 y (List.mem_filter.mp hy).1), List.map_map, List.map_map]
    rfl
def rng (c : Int) : Nat → List Int
  | 0 => []
  | m + 1 => c :: rng (c + 1) m
theorem rng_snoc : ∀ (m : Nat) (c : Int), rng c (m + 1) = rng c m ++ [c + m]
  | 0, c => by show [c] = [] ++ [c + 0]; rw [Int.add_zero]; rfl
  | m + 1, c => by
    show c :: rng (c + 1) (m + 1) = c :: rng (c + 1) m ++ [c + ((m + 1 : Nat) : Int)]
    rw [rng_snoc m (c + 1), show c + 1 + (m : Int) = c + ((m + 1 : Nat) : Int) by omega]
    rfl
theorem rng_mem : ∀ (m : Nat) (c x : Int), x ∈ rng c m ↔ c ≤ x ∧ x < c + m
  | 0, c, x => ⟨(fun h => nomatch h), fun h => absurd h.2 (by have : c ≤ x := h.1; show ¬ x < c + 0; omega)⟩
  | m + 1, c, x => by
    show x ∈ c :: rng (c + 1) m ↔ _
    rw [List.mem_cons, rng_mem m (c + 1) x]
    omega
abbrev bi1 (v c : Int) : Prop := x_and (x_shr v c) 1 = 1
def memF (v : Int) (m : Nat) : List Int := (rng 0 m).filter (fun c => decide (bi1 v c))
theorem memF_snoc (v : Int) (m : Nat) : memF v (m + 1) = memF v m ++ (if bi1 v m then [(m : Int)] else []) := by
  unfold memF
  rw [rng_snoc, List.filter_append, Int.zero_add]
  congr 1
  by_cases h : bi1 v m
  · rw [if_pos h, List.filter_cons_of_pos (p := fun c => decide (bi1 v c)) (decide_eq_true h)]; rfl
  · rw [if_neg h, List.filter_cons_of_neg (p := fun c => decide (bi1 v c)) (by rw [decide_eq_false h]; decide)]; rfl
theorem memF_mem {v x : Int} {m : Nat} : x ∈ memF v m ↔ (0 ≤ x ∧ x < (m : Int)) ∧ bi1 v x := by
  unfold memF
  rw [List.mem_filter, rng_mem]
  have : decide (bi1 v x) = true ↔ bi1 v x := decide_eq_true_iff
  rw [this, Int.zero_add]
theorem bi1_b {v c : Int} (h : 0 ≤ c ∧ c < 32) : bi1 v c ↔ bX v c.toNat = true := by
  show x_and (x_shr v c) 1 = 1 ↔ _
  rw [bX_bit h]
  by_cases q : bX v c.toNat = true
  · rw [if_pos q]; exact ⟨fun _ => q, fun _ => rfl⟩
  · rw [if_neg q]; exact ⟨fun z => absurd z (by decide), fun z => absurd z q⟩
theorem b_shl1 : ∀ c i : Fin 32, bt (Int32.ofInt (x_shl 1 (c.val : Int))) i.val = decide (i = c) := by decide +kernel
theorem bi1_rmv {v c j : Int} (hc : 0 ≤ c ∧ c < 8) (hj : 0 ≤ j ∧ j < 8) : bi1 (rmv v c) j ↔ bi1 v j ∧ j ≠ c := by
  rw [bi1_b (by omega), bi1_b (by omega)]
  unfold rmv
  rw [bX_and, bX_xor, show bX (-1) j.toNat = true from b_m1 _ (by omega)]
  have e := b_shl1 ⟨c.toNat, by omega⟩ ⟨j.toNat, by omega⟩
  have e2 : bX (x_shl 1 c) j.toNat = decide (j = c) := by
    have q : (((⟨c.toNat, by omega⟩ : Fin 32).val : Nat) : Int) = c := by show (c.toNat : Int) = c; omega
    rw [q] at e
    show bt (Int32.ofInt (x_shl 1 c)) j.toNat = _
    rw [e]
    by_cases z : j = c
    · subst z; rw [decide_eq_true rfl, decide_eq_true rfl]
    · rw [decide_eq_false z, decide_eq_false (fun w => z (by have := congrArg Fin.val w; have : j.toNat = c.toNat := this; omega))]
  rw [e2]
  by_cases z : j = c
  · rw [decide_eq_true z]
    refine ⟨fun w => ?_, fun w => absurd z w.2⟩
    exfalso
    revert w
    cases bX v j.toNat <;> decide
  · rw [decide_eq_false z]
    refine ⟨fun w => ⟨?_, z⟩, fun w => by rw [w.1]; rfl⟩
    revert w
    cases bX v j.toNat <;> decide
theorem memF_rmv {v c : Int} (hc : 0 ≤ c ∧ c < 8) : memF (rmv v c) 8 = (memF v 8).filter (fun x => decide (x ≠ c)) := by
  unfold memF
  rw [List.filter_filter]
  refine List.filter_congr (fun x hx => ?_)
  have hx' := (rng_mem 8 0 x).mp hx
  have := bi1_rmv (v := v) (c := c) (j := x) hc (by omega)
  by_cases q : bi1 (rmv v c) x
  · rw [decide_eq_true q, decide_eq_true (this.mp q).1, decide_eq_true (this.mp q).2]; rfl
  · rw [decide_eq_false q]
    by_cases q1 : x = c
    · rw [decide_eq_false (fun z => z q1)]; rfl
    · rw [decide_eq_false (fun z => q (this.mpr ⟨z, q1⟩)), Bool.and_false]
theorem ordS_eq (f : Int → List (List Int)) (v : Int) : ∀ (m : Nat) (c : Int), ordS f v m c = ((rng c m).filter (fun c => decide (bi1 v c))).flatMap (fun c => (f (rmv v c)).map (fun q => c :: q))
  | 0, c => rfl
  | m + 1, c => by
    show (if bi1 v c then (f (rmv v c)).map (fun q => c :: q) else []) ++ ordS f v m (c + 1) = ((c :: rng (c + 1) m).filter (fun c => decide (bi1 v c))).flatMap (fun c => (f (rmv v c)).map (fun q => c :: q))
    rw [ordS_eq f v m (c + 1)]
    by_cases h : bi1 v c
    · rw [if_pos h, List.filter_cons_of_pos (p := fun c => decide (bi1 v c)) (decide_eq_true h), List.flatMap_cons]
    · rw [if_neg h, List.filter_cons_of_neg (p := fun c => decide (bi1 v c)) (by rw [decide_eq_false h]; decide)]; rfl
theorem ords_pV : ∀ (k : Nat) (v : Int), ords k v = pV k (memF v 8)
  | 0, v => rfl
  | k + 1, v => by
    show ordS (ords k) v 8 0 = (memF v 8).flatMap (fun c => (pV k ((memF v 8).filter (fun x => decide (x ≠ c)))).map (fun q => c :: q))
    rw [ordS_eq]
    refine flatMap_cg (fun c hc => ?_)
    have hc' := (memF_mem (m := 8)).mp hc
    have h8 : ((8 : Nat) : Int) = 8 := rfl
    rw [ords_pV k (rmv v c), memF_rmv (by omega)]
theorem rng_nd : ∀ (m : Nat) (c : Int), (rng c m).Nodup
  | 0, c => List.nodup_nil
  | m + 1, c => List.nodup_cons.mpr ⟨fun h => by have := (rng_mem m (c + 1) c).mp h; omega, rng_nd m (c + 1)⟩
theorem idn_rng : ∀ n, idn n = rng 0 n
  | 0 => rfl
  | n + 1 => by
    show idn n ++ [(n : Int)] = rng 0 (n + 1)
    rw [idn_rng n, rng_snoc, Int.zero_add]
theorem map_getD (l : List Int) : (rng 0 l.length).map (fun i => l.getD i.toNat 0) = l := by
  have : ∀ (m : Nat) (r : List Int) (c : Int), 0 ≤ c → r.length = m → (∀ j, j < m → r.getD j 0 = l.getD (c.toNat + j) 0) → (rng c m).map (fun i => l.getD i.toNat 0) = r := by
    intro m
    induction m with
    | zero =>
      intro r c c0 hr _
      rw [List.eq_nil_of_length_eq_zero hr]
      rfl
    | succ m ih =>
      intro r c c0 hr he
      match r, hr, he with
      | a :: r', hr, he =>
        show l.getD c.toNat 0 :: (rng (c + 1) m).map (fun i => l.getD i.toNat 0) = a :: r'
        have e0 := he 0 (by omega)
        rw [Nat.add_zero] at e0
        rw [← e0, ih r' (c + 1) (by omega) (by have : (a :: r').length = r'.length + 1 := rfl; omega) (fun j hj => by
          have := he (j + 1) (by omega)
          rw [show (c + 1).toNat + j = c.toNat + (j + 1) by omega, ← this]
          rfl)]
        rfl
  exact this l.length l 0 (by omega) rfl (fun j hj => by rw [show (0 : Int).toNat + j = j by show 0 + j = j; omega])
theorem getD_inj {l : List Int} (h : l.Nodup) {i j : Nat} (hi : i < l.length) (hj : j < l.length) (e : l.getD i 0 = l.getD j 0) : i = j := by
  rw [List.getD_eq_getElem?_getD, List.getD_eq_getElem?_getD, List.getElem?_eq_getElem hi, List.getElem?_eq_getElem hj] at e
  have e' : l[i] = l[j] := e
  have hp := List.pairwise_iff_getElem.mp h
  rcases Nat.lt_trichotomy i j with q | q | q
  · exact absurd e' (hp i j hi hj q)
  · exact q
  · exact absurd e'.symm (hp j i hj hi q)
/-- all orders of the cases v: the reference's rows -/
theorem ords_rws {v : Int} {k : Nat} (hk : (memF v 8).length = k) (h5 : k ≤ 5) : ords k v = (rws 119 (idn k)).map (fun r => r.map (fun i => (memF v 8).getD i.toNat 0)) := by
  have e := pV_map k (rng 0 k) (fun i => (memF v 8).getD i.toNat 0) (fun x hx y hy q => by
    have a := (rng_mem k 0 x).mp hx
    have b := (rng_mem k 0 y).mp hy
    have nd : (memF v 8).Nodup := List.Pairwise.filter _ (rng_nd 8 0)
    have := getD_inj nd (i := x.toNat) (j := y.toNat) (by omega) (by omega) q
    omega)
  have m := map_getD (memF v 8)
  rw [hk] at m
  rw [m] at e
  rw [ords_pV, e]
  have := pV_rws ⟨k, by omega⟩
  have t : pV k (idn k) = rws 119 (idn k) := this
  rw [← idn_rng, t]
theorem popc_len : ∀ v : Fin 256, ((memF (v.val : Int) 8).length : Int) = popc (v.val : Int) := by decide +kernel
theorem popc_mem {v : Int} (h : in8 v) : ((memF v 8).length : Int) = popc v := by
  have := popc_len ⟨v.toNat, by omega⟩
  rwa [show (((⟨v.toNat, by omega⟩ : Fin 256).val : Nat) : Int) = v by show (v.toNat : Int) = v; omega] at this
