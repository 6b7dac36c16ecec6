/-! the reference's parsed -/
section Excl
variable {K V : Nat → Int} {κ tr : Int} {p : List Int} {j : Nat} {e e' : Int} {i i' : Nat}
theorem bg_one (h : bgF K V κ tr p j e i) (h' : bgF K V κ tr p j e' i') : e' = e ∧ i' = i := by
  unfold bgF at h h'
  by_cases ha : ahd tr p
  · simp only [ha, true_and, not_true_eq_false, imp_false] at h h'
    rcases h with h | h | h | h | h | h | h | h <;> rcases h' with h' | h' | h' | h' | h' | h' | h' | h' <;> omega
  · simp only [ha, false_and, and_false, or_false, false_or, not_false_eq_true, implies_true, true_and] at h h'
    rcases h with h | h | h | h <;> rcases h' with h' | h' | h' | h' <;> omega
theorem bg_tok (h : bgF K V κ tr p j e i) {o v : Int} (h' : (K j = 72 ∧ V j ≤ 9999 ∧ o = 72 ∧ v = V j) ∨ ((11 ≤ K j ∧ K j ≤ 18) ∧ ofL κ (K j - 11) ∧ o = 75 ∧ v = K j - 11)) : False := by
  unfold bgF at h
  rcases h with h | h | h | h | h | h | h | h <;> rcases h' with h' | h' <;> omega
theorem bg_opn (h : bgF K V κ tr p j e i) (h8 : ops p < 8) {o : Int} (h' : (K j = 40 ∧ o = 40) ∨ (K j = 45 ∧ o = 4) ∨ (K j = 23 ∧ ahd tr p ∧ o = 20)) : False := by
  unfold bgF at h
  by_cases ha : ahd tr p
  · simp only [ha, true_and, not_true_eq_false, imp_false] at h h'
    rcases h with h | h | h | h | h | h | h | h <;> omega
  · simp only [ha, false_and, and_false, or_false, false_or, not_false_eq_true, implies_true, true_and] at h h'
    rcases h with h | h | h | h <;> omega
theorem bg_most (h : bgF K V κ tr p j e i) (h8 : ops p < 8) (ha : ahd tr p) (k : K j = 25) (k' : K (j + 1) = 40) : False := by
  unfold bgF at h
  simp only [ha, true_and, not_true_eq_false, imp_false] at h
  rcases h with h | h | h | h | h | h | h | h <;> omega
theorem bg_fact (h : bgF K V κ tr p j e i) (ha : ahd tr p) (k : K j = 24) (k4 : κ < 4) (k' : K (j + 1) = 72) (v : V (j + 1) ≤ 7) : False := by
  unfold bgF at h
  simp only [ha, true_and, not_true_eq_false, imp_false] at h
  rcases h with h | h | h | h | h | h | h | h <;> omega
theorem btw_one {k : Int} {u : Bool} {o o' : Int} (h : btw k tr u p o) (h' : btw k tr u p o') : o' = o := by
  rcases h with ⟨_, h⟩ | ⟨_, _, _, h⟩ | ⟨_, _, h⟩ <;> rcases h' with ⟨_, h'⟩ | ⟨_, _, _, h'⟩ | ⟨_, _, h'⟩ <;> omega
theorem btw_nob {k : Int} {u : Bool} {o : Int} (h : btw k tr u p o) (h' : nob k tr u p) : False := by
  rcases h with ⟨h1, h⟩ | ⟨h1, h2, _, h⟩ | ⟨h1, h2, h⟩
  · rcases h'.1 with q | q
    · exact h1 q
    · omega
  · have := (h'.2 h1).1 h2
    omega
  · obtain ⟨q1, q2, q3⟩ := (h'.2 h1).2 h2
    rcases h with h | h | ⟨h, _, h4, h5⟩
    · omega
    · omega
    · rcases q3 h with q | q
      · exact q h4
      · rw [h5] at q; cases q
end Excl
section Parsed
variable {g : Option Nat} {d n : Nat} {P : xP} {M M0 : xM} {F : xM → Int → Prop} {G : xM → Prop} {f : Int → Int} {L τ κ tr : Int} {J j : Nat} {p c : List Int} {l : List (Int × Int)} {u w : Int}
def XX (g : Option Nat) (d n : Nat) (P : xP) (F : xM → Int → Prop) (f : Int → Int) (L τ tr : Int) (J : Nat) (M0 : xM) (S : pS) : Prop := ∀ M', stM f L τ J M0 M' (b2 S.1) S.2.1 S.2.2.1 S.2.2.2.1 S.2.2.2.2.1 (b2 S.2.2.2.2.2) → xW Y_X10_parsed g (d + 8) 0 0 30 [(0, vR (some 64)), (1, vI tr)] [] (0, 0) (n, P, M') (kI n P F)
def ZZ (F : xM → Int → Prop) (f : Int → Int) (L τ : Int) (M0 : xM) (e : Int) (i : Nat) : Prop := 0 < e → ∀ M', offP τ M0 M' → tkR f L M' (ps f L i) → F M' e
def ZE (F : xM → Int → Prop) (f : Int → Int) (L τ : Int) (J : Nat) (M0 : xM) (j : Nat) (l : List (Int × Int)) : Prop := ∀ M', offP τ M0 M' → tkR f L M' (ps f L j) → M' 64 13 = (l.length : Int) → olR τ M' l → j ≤ J → l.length ≤ j → F M' 0
theorem to48 {z : Int} {M' : xM} (hn : 82 ≤ n) (hP : x_PP P) (h0 : z = 0 → xW Y_X10_parsed g (d + 8) 0 0 30 [(0, vR (some 64)), (1, vI tr)] [] (0, 0) (n, P, M') (kI n P F)) (h1 : z ≠ 0 → 0 < z ∧ F M' z) : xW Y_X10_parsed g (d + 8) 0 0 48 [(0, vR (some 64)), (1, vI tr)] [vI z] (0, 0) (n, P, M') (kI n P F) :=
  b_X10_parsed_48 (d := d + 1) hn hP ⟨fun q => ⟨fun q2 => absurd (h1 q2).1 (by omega), fun q2 => h0 q2⟩, fun q => (h1 (by omega)).2⟩
theorem bg_pos {K V : Nat → Int} {e : Int} {i : Nat} (h : bgF K V κ tr p j e i) : 0 < e := by
  unfold bgF at h
  rcases h with h | h | h | h | h | h | h | h <;> omega
theorem x_begin (hn : 82 ≤ n) (hP : x_PP P) (E : env f L τ κ tr J M0) {b : Bool}
    (H1 : ∀ e v, (Kf f L j = 72 ∧ Vf f L j ≤ 9999 ∧ e = 72 ∧ v = Vf f L j) ∨ ((11 ≤ Kf f L j ∧ Kf f L j ≤ 18) ∧ ofL κ (Kf f L j - 11) ∧ e = 75 ∧ v = Kf f L j - 11) → XX g d n P F f L τ tr J M0 (true, j + 1, (stl 8 p (l ++ [(e, v)])).1, c, (stl 8 p (l ++ [(e, v)])).2, b))
    (H2 : ∀ e i, bgF (Kf f L) (Vf f L) κ tr p j e i → ZZ F f L τ M0 e i)
    (H3 : ∀ o, ops p < 8 → (Kf f L j = 40 ∧ o = 40) ∨ (Kf f L j = 45 ∧ o = 4) ∨ (Kf f L j = 23 ∧ ahd tr p ∧ o = 20) → XX g d n P F f L τ tr J M0 (false, j + 1, o :: p, c, l, b))
    (H4 : ops p < 8 → ahd tr p → Kf f L j = 25 → Kf f L (j + 1) = 40 → XX g d n P F f L τ tr J M0 (false, j + 2, 41 :: p, 1 :: c, l, b))
    (H5 : ahd tr p → Kf f L j = 24 → κ < 4 → Kf f L (j + 1) = 72 → Vf f L (j + 1) ≤ 7 → XX g d n P F f L τ tr J M0 (true, j + 2, 16 :: p, c, l ++ [(24, Vf f L (j + 1))], b)) : XX g d n P F f L τ tr J M0 (false, j, p, c, l, b) := by
  intro M' S
  have e20 : M' 64 20 = 0 := S.2.2.1.2.2.2.1.1
  refine b_X10_parsed_30 (d := d + 1) hn hP ⟨fun _ => h_beginOne hn hP E S (fun e v h M1 s1 => to48 hn hP (fun _ => H1 e v h M1 s1) (fun z => absurd rfl z)) (fun e i h M1 o1 t1 => to48 hn hP (fun z => absurd (bg_pos h) (by omega)) (fun _ => ⟨bg_pos h, H2 e i h (bg_pos h) M1 o1 t1⟩)) (fun o h8 h M1 s1 => to48 hn hP (fun _ => H3 o h8 h M1 s1) (fun z => absurd rfl z)) (fun h8 ha k k' M1 s1 => to48 hn hP (fun _ => H4 h8 ha k k' M1 s1) (fun z => absurd rfl z)) (fun ha k k4 k' v M1 s1 => to48 hn hP (fun _ => H5 ha k k4 k' v M1 s1) (fun z => absurd rfl z)), fun z => absurd e20 z⟩
theorem x_behind (hn : 82 ≤ n) (hP : x_PP P) (E : env f L τ κ tr J M0) {b : Bool}
    (HG : ∀ o, btw (Kf f L j) tr b p o → XX g d n P F f L τ tr J M0 (false, j + 1, o :: (stl (rkO o) p l).1, c, (stl (rkO o) p l).2, b || decide (o = 23)))
    (H7 : ∀ q c', c = q :: c' → nob (Kf f L j) tr b p → opn p = 41 → cmd p = true → Kf f L j = 44 → q < 6 → XX g d n P F f L τ tr J M0 (false, j + 1, (stl 1 p l).1, (q + 1) :: c', (stl 1 p l).2, b))
    (H8 : ∀ c', c = 6 :: c' → nob (Kf f L j) tr b p → opn p = 41 → cmd p = true → Kf f L j = 44 → ZZ F f L τ M0 7 j)
    (H9 : ∀ q c' p' l', c = q :: c' → nob (Kf f L j) tr b p → opn p = 41 → cmd p = true → Kf f L j = 41 → stl 1 p l = (41 :: p', l') → XX g d n P F f L τ tr J M0 (true, j + 1, 16 :: p', c', l' ++ [(25, q)], b))
    (H10 : ∀ p' l', nob (Kf f L j) tr b p → opn p = 40 → Kf f L j = 41 → stl 1 p l = (40 :: p', l') → XX g d n P F f L τ tr J M0 (true, j + 1, (stl 8 p' l').1, c, (stl 8 p' l').2, b))
    (HF : nob (Kf f L j) tr b p → (hre tr p ∧ cmd p = false) ∨ (opn p = 41 ∧ (cmd p = false ∨ (Kf f L j ≠ 44 ∧ Kf f L j ≠ 41))) ∨ (opn p = 40 ∧ Kf f L j ≠ 41) → ZZ F f L τ M0 1 j)
    (HO : nob (Kf f L j) tr b p → opn p = -1 → (tr ≠ 0 → cmd p = true) → ZE F f L τ J M0 j (stl 1 p l).2) : XX g d n P F f L τ tr J M0 (true, j, p, c, l, b) := by
  intro M' S
  replace S : stM f L τ J M0 M' 1 j p c l (b2 b) := S
  have sl := st_len S
  have or := opn_r S.2.2.2.2.1
  have e20 : M' 64 20 = 1 := S.2.2.1.2.2.2.1.1
  have J300 := E.2.2.2.2.1.2.2
  have rep1 := S.2.2.1.1
  refine b_X10_parsed_30 (d := d + 1) hn hP ⟨fun z => absurd (e20.symm.trans z) (by decide), fun _ => h_behindOne hn hP E S (fun o h M1 s1 => to48 hn hP (fun _ => HG o h M1 s1) (fun z => absurd rfl z)) (fun q c' e nb o1 c1 k q6 M1 s1 => to48 hn hP (fun _ => H7 q c' e nb o1 c1 k q6 M1 s1) (fun z => absurd rfl z)) (fun c' e nb o1 c1 k => to48 hn hP (fun z => absurd z (by decide)) (fun _ => ⟨by decide, H8 c' e nb o1 c1 k (by decide) M' S.1 S.2.1⟩)) (fun q c' p' l' e nb o1 c1 k hs M1 s1 => to48 hn hP (fun _ => H9 q c' p' l' e nb o1 c1 k hs M1 s1) (fun z => absurd rfl z)) (fun p' l' nb o1 k hs M1 s1 => to48 hn hP (fun _ => H10 p' l' nb o1 k hs M1 s1) (fun z => absurd rfl z)) (fun nb hE => ?_)⟩
  have bad := fun h => HF nb h (by decide) M' S.1 S.2.1
  have good : opn p = -1 → (tr ≠ 0 → cmd p = true) → xW Y_X10_parsed g (d + 8) 0 0 82 [(0, vR (some 64))] [] (0, 0) (n, P, M') (kI n P F) := fun h1 h2 => by
    refine b_X10_parsed_82 (d := d + 1) hn hP (h_settle hn hP E.2.2.2.2.2 (by decide) S.2.2.1 (by omega) sl.2.1 (by omega) (fun M1 o1 t1 r1 => HO nb h1 h2 M1 (offP_trans S.1 o1) (tkR_s t1 S.2.1) r1.2.2.2.2.1.1 r1.2.2.2.2.1.2 sl.2.2.2 ?_))
    have i5 := (stl_in (m := 1) (by decide) (l := l) S.2.2.2.2.1).2.2.2.2
    have i6 : l.length + pw p ≤ j := sl.2.2.1
    omega
  refine b_X10_parsed_48 (d := d + 1) hn hP ⟨fun _ => ⟨fun _ => h_openNow hn hP rep1 (by omega) ⟨fun z => bad ?_, fun z => ⟨fun t0 => good (by omega) (fun q => absurd t0 q), fun t1 => h_isCompared hn hP rep1 (by omega) sl.2.1 (fun yc => ⟨fun _ => good (by omega) (fun _ => yc), fun q => absurd q (by decide)⟩) (fun nc => ⟨fun q => absurd rfl q, fun _ => bad (Or.inl ⟨⟨t1, ?_⟩, nc⟩)⟩)⟩⟩, fun q => absurd q (by decide)⟩, fun q => absurd (by decide) q⟩
  · rcases hE with h | h | h
    · exact Or.inr (Or.inl h)
    · exact Or.inr (Or.inr h)
    · exact absurd z (by omega)
  · have z' : ¬ 0 ≤ opn p := z
    omega
theorem RL_of (hn : 82 ≤ n) (hP : x_PP P) (E : env f L τ κ tr J M0) : RLs (Kf f L) (Vf f L) κ tr (XX g d n P F f L τ tr J M0) (ZZ F f L τ M0) (ZE F f L τ J M0) := by
  refine ⟨?_, ?_, ?_, ?_, ?_, ?_, ?_, ?_, ?_, ?_, ?_, ?_⟩
  · intro j p c l u e v h hx
    refine x_begin hn hP E (fun e' v' h' => ?_) (fun e' i' h' => (bg_tok h' h).elim) (fun o _ h' => absurd h' (by rcases h with h | h <;> omega)) (fun _ _ h' => absurd h' (by rcases h with h | h <;> omega)) (fun _ h' => absurd h' (by rcases h with h | h <;> omega))
    have : e' = e ∧ v' = v := by rcases h with h | h <;> rcases h' with h' | h' <;> omega
    rw [this.1, this.2]
    exact hx
  · intro j p c l u e i h hz
    exact x_begin hn hP E (fun e' v' h' => (bg_tok h h').elim) (fun e' i' h' => by rw [(bg_one h h').1, (bg_one h h').2]; exact hz) (fun o h8 h' => (bg_opn h h8 h').elim) (fun h8 ha k k' => (bg_most h h8 ha k k').elim) (fun ha k k4 k' v => (bg_fact h ha k k4 k' v).elim)
  · intro j p c l u o h8 h hx
    refine x_begin hn hP E (fun e' v' h' => absurd h' (by omega)) (fun e' i' h' => (bg_opn h' h8 h).elim) (fun o' _ h' => ?_) (fun _ _ h' => absurd h' (by omega)) (fun _ h' => absurd h' (by omega))
    have q : o' = o := by omega
    rw [q]
    exact hx
  · intro j p c l u h8 ha k k' hx
    exact x_begin hn hP E (fun e' v' h' => absurd h' (by omega)) (fun e' i' h' => (bg_most h' h8 ha k k').elim) (fun o' _ h' => absurd h' (by omega)) (fun _ _ _ _ => hx) (fun _ h' => absurd h' (by omega))
  · intro j p c l u ha k k4 k' v hx
    exact x_begin hn hP E (fun e' v' h' => absurd h' (by omega)) (fun e' i' h' => (bg_fact h' ha k k4 k' v).elim) (fun o' _ h' => absurd h' (by omega)) (fun _ _ h' => absurd h' (by omega)) (fun _ _ _ _ _ => hx)
  · intro j p c l u o h hx
    exact x_behind hn hP E (fun o' h' => by rw [btw_one h h']; exact hx) (fun _ _ _ nb => (btw_nob h nb).elim) (fun _ _ nb => (btw_nob h nb).elim) (fun _ _ _ _ _ nb => (btw_nob h nb).elim) (fun _ _ nb => (btw_nob h nb).elim) (fun nb => (btw_nob h nb).elim) (fun nb => (btw_nob h nb).elim)
  · intro j p c l u q nb o1 c1 k q6 hx
    refine x_behind hn hP E (fun o' h' => (btw_nob h' nb).elim) (fun q' c' e _ _ _ _ _ => ?_) (fun c' e => ?_) (fun _ _ _ _ _ _ _ _ k' => absurd k' (by omega)) (fun _ _ _ o' => absurd o' (by omega)) (fun _ h' => absurd h' ?_) (fun _ o' => absurd o' (by omega))
    · cases e; exact hx
    · cases e; exact absurd q6 (by decide)
    · rw [c1, o1, k]; intro z; rcases z with ⟨_, z⟩ | z | z; exact absurd z (by decide); exact absurd z (by decide); exact absurd z (by decide)
  · intro j p c l u nb o1 c1 k hz
    refine x_behind hn hP E (fun o' h' => (btw_nob h' nb).elim) (fun q' c' e _ _ _ _ q6 => ?_) (fun _ _ _ _ _ _ => hz) (fun _ _ _ _ _ _ _ _ k' => absurd k' (by omega)) (fun _ _ _ o' => absurd o' (by omega)) (fun _ h' => absurd h' ?_) (fun _ o' => absurd o' (by omega))
    · cases e; exact absurd q6 (by decide)
    · rw [c1, o1, k]; intro z; rcases z with ⟨_, z⟩ | z | z; exact absurd z (by decide); exact absurd z (by decide); exact absurd z (by decide)
  · intro j p c l u q p' l' nb o1 c1 k hs hx
    refine x_behind hn hP E (fun o' h' => (btw_nob h' nb).elim) (fun _ _ _ _ _ _ k' => absurd k' (by omega)) (fun _ _ _ _ _ k' => absurd k' (by omega)) (fun q' c' p2 l2 e _ _ _ _ hs2 => ?_) (fun _ _ _ o' => absurd o' (by omega)) (fun _ h' => absurd h' ?_) (fun _ o' => absurd o' (by omega))
    · cases e
      rw [hs] at hs2
      cases hs2
      exact hx
    · rw [c1, o1, k]; intro z; rcases z with ⟨_, z⟩ | z | z; exact absurd z (by decide); exact absurd z (by decide); exact absurd z (by decide)
  · intro j p c l u p' l' nb o1 k hs hx
    refine x_behind hn hP E (fun o' h' => (btw_nob h' nb).elim) (fun _ _ _ _ o' => absurd o' (by omega)) (fun _ _ _ o' => absurd o' (by omega)) (fun _ _ _ _ _ _ o' => absurd o' (by omega)) (fun p2 l2 _ _ _ hs2 => ?_) (fun _ h' => absurd h' ?_) (fun _ o' => absurd o' (by omega))
    · rw [hs] at hs2
      cases hs2
      exact hx
    · intro z
      rcases z with z | z | z
      · exact z.1.2 o1
      · omega
      · exact z.2 k
  · intro j p c l u nb h hz
    refine x_behind hn hP E (fun o' h' => (btw_nob h' nb).elim) (fun _ _ _ _ o1 c1 k => absurd h ?_) (fun _ _ _ o1 c1 k => absurd h ?_) (fun _ _ _ _ _ _ o1 c1 k => absurd h ?_) (fun _ _ _ o1 k => absurd h ?_) (fun _ _ => hz) (fun _ o1 c1 => absurd h ?_)
    · rw [c1, o1, k]; intro z; rcases z with ⟨_, z⟩ | z | z; exact absurd z (by decide); exact absurd z (by decide); exact absurd z (by decide)
    · rw [c1, o1, k]; intro z; rcases z with ⟨_, z⟩ | z | z; exact absurd z (by decide); exact absurd z (by decide); exact absurd z (by decide)
    · rw [c1, o1, k]; intro z; rcases z with ⟨_, z⟩ | z | z; exact absurd z (by decide); exact absurd z (by decide); exact absurd z (by decide)
    · intro z
      rcases z with z | z | z
      · exact z.1.2 o1
      · omega
      · exact z.2 k
    · intro z
      rcases z with z | z | z
      · have := z.2; rw [c1 z.1.1] at this; cases this
      · omega
      · omega
  · intro j p c l u nb o1 c1 hz
    refine x_behind hn hP E (fun o' h' => (btw_nob h' nb).elim) (fun _ _ _ _ o' => absurd o' (by omega)) (fun _ _ _ o' => absurd o' (by omega)) (fun _ _ _ _ _ _ o' => absurd o' (by omega)) (fun _ _ _ o' => absurd o' (by omega)) (fun _ h' => absurd h' ?_) (fun _ _ _ => hz)
    intro z
    rcases z with z | z | z
    · have := z.2; rw [c1 z.1.1] at this; cases this
    · omega
    · omega
/-- a law's words read by the reference -/
theorem h_parsed (hn : 82 ≤ n) (hP : x_PP P) (ht : tpT f L M) (hk : tkR f L M (ps f L j)) (h14 : M 64 14 = (if κ < 4 then 4 else κ - 4)) (hκ : 0 ≤ κ ∧ κ < 8) (hJ : tkJ f L J) (hτ : 0 ≤ τ ∧ τ ≤ 3) (h12 : M 64 12 = 705 * τ) (h13 : M 64 13 = (l.length : Int)) (hol : olR τ M l) (hj : j ≤ J) (hl : l.length ≤ j) (htr : tr = 0 ∨ tr = 1) {fu : Nat} (hfu : (lwS (Kf f L) (Vf f L) κ fu tr j).1 ≠ -1)
    (H0 : (lwS (Kf f L) (Vf f L) κ fu tr j).1 = 0 → ∀ M', offP τ (x_upd M 64 21 tr) M' → tkR f L M' (ps f L (lwS (Kf f L) (Vf f L) κ fu tr j).2.1) → M' 64 13 = ((l ++ (lwS (Kf f L) (Vf f L) κ fu tr j).2.2).length : Int) → olR τ M' (l ++ (lwS (Kf f L) (Vf f L) κ fu tr j).2.2) → F M' 0)
    (H1 : (lwS (Kf f L) (Vf f L) κ fu tr j).1 ≠ 0 → ∀ M', offP τ (x_upd M 64 21 tr) M' → tkR f L M' (ps f L (lwS (Kf f L) (Vf f L) κ fu tr j).2.1) → F M' (lwS (Kf f L) (Vf f L) κ fu tr j).1) : xCI Y_X10_parsed g (d + 8) [vR (some 64), vI tr] n P M F := by
  refine b_X10_parsed (d := d + 1) hn hP ⟨htr, ?_⟩
  have e0 : ∀ k : Int, ¬ (17 ≤ k ∧ k ≤ 22) → (x_upd (x_upd (x_upd (x_upd (x_upd (x_upd M 64 17 0) 64 18 0) 64 19 0) 64 20 0) 64 21 tr) 64 22 0) 64 k = M 64 k := fun k hk => by rw [x_upd_nj (by omega), x_upd_nj (by omega), x_upd_nj (by omega), x_upd_nj (by omega), x_upd_nj (by omega), x_upd_nj (by omega)]
  have ec : ∀ c k, c ≠ 64 → (x_upd (x_upd (x_upd (x_upd (x_upd (x_upd M 64 17 0) 64 18 0) 64 19 0) 64 20 0) 64 21 tr) 64 22 0) c k = M c k := fun c k hc => by rw [x_upd_nb hc, x_upd_nb hc, x_upd_nb hc, x_upd_nb hc, x_upd_nb hc, x_upd_nb hc]
  have o1 : offP τ (x_upd M 64 21 tr) (x_upd (x_upd (x_upd (x_upd (x_upd (x_upd M 64 17 0) 64 18 0) 64 19 0) 64 20 0) 64 21 tr) 64 22 0) := by
    refine ⟨fun c h1 _ _ _ => ?_, fun k h1 h2 h3 h4 => ?_, fun i _ => ?_⟩
    · funext q; rw [ec c q h1, x_upd_nb h1]
    · by_cases q : k = 21
      · subst q; rw [x_upd_nj (by decide), x_upd_at, x_upd_at]
      · rw [e0 k (by omega), x_upd_nj q]
    · rw [ec 67 i (by decide), x_upd_nb (by decide)]
  generalize hN : (x_upd (x_upd (x_upd (x_upd (x_upd (x_upd M 64 17 0) 64 18 0) 64 19 0) 64 20 0) 64 21 tr) 64 22 0) = N at *
  have E : env f L τ κ tr J (x_upd M 64 21 tr) := ⟨⟨by rw [x_upd_nj (by decide)]; exact ht.1, ht.2.1, fun i i0 i1 => by rw [x_upd_nb (by decide)]; exact ht.2.2 i i0 i1⟩, by rw [x_upd_nj (by decide)]; exact h14, hκ, x_upd_at _ _ _ _, hJ, hτ⟩
  have S : stM f L τ J (x_upd M 64 21 tr) N (b2 false) j [] [] l (b2 false) := by
    refine ⟨o1, tkR_s (fun k k7 k11 => e0 k (by omega)) hk, ⟨?_, ?_, ?_, ⟨?_, ?_⟩, ⟨?_, fun i hi => ?_⟩, ?_⟩, hj, trivial, Nat.zero_le _, rfl, hl, fun x hx => by cases hx⟩
    · show N 64 17 = 0
      rw [← hN, x_upd_nj (by decide), x_upd_nj (by decide), x_upd_nj (by decide), x_upd_nj (by decide), x_upd_nj (by decide), x_upd_at]
    · rw [← hN, x_upd_nj (by decide), x_upd_nj (by decide), x_upd_nj (by decide), x_upd_nj (by decide), x_upd_at]; rfl
    · show N 64 19 = 0
      rw [← hN, x_upd_nj (by decide), x_upd_nj (by decide), x_upd_nj (by decide), x_upd_at]
    · rw [← hN, x_upd_nj (by decide), x_upd_nj (by decide), x_upd_at]; rfl
    · rw [← hN, x_upd_at]; rfl
    · rw [e0 13 (by decide)]; exact h13
    · rw [ec 67 _ (by decide), ec 67 _ (by decide)]; exact hol i hi
    · rw [e0 12 (by decide)]; exact h12
  exact sim_law (RL_of (g := g) (d := d) (F := F) hn hP E) (f := fu) (j := j) (l := l) hfu (fun q M' o' t' e13 ol _ _ => H0 q M' o' t' e13 ol) (fun q _ M' o' t' => H1 q M' o' t') N S
end Parsed
