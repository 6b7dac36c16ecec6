/-! the reference's words -/
def wl (f : Int → Int) (L s : Int) : List Int := wd f s (rE ltB f L s)
theorem wd_len (f : Int → Int) : ∀ (m : Nat) (p : Int), (ltr f m p).length = m
  | 0, _ => rfl
  | m + 1, p => by show (ltr f m (p + 1)).length + 1 = m + 1; rw [wd_len f m]
theorem ltr_mem {f : Int → Int} : ∀ {m : Nat} {p c : Int}, c ∈ ltr f m p → ∃ j, p ≤ j ∧ j < p + m ∧ c = f j
  | 0, _, _, h => nomatch h
  | m + 1, p, c, h => by
    rcases List.mem_cons.mp h with e | e
    · exact ⟨p, by omega, by omega, e⟩
    · obtain ⟨j, h1, h2, h3⟩ := ltr_mem e
      exact ⟨j, by omega, by omega, h3⟩
theorem wl_lt {f : Int → Int} {L s : Int} (h : s ≤ L) : ∀ c ∈ wl f L s, 0 < c ∧ c < 256 := fun c hc => by
  obtain ⟨j, h1, h2, h3⟩ := ltr_mem hc
  have rg := rE_rg (q := ltB) (f := f) (L := L) (p := s) h
  have := ltB_t.mp (rg.2.1 j h1 (by omega))
  omega
theorem wK_iff {l : List Int} : ∀ {T : List (List Int)} {k0 : Int} {k : Nat}, T.Nodup → k < T.length → k0 + T.length ≤ 74 → (wK l T k0 = k0 + k ↔ l = T.getD k [])
  | [], _, _, _, h, _ => absurd h (by show ¬ _ < 0; omega)
  | w :: T, k0, k, nd, h, h74 => by
    obtain ⟨n1, n2⟩ := List.nodup_cons.mp nd
    have e : wK l (w :: T) k0 = if l = w then k0 else wK l T (k0 + 1) := rfl
    have hl : (w :: T).length = T.length + 1 := rfl
    rw [e]
    cases k with
    | zero =>
      show _ ↔ l = w
      by_cases q : l = w
      · rw [if_pos q]; exact ⟨fun _ => q, fun _ => by show k0 = k0 + 0; omega⟩
      · rw [if_neg q]
        refine ⟨fun z => ?_, fun z => absurd z q⟩
        exfalso
        have gt : ∀ (T : List (List Int)) (k : Int), k + T.length ≤ 74 → k ≤ wK l T k := by
          intro T
          induction T with
          | nil => intro k hk; show k ≤ 74; have : (([] : List (List Int)).length : Int) = 0 := rfl; omega
          | cons x T ih =>
            intro k hk
            have hx : ((x :: T).length : Int) = (T.length : Int) + 1 := by rw [List.length_cons]; omega
            have ex : wK l (x :: T) k = if l = x then k else wK l T (k + 1) := rfl
            rw [ex]
            by_cases q : l = x
            · rw [if_pos q]; exact Int.le_refl _
            · rw [if_neg q]; have := ih (k + 1) (by omega); omega
        have := gt T (k0 + 1) (by omega)
        have z' : wK l T (k0 + 1) = k0 + 0 := z
        omega
    | succ k =>
      show _ ↔ l = T.getD k []
      have ih := wK_iff (l := l) (T := T) (k0 := k0 + 1) (k := k) n2 (by omega) (by omega)
      by_cases q : l = w
      · rw [if_pos q]
        refine ⟨fun z => by omega, fun z => ?_⟩
        exfalso
        apply n1
        rw [← q, z]
        have : k < T.length := by omega
        rw [List.getD_eq_getElem?_getD, List.getElem?_eq_getElem this]
        exact List.getElem_mem _
      · rw [if_neg q, ← ih]
        constructor <;> intro z <;> omega
theorem wT_nd : wT.Nodup := by decide +kernel
theorem wT_len : wT.length = 26 := rfl
/-- a word by its number in the table -/
theorem kd_iff {f : Int → Int} {L s : Int} {k : Nat} (hk : k < 26) : kd f L s = (k : Int) ↔ (¬ L ≤ s ∧ isLt (f s)) ∧ wl f L s = wT.getD k [] := by
  unfold kd
  by_cases h1 : L ≤ s
  · rw [if_pos h1]
    exact ⟨fun z => by omega, fun z => absurd h1 z.1.1⟩
  · rw [if_neg h1]
    by_cases h2 : isLt (f s)
    · rw [if_pos h2]
      have := wK_iff (l := wd f s (rE ltB f L s)) (T := wT) (k0 := 0) (k := k) wT_nd (by rw [wT_len]; exact hk) (by rw [wT_len]; decide)
      rw [Int.zero_add] at this
      rw [this]
      exact ⟨fun z => ⟨⟨h1, h2⟩, z⟩, fun z => z.2⟩
    · rw [if_neg h2]
      refine ⟨fun z => ?_, fun z => absurd z.1.2 h2⟩
      exfalso
      revert z
      split
      · intro z; omega
      · split
        · intro z; omega
        · split
          · intro z; omega
          · split
            · rename_i q; intro z; omega
            · intro z; omega
theorem wT_lt : ∀ k : Fin 26, ∀ c ∈ wT.getD k.val [], 0 < c ∧ c < 256 := by decide +kernel
theorem tk9_2 {f : Int → Int} {L s : Int} {M : xM} (h : tkR f L M s) : M 64 9 = 2 ↔ ¬ L ≤ s ∧ isLt (f s) := by
  obtain ⟨_, _, a, b, c, e⟩ := h
  by_cases h1 : L ≤ s
  · rw [a h1]; exact ⟨fun z => absurd z (by decide), fun z => absurd h1 z.1⟩
  · by_cases h2 : isLt (f s)
    · exact ⟨fun _ => ⟨h1, h2⟩, fun _ => (b h1 h2).1⟩
    · refine ⟨fun z => ?_, fun z => absurd z.2 h2⟩
      exfalso
      by_cases h3 : isDg (f s)
      · rw [(c h1 h2 h3).1] at z; omega
      · rw [e h1 h2 h3] at z
        revert z
        split
        · intro z; omega
        · split
          · intro z; omega
          · split
            · rename_i q; intro z; omega
            · intro z; omega
section Words
variable {g : Option Nat} {d n : Nat} {P : xP} {M : xM} {F : xM → Int → Prop} {G : xM → Prop}
abbrev by1 (a : Int) : Prop := 0 ≤ a ∧ a < 256
theorem c_w2 (hn : 82 ≤ n) {a b : Int} (ha : by1 a) (hb : by1 b) (H : F M (vlF [a, b] 0)) : xCJ Y_X10_w2 g d [vI a, vI b] n P M F := by
  refine b_X10_w2 hn ?_
  rw [x_lshl_8 (by omega), x_lor_add (by omega) hb]
  have e : vlF [a, b] 0 = a * 256 + b := by show (0 * 256 + a) * 256 + b = _; omega
  rw [e] at H
  exact H
theorem c_w3 (hn : 82 ≤ n) {a b c : Int} (ha : by1 a) (hb : by1 b) (hc : by1 c) (H : F M (vlF [a, b, c] 0)) : xCJ Y_X10_w3 g (d + 1) [vI a, vI b, vI c] n P M F := by
  refine b_X10_w3 hn (c_w2 hn ha hb ?_)
  have e2 : vlF [a, b] 0 = a * 256 + b := by show (0 * 256 + a) * 256 + b = _; omega
  rw [x_lshl_8 (by omega), x_lor_add (by omega) hc]
  exact H
theorem c_w4 (hn : 82 ≤ n) {a b c e : Int} (ha : by1 a) (hb : by1 b) (hc : by1 c) (he : by1 e) (H : F M (vlF [a, b, c, e] 0)) : xCJ Y_X10_w4 g (d + 2) [vI a, vI b, vI c, vI e] n P M F := by
  refine b_X10_w4 hn (c_w3 hn ha hb hc ?_)
  have e2 : vlF [a, b, c] 0 = (a * 256 + b) * 256 + c := by show ((0 * 256 + a) * 256 + b) * 256 + c = _; omega
  rw [x_lshl_8 (by omega), x_lor_add (by omega) he]
  exact H
theorem c_w5 (hn : 82 ≤ n) {a b c e h : Int} (ha : by1 a) (hb : by1 b) (hc : by1 c) (he : by1 e) (hh : by1 h) (H : F M (vlF [a, b, c, e, h] 0)) : xCJ Y_X10_w5 g (d + 3) [vI a, vI b, vI c, vI e, vI h] n P M F := by
  refine b_X10_w5 hn (c_w4 hn ha hb hc he ?_)
  have e2 : vlF [a, b, c, e] 0 = ((a * 256 + b) * 256 + c) * 256 + e := by show (((0 * 256 + a) * 256 + b) * 256 + c) * 256 + e = _; omega
  rw [x_lshl_8 (by omega), x_lor_add (by omega) hh]
  exact H
theorem c_w6 (hn : 82 ≤ n) {a b c e h i : Int} (ha : by1 a) (hb : by1 b) (hc : by1 c) (he : by1 e) (hh : by1 h) (hi : by1 i) (H : F M (vlF [a, b, c, e, h, i] 0)) : xCJ Y_X10_w6 g (d + 4) [vI a, vI b, vI c, vI e, vI h, vI i] n P M F := by
  refine b_X10_w6 hn (c_w5 hn ha hb hc he hh ?_)
  have e2 : vlF [a, b, c, e, h] 0 = (((a * 256 + b) * 256 + c) * 256 + e) * 256 + h := by show ((((0 * 256 + a) * 256 + b) * 256 + c) * 256 + e) * 256 + h = _; omega
  rw [x_lshl_8 (by omega), x_lor_add (by omega) hi]
  exact H
theorem cmp_eq {a b : Int} : x_cmp a b = 0 ↔ a = b := by
  unfold x_cmp
  split
  · omega
  · split <;> omega
/-- is it word k of the table (at most seven letters)? -/
theorem pk_kd {f : Int → Int} {L s : Int} {k : Nat} (hk : k < 26) (hs : s ≤ L) (h7 : vlF (wT.getD k []) 0 < 2 ^ 56) (ht : tkR f L M s) : (M 64 9 = 2 ∧ M 64 11 = vlF (wT.getD k []) 0) ↔ kd f L s = (k : Int) := by
  rw [kd_iff hk, tk9_2 ht]
  constructor
  · intro h
    obtain ⟨_, _, _, b, _⟩ := ht
    have := (b h.1.1 h.1.2).2
    rw [h.2] at this
    exact ⟨h.1, (pk_iff (wl_lt hs) (wT_lt ⟨k, hk⟩) h7).mp this.symm⟩
  · intro h
    obtain ⟨_, _, _, b, _⟩ := ht
    have := (b h.1.1 h.1.2).2
    exact ⟨h.1, by rw [this]; exact (pk_iff (wl_lt hs) (wT_lt ⟨k, hk⟩) h7).mpr h.2⟩
theorem q_isWord (hn : 82 ≤ n) (hP : x_PP P) {f : Int → Int} {L s a : Int} (k : Nat) (hk : k < 26) (hs : s ≤ L) (h7 : vlF (wT.getD k []) 0 < 2 ^ 56) (ha : a = vlF (wT.getD k []) 0) (ht : tkR f L M s) (H : F M (bi (kd f L s = (k : Int)))) : xCI Y_X10_isWord g d [vR (some 64), vJ a] n P M F := by
  have pk := pk_kd hk hs h7 ht
  rw [← ha] at pk
  have t : kd f L s = (k : Int) → F M 1 := fun h => by rwa [bi_t h] at H
  have z : ¬ kd f L s = (k : Int) → F M 0 := fun h => by rwa [bi_f h] at H
  exact b_X10_isWord hn hP ⟨fun q => z (fun w => q (pk.mpr w).1), fun q => ⟨fun q2 => z (fun w => q2 (cmp_eq.mpr (pk.mpr w).2)), fun q2 => t (pk.mp ⟨q, cmp_eq.mp q2⟩)⟩⟩
end Words
