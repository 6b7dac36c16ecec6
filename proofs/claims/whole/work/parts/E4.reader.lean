/-! the class's Reader: small steps. t: the text's cell; J, K, V, p: the tokens -/
def fcs : List (Int × Int) → Int → Int
  | [], a => a
  | c :: r, a => fcs r (if c.1 = 24 then x_or a (x_shl 1 c.2) else a)
theorem fcs_app : ∀ (l r : List (Int × Int)) (a : Int), fcs (l ++ r) a = fcs r (fcs l a)
  | [], _, _ => rfl
  | c :: l, r, a => fcs_app l r _
def tokC (J : Nat) (K V p : Nat → Int) (M : xM) : Prop := M 37 5 = (J : Int) + 1 ∧ J ≤ 300 ∧ ∀ j, j ≤ J → M 39 (j : Int) = K j ∧ M 40 (j : Int) = p j ∧ M 41 (j : Int) = V j
def pg (t : Nat) (l : List (Int × Int)) (M : xM) : Prop := M t 1 = (l.length : Int) ∧ (∀ i : Nat, i < l.length → M (t + 1) (i : Int) = (l.getD i (0, 0)).1 * 16384 + (l.getD i (0, 0)).2) ∧ M t 6 = fcs l 0 ∧ M 82 6 = 0 ∧ M 82 7 = -1
def cl (t J : Nat) (K V p : Nat → Int) (κ : Int) (M : xM) (j : Nat) (l : List (Int × Int)) : Prop := tokC J K V p M ∧ (M 82 2 = (j : Int) ∧ M 82 3 = K j ∧ j ≤ J ∧ M 82 4 = κ) ∧ pg t l M ∧ l.length ≤ j
def flt (t J : Nat) (K V p : Nat → Int) (M : xM) (e : Int) (j : Nat) : Prop := tokC J K V p M ∧ M 82 6 = e ∧ M 82 7 = p j ∧ 0 ≤ M t 1
def offX (t : Nat) (M M' : xM) : Prop := (∀ c, c ≠ 82 → c ≠ t → c ≠ t + 1 → M' c = M c) ∧ ∀ k, k ≠ 1 → k ≠ 6 → M' t k = M t k
theorem offX_refl (t : Nat) (M : xM) : offX t M M := ⟨fun _ _ _ _ => rfl, fun _ _ _ => rfl⟩
theorem offX_trans {t : Nat} {M M' M'' : xM} (h : offX t M M') (h' : offX t M' M'') : offX t M M'' := ⟨fun c h1 h2 h3 => (h'.1 c h1 h2 h3).trans (h.1 c h1 h2 h3), fun k h1 h2 => (h'.2 k h1 h2).trans (h.2 k h1 h2)⟩
theorem offX_82 {t : Nat} {M M' : xM} {i v : Int} (ht : t ≠ 82) (h : offX t M M') : offX t M (x_upd M' 82 i v) := ⟨fun c h1 h2 h3 => by rw [← h.1 c h1 h2 h3]; funext q; exact x_upd_nb h1, fun k h1 h2 => by rw [← h.2 k h1 h2]; exact x_upd_nb ht⟩
theorem tokC_X {t J : Nat} {K V p : Nat → Int} {M M' : xM} (ht : 43 ≤ t ∧ t ≤ 58) (h : offX t M M') (hk : tokC J K V p M) : tokC J K V p M' := by
  unfold tokC at *
  rw [h.1 37 (by decide) (by omega) (by omega), h.1 39 (by decide) (by omega) (by omega), h.1 40 (by decide) (by omega) (by omega), h.1 41 (by decide) (by omega) (by omega)]
  exact hk
theorem pg_82 {t : Nat} {l : List (Int × Int)} {M : xM} {i v : Int} (ht : 43 ≤ t ∧ t ≤ 58) (h : pg t l M) (hi : i ≠ 6 ∧ i ≠ 7 := by decide) : pg t l (x_upd M 82 i v) := by
  obtain ⟨h1, h2, h3, h4, h5⟩ := h
  refine ⟨by rw [x_upd_nb (by omega)]; exact h1, fun q hq => by rw [x_upd_nb (by omega)]; exact h2 q hq, by rw [x_upd_nb (by omega)]; exact h3, by rw [x_upd_nj (by omega)]; exact h4, by rw [x_upd_nj (by omega)]; exact h5⟩
section Reader
variable {g : Option Nat} {d n : Nat} {P : xP} {M : xM} {F : xM → Int → Prop} {G : xM → Prop} {t J : Nat} {K V p : Nat → Int} {κ : Int}
theorem k_advance (hn : 83 ≤ n) (hP : x_PP P) (hT : x_Text n P t) (hr0 : P 82 0 = some 37) (hr1 : P 82 1 = some t) (ht : 43 ≤ t ∧ t ≤ 58) {j : Nat} {l : List (Int × Int)} (h : cl t J K V p κ M j l) (hj : j < J) (H : ∀ M', offX t M M' → cl t J K V p κ M' (j + 1) l → M' 82 5 = M 82 5 → G M') : xCV Y_X4_advance g d [vR (some 82)] n P M G := by
  obtain ⟨⟨k1, k2, k3⟩, ⟨h1, h2, h3, h4⟩, h5, h6⟩ := h
  have kj := (k3 (j + 1) (by omega)).1
  refine b_X4_advance hn hP hT hr0 hr1 ⟨by unfold inR; omega, fun q => absurd q (by omega), fun q => ⟨by unfold inR; omega, by omega, ?_⟩⟩
  rw [h1, show (j : Int) + 1 = ((j + 1 : Nat) : Int) by omega, kj]
  have o : offX t M (x_upd (x_upd M 82 2 ((j + 1 : Nat) : Int)) 82 3 (K (j + 1))) := offX_82 (by omega) (offX_82 (by omega) (offX_refl t M))
  refine H _ o ⟨tokC_X ht o ⟨k1, k2, k3⟩, ⟨?_, ?_, by omega, ?_⟩, pg_82 ht (pg_82 ht h5), by omega⟩ ?_
  · rw [x_upd_nj (by decide), x_upd_at]
  · rw [x_upd_at]
  · rw [x_upd_nj (by decide), x_upd_nj (by decide)]; exact h4
  · rw [x_upd_nj (by decide), x_upd_nj (by decide)]
theorem k_refuse (hn : 83 ≤ n) (hP : x_PP P) (hT : x_Text n P t) (hr0 : P 82 0 = some 37) (hr1 : P 82 1 = some t) (ht : 43 ≤ t ∧ t ≤ 58) {j : Nat} {l : List (Int × Int)} {e : Int} (h : cl t J K V p κ M j l) (H : ∀ M', offX t M M' → flt t J K V p M' e j → F M' 0) : xCI Y_X4_refuse g d [vR (some 82), vI e] n P M F := by
  obtain ⟨⟨k1, k2, k3⟩, ⟨h1, h2, h3, h4⟩, h5, h6⟩ := h
  have kj := (k3 j h3).2.1
  refine b_X4_refuse hn hP hT hr0 hr1 ⟨fun q => absurd q (by omega), fun q => ⟨fun q2 => absurd q2 (by omega), fun q2 => ⟨by omega, ?_⟩⟩⟩
  rw [h1, kj]
  have o : offX t M (x_upd (x_upd M 82 6 e) 82 7 (p j)) := offX_82 (by omega) (offX_82 (by omega) (offX_refl t M))
  refine H _ o ⟨tokC_X ht o ⟨k1, k2, k3⟩, ?_, ?_, ?_⟩
  · rw [x_upd_nj (by decide), x_upd_at]
  · rw [x_upd_at]
  · rw [x_upd_nb (by omega), x_upd_nb (by omega), h5.1]; omega
theorem k_take (hn : 83 ≤ n) (hP : x_PP P) (hT : x_Text n P t) (hr0 : P 82 0 = some 37) (hr1 : P 82 1 = some t) (ht : 43 ≤ t ∧ t ≤ 58) (hJ : ∀ j, j ≤ J → (K j = 73 ↔ j = J)) {j : Nat} {l : List (Int × Int)} {w : Int} (hw : w ≠ 73) (h : cl t J K V p κ M j l) (H1 : K j = w → ∀ M', offX t M M' → cl t J K V p κ M' (j + 1) l → F M' 1) (H0 : K j ≠ w → ∀ M', offX t M M' → flt t J K V p M' 1 j → F M' 0) : xCI Y_X4_take g (d + 1) [vR (some 82), vI w] n P M F := by
  have h2 := h.2.1.2.1
  have h3 := h.2.1.2.2.1
  refine b_X4_take hn hP hT hr0 hr1 ⟨fun q => ?_, fun q => k_refuse hn hP hT hr0 hr1 ht h (fun M' o' f' => ⟨Or.inl rfl, H0 (fun z => q (by rw [h2]; exact z)) M' o' f'⟩)⟩
  rw [h2] at q
  have lt : j < J := by
    have : j ≠ J := fun e => hw (by rw [← q]; exact (hJ j h3).mpr e)
    omega
  exact k_advance hn hP hT hr0 hr1 ht h lt (fun M' o' c' _ => H1 q M' o' c')
theorem k_takeNumber (hn : 83 ≤ n) (hP : x_PP P) (hT : x_Text n P t) (hr0 : P 82 0 = some 37) (hr1 : P 82 1 = some t) (ht : 43 ≤ t ∧ t ≤ 58) (hJ : ∀ j, j ≤ J → (K j = 73 ↔ j = J)) {j : Nat} {l : List (Int × Int)} {lo hi : Int} (h : cl t J K V p κ M j l) (H1 : K j = 72 → (lo ≤ V j ∧ V j ≤ hi) → ∀ M', offX t M M' → cl t J K V p κ M' (j + 1) l → M' 82 5 = V j → F M' 1) (H2 : K j = 72 → ¬ (lo ≤ V j ∧ V j ≤ hi) → ∀ M', offX t M M' → flt t J K V p M' 2 j → F M' 0) (H0 : K j ≠ 72 → ∀ M', offX t M M' → flt t J K V p M' 1 j → F M' 0) : xCI Y_X4_takeNumber g (d + 1) [vR (some 82), vI lo, vI hi] n P M F := by
  obtain ⟨⟨k1, k2, k3⟩, ⟨h1, h2, h3, h4⟩, h5, h6⟩ := h
  have h' : cl t J K V p κ M j l := ⟨⟨k1, k2, k3⟩, ⟨h1, h2, h3, h4⟩, h5, h6⟩
  have kj := (k3 j h3).2.2
  refine b_X4_takeNumber hn hP hT hr0 hr1 ⟨fun q => ?_, fun q => k_refuse hn hP hT hr0 hr1 ht h' (fun M' o' f' => ⟨Or.inl rfl, H0 (fun z => q (by rw [h2]; exact z)) M' o' f'⟩)⟩
  rw [h2] at q
  have lt : j < J := by
    have : j ≠ J := fun e => by have := (hJ j h3).mpr e; omega
    omega
  refine b_X4_valueHere hn hP hT hr0 hr1 ⟨fun q2 => absurd q2 (by omega), fun _ => ⟨fun q2 => absurd q2 (by omega), fun _ => ⟨by omega, ?_⟩⟩⟩
  rw [h1, kj]
  have o : offX t M (x_upd M 82 5 (V j)) := offX_82 (by omega) (offX_refl t M)
  have c2 : cl t J K V p κ (x_upd M 82 5 (V j)) j l := ⟨tokC_X ht o ⟨k1, k2, k3⟩, ⟨by rw [x_upd_nj (by decide)]; exact h1, by rw [x_upd_nj (by decide)]; exact h2, h3, by rw [x_upd_nj (by decide)]; exact h4⟩, pg_82 ht h5, h6⟩
  have bad : ¬ (lo ≤ V j ∧ V j ≤ hi) → xW Y_X4_takeNumber g (d + 1) 0 0 39 [(0, vR (some 82))] [] (0, 0) (n, P, x_upd M 82 5 (V j)) (kI n P F) := fun hb => b_X4_takeNumber_39 hn hP hT hr0 hr1 (k_refuse hn hP hT hr0 hr1 ht c2 (fun M' o' f' => ⟨Or.inl rfl, H2 q hb M' (offX_trans o o') f'⟩))
  exact ⟨fun z => bad (by omega), fun z => ⟨fun z2 => k_advance hn hP hT hr0 hr1 ht c2 lt (fun M' o' c' e' => H1 q ⟨by omega, z2⟩ M' (offX_trans o o') c' (by rw [e', x_upd_at])), fun z2 => bad (by omega)⟩⟩
theorem k_open (hn : 83 ≤ n) (hP : x_PP P) (hT : x_Text n P t) (hr0 : P 82 0 = some 37) (hr1 : P 82 1 = some t) (ht : 43 ≤ t ∧ t ≤ 58) {j dp : Nat} {l : List (Int × Int)} (h : cl t J K V p κ M j l) (hj : j < J) (H1 : dp < 8 → ∀ M', offX t M M' → cl t J K V p κ M' (j + 1) l → F M' 1) (H0 : ¬ dp < 8 → ∀ M', offX t M M' → flt t J K V p M' 3 j → F M' 0) : xCI Y_X4_open g (d + 1) [vR (some 82), vI (dp : Int)] n P M F :=
  b_X4_open hn hP hT hr0 hr1 ⟨fun q => k_advance hn hP hT hr0 hr1 ht h hj (fun M' o' c' _ => H1 (by omega) M' o' c'), fun q => k_refuse hn hP hT hr0 hr1 ht h (fun M' o' f' => ⟨Or.inl rfl, H0 (by omega) M' o' f'⟩)⟩
/-- an order written; order 24 has its own fact in cell 6 before -/
theorem k_emitG (hn : 82 ≤ n) (hP : x_PP P) (hT : x_Text n P t) (ht : 43 ≤ t ∧ t ≤ 58) {j : Nat} {l : List (Int × Int)} {o v : Int} (hk : tokC J K V p M) (hr : M 82 2 = (j : Int) ∧ M 82 3 = K j ∧ j ≤ J ∧ M 82 4 = κ) (h1 : M t 1 = (l.length : Int)) (h2 : ∀ i : Nat, i < l.length → M (t + 1) (i : Int) = (l.getD i (0, 0)).1 * 16384 + (l.getD i (0, 0)).2) (h6 : M t 6 = fcs (l ++ [(o, v)]) 0) (h82 : M 82 6 = 0 ∧ M 82 7 = -1) (hl : l.length < j) (ho : 0 ≤ o ∧ o < 128) (hv : 0 ≤ v ∧ v < 16384) (H : ∀ M', offX t M M' → cl t J K V p κ M' j (l ++ [(o, v)]) → G M') : xCV Y_X7_emit g d [vR (some t), vI o, vI v] n P M G := by
  have j300 := hk.2.1
  refine b_X7_emit hn hP hT ⟨fun q => absurd q (by omega), fun q => ⟨by omega, by rw [x_upd_nb (by omega)]; unfold inR; omega, ?_⟩⟩
  have e1 : x_upd M (t + 1) (M t 1) (x_or (x_shl o 14) v) t 1 = M t 1 := x_upd_nb (by omega)
  rw [e1, h1, x_pack ho hv]
  have len : (l ++ [(o, v)]).length = l.length + 1 := by rw [List.length_append]; rfl
  have off : offX t M (x_upd (x_upd M (t + 1) (l.length : Int) (o * 16384 + v)) t 1 ((l.length : Int) + 1)) := ⟨fun c c1 c2 c3 => by funext q; rw [x_upd_nb c2, x_upd_nb c3], fun k k1 _ => by rw [x_upd_nj k1, x_upd_nb (by omega)]⟩
  refine H _ off ⟨tokC_X ht off hk, ⟨?_, ?_, hr.2.2.1, ?_⟩, ⟨?_, fun i hi => ?_, ?_⟩, by omega⟩
  · rw [x_upd_nb (by omega), x_upd_nb (by omega)]; exact hr.1
  · rw [x_upd_nb (by omega), x_upd_nb (by omega)]; exact hr.2.1
  · rw [x_upd_nb (by omega), x_upd_nb (by omega)]; exact hr.2.2.2
  · rw [x_upd_at, len]; omega
  · rw [len] at hi
    rw [x_upd_nb (by omega)]
    by_cases q : i = l.length
    · subst q
      rw [x_upd_at, List.getD_eq_getElem?_getD, List.getElem?_append_right (Nat.le_refl _), Nat.sub_self]
      rfl
    · rw [x_upd_nj (by omega), List.getD_eq_getElem?_getD, List.getElem?_append_left (by omega), ← List.getD_eq_getElem?_getD]
      exact h2 i (by omega)
  · exact ⟨by rw [x_upd_nj (by decide), x_upd_nb (by omega)]; exact h6, by rw [x_upd_nb (by omega), x_upd_nb (by omega)]; exact h82.1, by rw [x_upd_nb (by omega), x_upd_nb (by omega)]; exact h82.2⟩
theorem k_emit (hn : 82 ≤ n) (hP : x_PP P) (hT : x_Text n P t) (ht : 43 ≤ t ∧ t ≤ 58) {j : Nat} {l : List (Int × Int)} {o v : Int} (h : cl t J K V p κ M j l) (hl : l.length < j) (ho : 0 ≤ o ∧ o < 128) (h24 : o ≠ 24) (hv : 0 ≤ v ∧ v < 16384) (H : ∀ M', offX t M M' → cl t J K V p κ M' j (l ++ [(o, v)]) → G M') : xCV Y_X7_emit g d [vR (some t), vI o, vI v] n P M G := by
  obtain ⟨hk, hr, ⟨h1, h2, h3, h82⟩, h6⟩ := h
  refine k_emitG hn hP hT ht hk hr h1 h2 ?_ h82 hl ho hv H
  rw [fcs_app, h3]
  show fcs l 0 = if o = 24 then _ else fcs l 0
  rw [if_neg h24]
theorem k_emitFact (hn : 82 ≤ n) (hP : x_PP P) (hT : x_Text n P t) (ht : 43 ≤ t ∧ t ≤ 58) {j : Nat} {l : List (Int × Int)} {v : Int} (h : cl t J K V p κ M j l) (hl : l.length < j) (hv : 0 ≤ v ∧ v < 16384) (H : ∀ M', offX t M M' → cl t J K V p κ M' j (l ++ [(24, v)]) → G M') : xCV Y_X7_emitFact g (d + 1) [vR (some t), vI v] n P M G := by
  obtain ⟨hk, hr, ⟨h1, h2, h3, h82⟩, h6⟩ := h
  have off : offX t M (x_upd M t 6 (x_or (M t 6) (x_shl 1 v))) := ⟨fun c c1 c2 c3 => by funext q; exact x_upd_nb c2, fun k _ k6 => x_upd_nj k6⟩
  refine b_X7_emitFact hn hP hT (k_emitG hn hP hT ht (tokC_X ht off hk) ?_ ?_ (fun i hi => ?_) ?_ ⟨by rw [x_upd_nb (by omega)]; exact h82.1, by rw [x_upd_nb (by omega)]; exact h82.2⟩ hl (by decide) hv (fun M' o' c' => H M' (offX_trans off o') c'))
  · rw [x_upd_nb (by omega), x_upd_nb (by omega), x_upd_nb (by omega)]; exact hr
  · rw [x_upd_nj (by decide)]; exact h1
  · rw [x_upd_nb (by omega)]; exact h2 i hi
  · rw [x_upd_at, fcs_app, h3]
    rfl
/-- behind a fault: whatever is written, the fault stays -/
theorem k_emitF (hn : 82 ≤ n) (hP : x_PP P) (hT : x_Text n P t) (ht : 43 ≤ t ∧ t ≤ 58) {j : Nat} {e o v : Int} (h : flt t J K V p M e j) (H : ∀ M', offX t M M' → flt t J K V p M' e j → G M') : xCV Y_X7_emit g d [vR (some t), vI o, vI v] n P M G := by
  obtain ⟨hk, h1, h2, h3⟩ := h
  refine b_X7_emit hn hP hT ⟨fun q => H M (offX_refl t M) ⟨hk, h1, h2, h3⟩, fun q => ⟨by omega, by rw [x_upd_nb (by omega)]; unfold inR; omega, ?_⟩⟩
  have off : offX t M (x_upd (x_upd M (t + 1) (M t 1) (x_or (x_shl o 14) v)) t 1 (x_upd M (t + 1) (M t 1) (x_or (x_shl o 14) v) t 1 + 1)) := ⟨fun c c1 c2 c3 => by funext q; rw [x_upd_nb c2, x_upd_nb c3], fun k k1 _ => by rw [x_upd_nj k1, x_upd_nb (by omega)]⟩
  refine H _ off ⟨tokC_X ht off hk, ?_, ?_, ?_⟩
  · rw [x_upd_nb (by omega), x_upd_nb (by omega)]; exact h1
  · rw [x_upd_nb (by omega), x_upd_nb (by omega)]; exact h2
  · rw [x_upd_at, x_upd_nb (by omega)]; omega
theorem k_emitFactF (hn : 82 ≤ n) (hP : x_PP P) (hT : x_Text n P t) (ht : 43 ≤ t ∧ t ≤ 58) {j : Nat} {e v : Int} (h : flt t J K V p M e j) (H : ∀ M', offX t M M' → flt t J K V p M' e j → G M') : xCV Y_X7_emitFact g (d + 1) [vR (some t), vI v] n P M G := by
  obtain ⟨hk, h1, h2, h3⟩ := h
  have off : offX t M (x_upd M t 6 (x_or (M t 6) (x_shl 1 v))) := ⟨fun c c1 c2 c3 => by funext q; exact x_upd_nb c2, fun k _ k6 => x_upd_nj k6⟩
  exact b_X7_emitFact hn hP hT (k_emitF hn hP hT ht ⟨tokC_X ht off hk, by rw [x_upd_nb (by omega)]; exact h1, by rw [x_upd_nb (by omega)]; exact h2, by rw [x_upd_nj (by decide)]; exact h3⟩ (fun M' o' f' => H M' (offX_trans off o') f'))
end Reader
