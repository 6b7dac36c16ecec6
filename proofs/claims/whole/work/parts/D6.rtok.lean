/-! the reference's tokens -/
def rv (f : Int → Int) : Nat → Int → Int → Int
  | 0, _, a => a
  | m + 1, p, a => rv f m (p + 1) (if a ≤ 99999 then 10 * a + f p - 48 else a)
def pkF : List Int → Int → Int
  | [], w => w
  | c :: r, w => pkF r (if x_lshr w 48 = 0 then x_lor (x_lshl w 8) c else 1152921504606846976)
/-- the token at s, as the reference holds it -/
def tkR (f : Int → Int) (L : Int) (M : xM) (s : Int) : Prop := M 64 8 = s ∧ M 64 7 = en f L s ∧
  (L ≤ s → M 64 9 = 0) ∧
  (¬ L ≤ s → isLt (f s) → M 64 9 = 2 ∧ M 64 11 = pkF (wd f s (rE ltB f L s)) 0) ∧
  (¬ L ≤ s → ¬ isLt (f s) → isDg (f s) → M 64 9 = 1 ∧ M 64 10 = rv f (rE dgB f L s - s).toNat s 0) ∧
  (¬ L ≤ s → ¬ isLt (f s) → ¬ isDg (f s) → M 64 9 = if isW2 f L s 60 then 4 else if isW2 f L s 62 then 5 else if isSg (f s) then f s else 3)
def offK (M M' : xM) : Prop := (∀ c, c ≠ 64 → M' c = M c) ∧ ∀ k, ¬ (7 ≤ k ∧ k ≤ 11) → M' 64 k = M 64 k
theorem offK_refl (M : xM) : offK M M := ⟨fun _ _ => rfl, fun _ _ => rfl⟩
theorem offK_trans {M M' M'' : xM} (h : offK M M') (h' : offK M' M'') : offK M M'' := ⟨fun c hc => (h'.1 c hc).trans (h.1 c hc), fun k hk => (h'.2 k hk).trans (h.2 k hk)⟩
theorem offK_upd {M M' : xM} {k v : Int} (h : offK M M') (hk : 7 ≤ k ∧ k ≤ 11) : offK M (x_upd M' 64 k v) := ⟨fun c hc => by rw [← h.1 c hc]; funext q; exact x_upd_nb hc, fun q hq => by rw [← h.2 q hq]; exact x_upd_nj (by omega)⟩
abbrev tpT (f : Int → Int) (L : Int) (M : xM) : Prop := M 64 4 = L ∧ (0 ≤ L ∧ L ≤ 300) ∧ ∀ i, 0 ≤ i → i < L → M 68 i = f i ∧ 0 ≤ f i ∧ f i ≤ 255
theorem tpT_K {f : Int → Int} {L : Int} {M M' : xM} (h : offK M M') (ht : tpT f L M) : tpT f L M' := ⟨by rw [h.2 4 (by omega)]; exact ht.1, ht.2.1, fun i i0 i1 => by rw [h.1 68 (by decide)]; exact ht.2.2 i i0 i1⟩
section Rtok
variable {g : Option Nat} {d n : Nat} {P : xP} {M : xM} {F : xM → Int → Prop} {G : xM → Prop}
theorem q_byteAt (hn : 82 ≤ n) (hP : x_PP P) {f : Int → Int} {L p : Int} (ht : tpT f L M) (hp : 0 ≤ p) (H0 : L ≤ p → F M (-1)) (H1 : ¬ L ≤ p → F M (f p)) : xCI Y_X10_byteAt g d [vR (some 64), vI p] n P M F := by
  obtain ⟨h1, h2, h3⟩ := ht
  refine b_X10_byteAt hn hP ⟨fun q => H0 (by omega), fun q => ⟨by omega, ?_⟩⟩
  rw [(h3 p hp (by omega)).1]
  exact H1 (by omega)
theorem c_X10_isLetterByte (hn : 82 ≤ n) {a : Int} (H : F M (bi (isLt a))) : xCI Y_X10_isLetterByte g d [vI a] n P M F := by
  have t : isLt a → F M 1 := fun h => by rwa [bi_t h] at H
  have z : ¬ isLt a → F M 0 := fun h => by rwa [bi_f h] at H
  have up1 : (a < 97 ∨ 122 < a) → xW Y_X10_isLetterByte g d 0 0 12 [(0, vI a)] [] (0, 0) (n, P, M) (kI n P F) := fun h => b_X10_isLetterByte_12 hn ⟨fun q => z (by omega), fun q => ⟨fun q2 => z (by omega), fun q2 => t (by omega)⟩⟩
  exact b_X10_isLetterByte hn ⟨fun q => up1 (Or.inl q), fun q => ⟨fun q2 => t (by omega), fun q2 => up1 (Or.inr (by omega))⟩⟩
theorem c_X10_isFigure (hn : 82 ≤ n) {a : Int} (H : F M (bi (isDg a))) : xCI Y_X10_isFigure g d [vI a] n P M F := by
  have t : isDg a → F M 1 := fun h => by rwa [bi_t h] at H
  have z : ¬ isDg a → F M 0 := fun h => by rwa [bi_f h] at H
  exact b_X10_isFigure hn ⟨fun q => z (by omega), fun q => ⟨fun q2 => z (by omega), fun q2 => t (by omega)⟩⟩
theorem c_X10_isSign (hn : 82 ≤ n) {a : Int} (H : F M (bi (isSg a))) : xCI Y_X10_isSign g d [vI a] n P M F := by
  have t : isSg a → F M 1 := fun h => by rwa [bi_t h] at H
  have z : ¬ isSg a → F M 0 := fun h => by rwa [bi_f h] at H
  refine b_X10_isSign hn ?_
  refine ⟨fun q => z (by omega), ?_⟩
  repeat' first
    | exact True.intro
    | apply And.intro
    | (intro q; first | exact t (by omega) | exact z (by omega))
/-- the letters -/
theorem q_letters (hn : 82 ≤ n) (hP : x_PP P) {f : Int → Int} {L s e W : Int} (hs : 0 ≤ s) (he : e = rE ltB f L s) (hL : e ≤ L) : ∀ (m : Nat) (p : Int) (N : xM), p + m = e → s ≤ p → rE ltB f L p = e → tpT f L N → N 64 7 = p → pkF (wd f p e) (N 64 11) = W → (∀ M', offK N M' → M' 64 7 = e → M' 64 11 = W → M' 64 8 = N 64 8 → M' 64 9 = N 64 9 → G M') → xW Y_X10_nextToken g (d + 1) 0 0 168 [(0, vR (some 64))] [] (0, 0) (n, P, N) (kV n P G) := by
  intro m
  induction m with
  | zero =>
    intro p N hp sp hr ht h7 hW H
    have pe : p = e := by omega
    subst pe
    have w0 : wd f p p = [] := by unfold wd; rw [show (p - p).toNat = 0 by omega]; rfl
    rw [w0] at hW
    have HH := H N (offK_refl N) h7 hW rfl rfl
    refine b_X10_nextToken_168 hn hP ?_
    rw [h7]
    refine q_byteAt hn hP ht (by omega) (fun _ => c_X10_isLetterByte hn ⟨fun _ => HH, fun z => absurd (bi_n0.mp z) (by omega)⟩) (fun q => c_X10_isLetterByte hn ⟨fun _ => HH, fun z => ?_⟩)
    have := rE_gt (q := ltB) (f := f) (L := L) (p := p) (by omega) (ltB_t.mpr (bi_n0.mp z))
    omega
  | succ m ih =>
    intro p N hp sp hr ht h7 hW H
    have rg := rE_rg (q := ltB) (f := f) (L := L) (p := p) (by omega)
    rw [hr] at rg
    have hl := ltB_t.mp (rg.2.1 p (Int.le_refl _) (by omega))
    rw [wd_cons (by omega)] at hW
    have nx : ∀ w, w = (if x_lshr (N 64 11) 48 = 0 then x_lor (x_lshl (N 64 11) 8) (f p) else 1152921504606846976) → xW Y_X10_nextToken g (d + 1) 0 0 218 [(0, vR (some 64))] [vJ w, vR (some 64)] (0, 0) (n, P, N) (kV n P G) := fun w hw => by
      have o2 : offK N (x_upd (x_upd N 64 11 w) 64 7 (N 64 7 + 1)) := offK_upd (offK_upd (offK_refl N) (by omega)) (by omega)
      refine b_X10_nextToken_218 hn hP ⟨by unfold inR; omega, ih (p + 1) _ (by omega) (by omega) ?_ (tpT_K o2 ht) ?_ ?_ (fun M' o' e1 e2 e3 e4 => H M' (offK_trans o2 o') e1 e2 ?_ ?_)⟩
      · rw [← rE_go (by omega) (ltB_t.mpr hl)]; exact hr
      · rw [x_upd_at]; omega
      · rw [x_upd_nj (by decide), x_upd_at, hw]; exact hW
      · rw [e3, x_upd_nj (by decide), x_upd_nj (by decide)]
      · rw [e4, x_upd_nj (by decide), x_upd_nj (by decide)]
    refine b_X10_nextToken_168 hn hP ?_
    rw [h7]
    refine q_byteAt hn hP ht (by omega) (fun q => absurd q (by omega)) (fun q => c_X10_isLetterByte hn ⟨fun z => absurd hl (bi_0.mp z), fun _ => ⟨fun z => ?_, fun z => nx _ (if_neg (fun w => z (cmp0.mpr w))).symm⟩⟩)
    rw [h7]
    exact q_byteAt hn hP ht (by omega) (fun q => absurd q (by omega)) (fun _ => nx _ (if_pos (cmp0.mp z)).symm)
/-- the figures -/
theorem q_figures (hn : 82 ≤ n) (hP : x_PP P) {f : Int → Int} {L s e W : Int} (hs : 0 ≤ s) (he : e = rE dgB f L s) (hL : e ≤ L) : ∀ (m : Nat) (p : Int) (N : xM), p + m = e → s ≤ p → rE dgB f L p = e → tpT f L N → N 64 7 = p → (0 ≤ N 64 10 ∧ N 64 10 ≤ 1000000) → rv f (e - p).toNat p (N 64 10) = W → (∀ M', offK N M' → M' 64 7 = e → M' 64 10 = W → M' 64 8 = N 64 8 → M' 64 9 = N 64 9 → G M') → xW Y_X10_nextToken g (d + 1) 0 0 85 [(0, vR (some 64))] [] (0, 0) (n, P, N) (kV n P G) := by
  intro m
  induction m with
  | zero =>
    intro p N hp sp hr ht h7 h10 hW H
    have pe : p = e := by omega
    subst pe
    rw [show (p - p).toNat = 0 by omega] at hW
    have HH := H N (offK_refl N) h7 hW rfl rfl
    refine b_X10_nextToken_85 hn hP ?_
    rw [h7]
    refine q_byteAt hn hP ht (by omega) (fun _ => c_X10_isFigure hn ⟨fun _ => HH, fun z => absurd (bi_n0.mp z) (by omega)⟩) (fun q => c_X10_isFigure hn ⟨fun _ => HH, fun z => ?_⟩)
    have := rE_gt (q := dgB) (f := f) (L := L) (p := p) (by omega) (dgB_t.mpr (bi_n0.mp z))
    omega
  | succ m ih =>
    intro p N hp sp hr ht h7 h10 hW H
    have rg := rE_rg (q := dgB) (f := f) (L := L) (p := p) (by omega)
    rw [hr] at rg
    have hl := dgB_t.mp (rg.2.1 p (Int.le_refl _) (by omega))
    have eW : rv f (e - p).toNat p (N 64 10) = rv f (e - (p + 1)).toNat (p + 1) (if N 64 10 ≤ 99999 then 10 * N 64 10 + f p - 48 else N 64 10) := by
      rw [show (e - p).toNat = (e - (p + 1)).toNat + 1 by omega]
      rfl
    rw [eW] at hW
    have nx : ∀ w, w = (if N 64 10 ≤ 99999 then 10 * N 64 10 + f p - 48 else N 64 10) → xW Y_X10_nextToken g (d + 1) 0 0 135 [(0, vR (some 64))] [vI w, vR (some 64)] (0, 0) (n, P, N) (kV n P G) := fun w hw => by
      have o2 : offK N (x_upd (x_upd N 64 10 w) 64 7 (N 64 7 + 1)) := offK_upd (offK_upd (offK_refl N) (by omega)) (by omega)
      refine b_X10_nextToken_135 hn hP ⟨by unfold inR; omega, ih (p + 1) _ (by omega) (by omega) ?_ (tpT_K o2 ht) ?_ ?_ ?_ (fun M' o' e1 e2 e3 e4 => H M' (offK_trans o2 o') e1 e2 ?_ ?_)⟩
      · rw [← rE_go (by omega) (dgB_t.mpr hl)]; exact hr
      · rw [x_upd_at]; omega
      · rw [x_upd_nj (by decide), x_upd_at, hw]
        split <;> omega
      · rw [x_upd_nj (by decide), x_upd_at, hw]; exact hW
      · rw [e3, x_upd_nj (by decide), x_upd_nj (by decide)]
      · rw [e4, x_upd_nj (by decide), x_upd_nj (by decide)]
    refine b_X10_nextToken_85 hn hP ?_
    rw [h7]
    refine q_byteAt hn hP ht (by omega) (fun q => absurd q (by omega)) (fun q => c_X10_isFigure hn ⟨fun z => absurd hl (bi_0.mp z), fun _ => ⟨fun z => ⟨by unfold inR; omega, ?_⟩, fun z => nx _ (if_neg z).symm⟩⟩)
    rw [h7]
    exact q_byteAt hn hP ht (by omega) (fun q => absurd q (by omega)) (fun _ => ⟨by unfold inR; omega, by unfold inR; omega, nx _ (if_pos z).symm⟩)
end Rtok
