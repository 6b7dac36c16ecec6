/-! the class's Reader: every part of a law's words, at once -/
section Reader11
variable {g : Option Nat} {n : Nat} {P : xP} {t J : Nat} {K V p : Nat → Int} {κ : Int}
theorem read_all (hn : 83 ≤ n) (hP : x_PP P) (hT : x_Text n P t) (hr0 : P 82 0 = some 37) (hr1 : P 82 1 = some t) (ht : 43 ≤ t ∧ t ≤ 58) (hJ : ∀ j, j ≤ J → (K j = 73 ↔ j = J)) (hV : ∀ j, 0 ≤ V j ∧ V j ≤ 10000) : ∀ f, CR g n P t J K V p κ Y_X4_readOne 9 2 f ∧ CL g n P t J K V p κ Y_X4_readProduct 8 3 f ∧ CR g n P t J K V p κ Y_X4_readProduct 7 3 f ∧ CL g n P t J K V p κ Y_X4_readSum 6 4 f ∧ CR g n P t J K V p κ Y_X4_readSum 5 4 f ∧ CR g n P t J K V p κ Y_X4_readAsk 4 5 f ∧ CL g n P t J K V p κ Y_X4_readBoth 3 6 f ∧ CR g n P t J K V p κ Y_X4_readBoth 2 6 f ∧ CL g n P t J K V p κ Y_X4_readEither 1 7 f ∧ CR g n P t J K V p κ Y_X4_readEither 0 7 f ∧ CM g n P t J K V p κ f := by
  intro f
  induction f with
  | zero =>
    have z : ∀ {mo k : Nat} {Y : xY}, 1 ≤ rkM mo → CR g n P t J K V p κ Y mo k 0 := fun h dp j l M F D _ _ hf => absurd hf (by omega)
    have zl : ∀ {mo k : Nat} {Y : xY}, 1 ≤ rkM mo → CL g n P t J K V p κ Y mo k 0 := fun h dp j l M F D i _ _ hf => absurd hf (by omega)
    exact ⟨z (by decide), zl (by decide), z (by decide), zl (by decide), z (by decide), z (by decide), zl (by decide), z (by decide), zl (by decide), z (by decide), fun q dp j l M F D _ _ _ hf => absurd hf (by omega)⟩
  | succ f ih =>
    obtain ⟨a1, a2, a3, a4, a5, a6, a7, a8, a9, a10, a11⟩ := ih
    exact ⟨one_step hn hP hT hr0 hr1 ht hJ hV a5 a1, prodLoop_step hn hP hT hr0 hr1 ht hJ a1 a2, prod_step hn hP hT hr0 hr1 hJ a1 a2, sumLoop_step hn hP hT hr0 hr1 ht hJ a3 a4, sum_step hn hP hT hr0 hr1 hJ a3 a4, ask_step hn hP hT hr0 hr1 ht hJ hV a5 a6 a10 a11, bothLoop_step hn hP hT hr0 hr1 ht hJ a6 a7, both_step hn hP hT hr0 hr1 hJ a6 a7, eitherLoop_step hn hP hT hr0 hr1 ht hJ a8 a9, either_step hn hP hT hr0 hr1 hJ a8 a9, most_step hn hP hT hr0 hr1 ht hJ a10 a11⟩
end Reader11
