/-! the class's Reader: the head of a code -/
section CodeR
variable {g : Option Nat} {d n : Nat} {P : xP} {M : xM} {F : xM → Int → Prop} {G : xM → Prop} {t J : Nat} {K V p : Nat → Int} {κ : Int}
theorem cl_kind {j : Nat} {l : List (Int × Int)} (ht : 43 ≤ t ∧ t ≤ 58) (h : cl t J K V p κ M j l) (v : Int) : offX t M (x_upd M 82 4 v) ∧ cl t J K V p v (x_upd M 82 4 v) j l := by
  obtain ⟨hk, ⟨h1, h2, h3, h4⟩, hp, h6⟩ := h
  have o : offX t M (x_upd M 82 4 v) := offX_82 (by omega) (offX_refl t M)
  exact ⟨o, tokC_X ht o hk, ⟨by rw [x_upd_nj (by decide)]; exact h1, by rw [x_upd_nj (by decide)]; exact h2, h3, x_upd_at _ _ _ _⟩, pg_82 ht hp, h6⟩
theorem k_codeHead (hn : 83 ≤ n) (hP : x_PP P) (hT : x_Text n P t) (hr0 : P 82 0 = some 37) (hr1 : P 82 1 = some t) (ht : 43 ≤ t ∧ t ≤ 58) (hJ : ∀ j, j ≤ J → (K j = 73 ↔ j = J)) (hV : ∀ j, 0 ≤ V j ∧ V j ≤ 10000) {j : Nat} {l : List (Int × Int)} (hc : cl t J K V p κ M j l)
    (H4 : K j = 72 → V j < 4 → M (t + 2) (V j) < M (t + 3) (V j) → ∀ M', offX t M M' → flt t J K V p M' 4 j → F M' 0)
    (H1 : K j ≠ 72 → ∀ M', offX t M M' → flt t J K V p M' 1 j → F M' 0)
    (H2 : K j = 72 → 3 < V j → ∀ M', offX t M M' → flt t J K V p M' 2 j → F M' 0)
    (H3 : K j = 72 → V j < 4 → ¬ M (t + 2) (V j) < M (t + 3) (V j) → K (j + 1) ≠ 58 → ∀ M', offX t M M' → flt t J K V p M' 1 (j + 1) → F M' 0)
    (H0 : K j = 72 → V j < 4 → ¬ M (t + 2) (V j) < M (t + 3) (V j) → K (j + 1) = 58 → ∀ M', offX t M M' → cl t J K V p (V j) M' (j + 2) l → F M' 1) : xCI Y_X4_readCodeHead g (d + 2) [vR (some 82)] n P M F := by
  have h1 := hc.2.1.1
  have h2 := hc.2.1.2.1
  have h3 := hc.2.1.2.2.1
  obtain ⟨k1, k2, k3⟩ := hc.1
  have kj := (k3 j h3).2.2
  have v0 := hV j
  obtain ⟨o4, c4⟩ := cl_kind ht hc (V j)
  have rest : (K j = 72 → V j < 4 → ¬ M (t + 2) (V j) < M (t + 3) (V j)) → xW Y_X4_readCodeHead g (d + 2) 0 0 36 [(0, vR (some 82)), (1, vI (V j))] [] (0, 0) (n, P, M) (kI n P F) := fun nh => by
    refine b_X4_readCodeHead_36 hn hP hT hr0 hr1 (k_takeNumber hn hP hT hr0 hr1 ht hJ c4 (fun y72 hv M1 o1 c1 _ => ⟨fun z => absurd z (by decide), fun _ => ?_⟩) (fun y72 hv M1 o1 f1 => ⟨fun _ => H2 y72 (by omega) M1 (offX_trans o4 o1) f1, fun z => absurd rfl z⟩) (fun n72 M1 o1 f1 => ⟨fun _ => H1 n72 M1 (offX_trans o4 o1) f1, fun z => absurd rfl z⟩))
    have nh' := nh y72 (by omega)
    exact k_take hn hP hT hr0 hr1 ht hJ (by decide) c1 (fun y58 M2 o2 c2 => ⟨fun z => absurd z (by decide), fun _ => H0 y72 (by omega) nh' y58 M2 (offX_trans o4 (offX_trans o1 o2)) c2⟩) (fun n58 M2 o2 f2 => ⟨fun _ => H3 y72 (by omega) nh' n58 M2 (offX_trans o4 (offX_trans o1 o2)) f2, fun z => absurd rfl z⟩)
  refine b_X4_readCodeHead hn hP hT hr0 hr1 (b_X4_valueHere hn hP hT hr0 hr1 ⟨fun q => absurd q (by omega), fun _ => ⟨fun q => absurd q (by omega), fun _ => ⟨by omega, ?_⟩⟩⟩)
  rw [h1, kj, h2]
  refine ⟨fun n72 => rest (fun z => absurd z n72), fun y72 => ⟨fun q4 => rest (fun _ z => absurd z (by omega)), fun q4 => c_X7_has (by omega) hP hT (by omega) ⟨fun z => rest (fun _ _ w => absurd w (bi_0.mp z)), fun z => k_refuse hn hP hT hr0 hr1 ht hc (fun M' o' f' => ⟨Or.inl rfl, H4 y72 (by omega) (bi_n0.mp z) M' o' f'⟩)⟩⟩⟩
end CodeR
