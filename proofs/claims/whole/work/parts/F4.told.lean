/-! the class's Reader: a number told of the clause at hand -/
section ToldR
variable {g : Option Nat} {d n : Nat} {P : xP} {M : xM} {F : xM → Int → Prop} {G : xM → Prop} {t J : Nat} {K V p : Nat → Int} {κ : Int}
theorem cl_t4 {j : Nat} {l : List (Int × Int)} (ht : 43 ≤ t ∧ t ≤ 58) (h : cl t J K V p κ M j l) {c : Nat} (hc : 2 ≤ c ∧ c ≤ 4) (i v : Int) : cl t J K V p κ (x_upd M (t + c) i v) j l := by
  obtain ⟨⟨k1, k2, k3⟩, ⟨h1, h2, h3, h4⟩, ⟨p1, p2, p3, h82⟩, h6⟩ := h
  refine ⟨⟨?_, k2, fun q hq => ?_⟩, ⟨?_, ?_, h3, ?_⟩, ⟨?_, fun q hq => ?_, ?_⟩, h6⟩
  · rw [x_upd_nb (by omega)]; exact k1
  · rw [x_upd_nb (by omega), x_upd_nb (by omega), x_upd_nb (by omega)]; exact k3 q hq
  · rw [x_upd_nb (by omega)]; exact h1
  · rw [x_upd_nb (by omega)]; exact h2
  · rw [x_upd_nb (by omega)]; exact h4
  · rw [x_upd_nb (by omega)]; exact p1
  · rw [x_upd_nb (by omega)]; exact p2 q hq
  · exact ⟨by rw [x_upd_nb (by omega)]; exact p3, by rw [x_upd_nb (by omega)]; exact h82.1, by rw [x_upd_nb (by omega)]; exact h82.2⟩
theorem flt_t4 {j : Nat} {e : Int} (ht : 43 ≤ t ∧ t ≤ 58) (h : flt t J K V p M e j) {c : Nat} (hc : 2 ≤ c ∧ c ≤ 4) (i v : Int) : flt t J K V p (x_upd M (t + c) i v) e j := by
  obtain ⟨⟨k1, k2, k3⟩, h1, h2, h3⟩ := h
  refine ⟨⟨?_, k2, fun q hq => ?_⟩, ?_, ?_, ?_⟩
  · rw [x_upd_nb (by omega)]; exact k1
  · rw [x_upd_nb (by omega), x_upd_nb (by omega), x_upd_nb (by omega)]; exact k3 q hq
  · rw [x_upd_nb (by omega)]; exact h1
  · rw [x_upd_nb (by omega)]; exact h2
  · rw [x_upd_nb (by omega)]; exact h3
theorem k_takeTold (hn : 83 ≤ n) (hP : x_PP P) (hT : x_Text n P t) (hr0 : P 82 0 = some 37) (hr1 : P 82 1 = some t) (ht : 43 ≤ t ∧ t ≤ 58) (hJ : ∀ j, j ≤ J → (K j = 73 ↔ j = J)) {j : Nat} {l : List (Int × Int)} {a lo hi c : Int} (ha : 0 ≤ a ∧ a < 4) (hcc : M t 5 = c) (hcr : 1 ≤ c ∧ c ≤ 24) (hc : cl t J K V p κ M j l)
    (H1 : K j = 72 → (lo ≤ V j ∧ V j ≤ hi) → ∀ N, offX t M N → cl t J K V p κ (x_upd N (t + 4) ((c - 1) * 4 + a) (V j)) (j + 1) l → F (x_upd N (t + 4) ((c - 1) * 4 + a) (V j)) 1)
    (H2 : K j = 72 → ¬ (lo ≤ V j ∧ V j ≤ hi) → ∀ N v, offX t M N → flt t J K V p (x_upd N (t + 4) ((c - 1) * 4 + a) v) 2 j → F (x_upd N (t + 4) ((c - 1) * 4 + a) v) 0)
    (H0 : K j ≠ 72 → ∀ N v, offX t M N → flt t J K V p (x_upd N (t + 4) ((c - 1) * 4 + a) v) 1 j → F (x_upd N (t + 4) ((c - 1) * 4 + a) v) 0) : xCI Y_X4_takeTold g (d + 2) [vR (some 82), vI a, vI lo, vI hi] n P M F := by
  have hn2 : 82 ≤ n := by omega
  have tell : ∀ (N : xM) (v : Int) (G : xM → Prop), offX t M N → G (x_upd N (t + 4) ((c - 1) * 4 + a) v) → xCV Y_X7_tellOfClause g (d + 1) [vR (some t), vI a, vI v] n P N G := fun N v G oN hG => by
    have e : N t 5 = c := by rw [oN.2 5 (by decide) (by decide)]; exact hcc
    refine b_X7_tellOfClause hn2 hP hT ⟨fun q => absurd q (by omega), fun _ => ⟨fun q => absurd q (by omega), fun _ => ⟨fun q => absurd q (by omega), fun _ => ⟨by rw [e]; unfold inR; omega, by rw [e]; unfold inR; omega, by rw [e]; unfold inR; omega, by rw [e]; omega, ?_⟩⟩⟩⟩
    rw [e]
    exact hG
  refine b_X4_takeTold hn hP hT hr0 hr1 (k_takeNumber hn hP hT hr0 hr1 ht hJ hc (fun y72 hv N oN cN e5 => ?_) (fun y72 hv N oN fN => tell N _ _ oN ⟨Or.inl rfl, H2 y72 hv N _ oN (flt_t4 ht fN (by omega) _ _)⟩) (fun n72 N oN fN => tell N _ _ oN ⟨Or.inl rfl, H0 n72 N _ oN (flt_t4 ht fN (by omega) _ _)⟩))
  rw [e5]
  exact tell N _ _ oN ⟨Or.inr rfl, H1 y72 hv N oN (cl_t4 ht cN (by omega) _ _)⟩
end ToldR
