/-! the class's Reader: a law's words and where they stand -/
def lwS (K V : Nat → Int) (κ : Int) (f : Nat) (s0 : Int) (j : Nat) : sR := if s0 = 0 then sp K V κ f 5 0 j else sq (sp K V κ f 0 0 j) (fun j => if K j = 20 then em (sp K V κ f 0 0 (j + 1)) (20, 0) else (0, j, []))
section LawR
variable {g : Option Nat} {d n : Nat} {P : xP} {M : xM} {F : xM → Int → Prop} {G : xM → Prop} {t J : Nat} {K V p : Nat → Int} {κ : Int}
theorem k_law43 (hn : 83 ≤ n) (hP : x_PP P) (hT : x_Text n P t) (hr0 : P 82 0 = some 37) (hr1 : P 82 1 = some t) (ht : 43 ≤ t ∧ t ≤ 58) (hJ : ∀ j, j ≤ J → (K j = 73 ↔ j = J)) (hV : ∀ j, 0 ≤ V j ∧ V j ≤ 10000) (hκ : 0 ≤ κ ∧ κ < 8) {f j : Nat} {l : List (Int × Int)} {s0 : Int} (hd : 52 ≤ d + 3) (hf : 16 * (J - j) + 6 ≤ f) (hc : cl t J K V p κ M j l)
    (H1 : (lwS K V κ f s0 j).1 = 0 → ∀ N, offX t M N → cl t J K V p κ N (lwS K V κ f s0 j).2.1 (l ++ (lwS K V κ f s0 j).2.2) → F (x_upd (x_upd N (t + 2) κ (l.length : Int)) (t + 3) κ (((l ++ (lwS K V κ f s0 j).2.2).length : Nat) : Int)) 1)
    (H0 : (lwS K V κ f s0 j).1 ≠ 0 → ∀ N, offX t M N → flt t J K V p N (lwS K V κ f s0 j).1 (lwS K V κ f s0 j).2.1 → F N 0) : xW Y_X4_readLaw g (d + 4) 0 0 43 [(0, vR (some 82)), (2, vI (l.length : Int))] [vI s0] (0, 0) (n, P, M) (kI n P F) := by
  have h3 := hc.2.1.2.2.1
  have hl := hc.2.2.2
  have hn2 : 82 ≤ n := by omega
  have ra := read_all (g := g) (p := p) (κ := κ) hn hP hT hr0 hr1 ht hJ hV f
  have r0 : rkM 0 = 6 := rfl
  have r5 : rkM 5 = 3 := rfl
  have c0 : cM 0 = 1 := rfl
  generalize hr : lwS K V κ f s0 j = r at *
  have bad : r.1 ≠ 0 → ∀ N, offX t M N → flt t J K V p N r.1 r.2.1 → xW Y_X4_readLaw g (d + 4) 0 0 102 [(0, vR (some 82)), (2, vI (l.length : Int)), (4, vI 0)] [] (0, 0) (n, P, N) (kI n P F) := fun h N oN fN => b_X4_readLaw_102 hn hP hT hr0 hr1 ⟨fun _ => ⟨Or.inl rfl, H0 h N oN fN⟩, fun z => absurd rfl z⟩
  have good : r.1 = 0 → ∀ N, offX t M N → cl t J K V p κ N r.2.1 (l ++ r.2.2) → xW Y_X4_readLaw g (d + 4) 0 0 102 [(0, vR (some 82)), (2, vI (l.length : Int)), (4, vI 1)] [] (0, 0) (n, P, N) (kI n P F) := fun h N oN cN => by
    refine b_X4_readLaw_102 hn hP hT hr0 hr1 ⟨fun z => absurd z (by decide), fun _ => ?_⟩
    have k4 := cN.2.1.2.2.2
    have sz := cN.2.2.1.1
    rw [k4]
    refine b_X7_setLaw hn2 hP hT ⟨fun z => absurd z (by omega), fun _ => ⟨fun z => absurd z (by omega), fun _ => ⟨hκ, hκ, Or.inr rfl, ?_⟩⟩⟩
    have e : x_upd N (t + 2) κ (l.length : Int) t 1 = N t 1 := x_upd_nb (by omega)
    rw [e, sz]
    exact H1 h N oN cN
  refine b_X4_readLaw_43 hn hP hT hr0 hr1 ⟨fun z0 => ?_, fun z0 => ?_⟩
  · have er : r = sp K V κ f 5 0 j := by rw [← hr]; exact if_pos z0
    refine ra.2.2.2.2.1 0 j l M _ (d + 3) (by omega) (by omega) (by omega) hc (fun N z oN rN => ?_)
    rw [← er] at rN
    rcases rdP_z rN with w | w
    · obtain ⟨q1, q2⟩ := rdP_no rN w
      subst w
      exact b_X4_readLaw_61 hn hP hT hr0 hr1 ⟨fun _ => bad q1 N oN q2, fun z => absurd rfl z⟩
    · obtain ⟨q1, q2, q3⟩ := rdP_ok rN (by omega)
      subst w
      exact b_X4_readLaw_61 hn hP hT hr0 hr1 ⟨fun z => absurd z (by decide), fun _ => ⟨fun _ => good q1 N oN q3, fun z => absurd z0 z⟩⟩
  · have er : r = sq (sp K V κ f 0 0 j) (fun j => if K j = 20 then em (sp K V κ f 0 0 (j + 1)) (20, 0) else (0, j, [])) := by rw [← hr]; exact if_neg z0
    have so := sp_ok (V := V) (κ := κ) hJ f 0 0 j h3 (by omega) (by omega)
    have use : ∀ N z, offX t M N → rdP t J K V p κ l r N z → xW Y_X4_readLaw g (d + 4) 0 0 102 [(0, vR (some 82)), (2, vI (l.length : Int)), (4, vI z)] [] (0, 0) (n, P, N) (kI n P F) := fun N z oN rN => by
      rcases rdP_z rN with w | w
      · obtain ⟨q1, q2⟩ := rdP_no rN w
        subst w
        exact bad q1 N oN q2
      · obtain ⟨q1, q2, q3⟩ := rdP_ok rN (by omega)
        subst w
        exact good q1 N oN q3
    refine ra.2.2.2.2.2.2.2.2.2.1 0 j l M _ (d + 3) (by omega) (by omega) (by omega) hc (fun N z oN rN => ?_)
    rcases rdP_z rN with w | w
    · obtain ⟨q1, q2⟩ := rdP_no rN w
      subst w
      exact b_X4_readLaw_61 hn hP hT hr0 hr1 ⟨fun _ => use N 0 oN (by rw [er]; exact rdP_sq1 q1 q2), fun z => absurd rfl z⟩
    · obtain ⟨q1, q2, q3⟩ := rdP_ok rN (by omega)
      subst w
      have sz := so.2.2 q1
      have e3 := q3.2.1.2.1
      have j1J := q3.2.1.2.2.1
      refine b_X4_readLaw_61 hn hP hT hr0 hr1 ⟨fun z => absurd z (by decide), fun _ => ⟨fun z => absurd z z0, fun _ => ⟨fun n20 => use N 1 oN ?_, fun y20 => ?_⟩⟩⟩
      · rw [e3] at n20
        rw [er]
        refine rdP_sq2 q1 ?_
        show rdP t J K V p κ _ (if K _ = 20 then _ else _) N 1
        rw [if_neg n20]
        exact Or.inl ⟨rfl, rfl, by rw [List.append_nil]; exact q3⟩
      · rw [e3] at y20
        have l1 : (sp K V κ f 0 0 j).2.1 < J := by
          have : (sp K V κ f 0 0 j).2.1 ≠ J := fun e => by have := (hJ _ j1J).mpr e; omega
          omega
        have so2 := sp_ok (V := V) (κ := κ) hJ f 0 0 ((sp K V κ f 0 0 j).2.1 + 1) l1 (by omega) (by omega)
        have res : ∀ M' z, rdP t J K V p κ (l ++ (sp K V κ f 0 0 j).2.2) (em (sp K V κ f 0 0 ((sp K V κ f 0 0 j).2.1 + 1)) (20, 0)) M' z → rdP t J K V p κ l r M' z := fun M' z hq => by
          rw [er]
          refine rdP_sq2 q1 ?_
          show rdP t J K V p κ _ (if K _ = 20 then _ else _) M' z
          rw [if_pos y20]
          exact hq
        refine k_advance hn hP hT hr0 hr1 ht q3 l1 (fun M1 o1 c1 _ => ra.2.2.2.2.2.2.2.2.2.1 0 _ _ M1 _ (d + 3) (by omega) (by omega) (by omega) c1 (fun M2 z2 o2 r2 => ?_))
        rcases rdP_z r2 with w | w
        · obtain ⟨p1, p2⟩ := rdP_no r2 w
          subst w
          exact k_emitF hn2 hP hT ht p2 (fun M3 o3 f3 => use M3 0 (offX_trans oN (offX_trans o1 (offX_trans o2 o3))) (res M3 0 (rdP_em1 p1 f3)))
        · obtain ⟨p1, p2, p3⟩ := rdP_ok r2 (by omega)
          subst w
          have sz2 := so2.2.2 p1
          have len1 : (l ++ (sp K V κ f 0 0 j).2.2).length = l.length + (sp K V κ f 0 0 j).2.2.length := List.length_append
          exact k_emit hn2 hP hT ht p3 (by rw [List.length_append]; omega) (by decide) (by decide) (by decide) (fun M3 o3 c3 => use M3 1 (offX_trans oN (offX_trans o1 (offX_trans o2 o3))) (res M3 1 (rdP_em2 p1 c3)))
end LawR
