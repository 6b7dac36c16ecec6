/-! session: the reference's whole -/
section Sess5
variable {g : Option Nat} {d n : Nat} {P : xP} {M : xM} {F : xM → Int → Prop} {G : xM → Prop}
theorem memF_ne {v : Int} (h : 1 ≤ v ∧ v ≤ 255) : 1 ≤ (memF v 8).length := by
  obtain ⟨c, hc, hb⟩ := hi_bit (v := v) (m := 0) ⟨by omega, by omega⟩ (by omega) (by rw [shl1_nat (by omega)]; show ((2 ^ 0 : Nat) : Int) ≤ v; omega)
  have : c ∈ memF v 8 := memF_mem.mpr ⟨⟨by omega, by have : ((8 : Nat) : Int) = 8 := rfl; omega⟩, hb⟩
  exact List.length_pos_of_mem this
theorem getD_mem {l : List Int} {j : Nat} (h : j < l.length) : l.getD j 0 ∈ l := by
  rw [List.getD_eq_getElem?_getD, List.getElem?_eq_getElem h]
  exact List.getElem_mem _
theorem q_session (hn : 82 ≤ n) (hP : x_PP P) {ρ : Option xTx} {v i : Int} (hρ : rho M (M 65 2) ρ) (h : oka (M 65)) (H0 : ¬ vs (M 65) v i → ∀ M', offR M M' → M' 65 = M 65 → F M' (-2)) (H1 : vs (M 65) v i → ∀ M', offR M M' → M' 65 = M 65 → F M' (sAns i (fB ρ (M 65) [] 0 0 (ords (popc v).toNat v) (-1, [])))) : xCI Y_X10_session g (d + 7) [vR (some 64), vI v, vI i] n P M F := by
  obtain ⟨K, hI⟩ := oka_inv h
  have m8 := hI.1
  have sh := shl1_r (k := M 65 0) m8
  have no : ¬ vs (M 65) v i → F M (-2) := fun q => H0 q M (offR_refl M) rfl
  refine b_X10_session hn hP ⟨by unfold inR; omega, c_X10_isIn hn ⟨fun z => no (fun q => ?_), fun z => c_X10_bits hn ⟨fun q => no (fun w => absurd w.2.1 (by omega)), fun q5 => ⟨fun q => no (fun w => absurd w.2.2.1 (by omega)), fun qi => c_X10_bits hn ⟨fun qj => ?_, fun q => no (fun w => absurd w.2.2.1 (by omega))⟩⟩⟩⟩⟩
  · have b := bi_0.mp z
    by_cases hl : x_shl 1 (M 65 0) ≤ v
    · obtain ⟨c, hc, hb⟩ := hi_bit (v := v) ⟨by omega, by omega⟩ m8 hl
      have := (q.2.2.2 c (by omega) (by omega) hb).1
      omega
    · exact b (by omega)
  have hv := bi_n0.mp z
  have lt : v < x_shl 1 (M 65 0) := by omega
  have v8 : in8 v := ⟨by omega, by omega⟩
  have pl := popc_mem v8
  have loop : ∀ (m c : Nat) (N : xM), (c : Int) + m = M 65 0 → offR M N → N 65 = M 65 → rowIs (N 79) (memF v c) → rowIs (N 80) (idn (memF v c).length) → (∀ x, 0 ≤ x → x < (c : Int) → bi1 v x → wt (M 65) x) → xW Y_X10_session g (d + 7) 0 0 47 [(0, vR (some 64)), (1, vI v), (2, vI i), (3, vI ((memF v c).length : Int)), (4, vI (c : Int))] [] (0, 0) (n, P, N) (kI n P F) := by
    intro m
    induction m with
    | zero =>
      intro c N hc oN eN r79 r80 hwt
      refine b_X10_session_47 hn hP ⟨fun _ => ?_, fun q => absurd (by rw [eN]; omega) q⟩
      refine q_layWinds2 hn hP (ρ := ρ) (by rw [eN]; exact rho_R oN hρ) (by rw [eN]; exact h) (by omega) (fun N2 o2 e2 w2 => ?_)
      rw [eN] at w2
      have c0 : c = (M 65 0).toNat := by omega
      have top : memF v 8 = memF v c := by
        have := memF_top (v := v) (m := M 65 0) (by omega) m8 lt (8 - c) (by omega)
        rwa [← c0, show c + (8 - c) = 8 by omega] at this
      rw [← top] at r79 r80 ⊢
      have hk := pl
      have k1 := memF_ne (v := v) (by omega)
      have hval : vs (M 65) v i := ⟨by omega, by omega, by omega, fun x x0 x1 hb => by
        by_cases xc : x < M 65 0
        · exact hwt x x0 (by omega) hb
        · exact absurd hb (lo_bit (by omega) m8 lt (by omega))⟩
      have HH := H1 hval
      have e0 : (popc v).toNat = (memF v 8).length := by omega
      rw [e0, ords_rws rfl (by omega)] at HH
      have hend := endR_ok ⟨(memF v 8).length, by omega⟩
      have hrw := rws_ok ⟨(memF v 8).length, by omega⟩
      refine q_rows hn hP (ρ := ρ) (mem := fun x => (memF v 8).getD x.toNat 0) (b := (-1, [])) hρ h ⟨k1, by omega⟩ (by omega) (fun x x0 x1 => ?_) 119 (idn (memF v 8).length) N2 (offR_trans oN o2.1) (e2.trans eN) w2 (fun x x0 x1 => ?_) (idn_len _) hend hrw ?_ ⟨by show (-1 : Int) ≤ -1; omega, Or.inl rfl⟩ (fun q => absurd rfl q) HH
      · have hm := memF_mem.mp (getD_mem (l := memF v 8) (j := x.toNat) (by omega))
        have := (hval.2.2.2 _ hm.1.1 hm.1.2 hm.2).1
        exact this
      · rw [o2.2 79 (by decide)]
        have := r79 x.toNat (by omega)
        rwa [show ((x.toNat : Nat) : Int) = x by omega] at this
      · rw [o2.2 80 (by decide)]
        exact r80
    | succ m ih =>
      intro c N hc oN eN r79 r80 hwt
      have sn := memF_snoc v c
      refine b_X10_session_47 hn hP ⟨fun q => absurd q (by rw [eN]; omega), fun _ => c_X10_has hn ⟨fun hb => ?_, fun hb => b_X10_session_100 hn hP ⟨by unfold inR; omega, ?_⟩⟩⟩
      · have hb1 : bi1 v c := by
          rcases x_and_1 (x_shr v c) with e | e
          · exact absurd e hb
          · exact e
        rw [if_pos hb1] at sn
        refine q_isWaiting hn hP (by rw [eN]; exact h) ?_
        rw [eN]
        refine ⟨fun hw => ?_, fun hw => H0 (fun q => bi_0.mp hw (q.2.2.2 c (by omega) (by omega) hb1)) N oN eN⟩
        have hw' := bi_n0.mp hw
        have le : (memF v (c + 1)).length ≤ (memF v 8).length := by
          have := memF_le v (c + 1) (8 - (c + 1))
          rwa [show c + 1 + (8 - (c + 1)) = 8 by omega] at this
        have ln : (memF v (c + 1)).length = (memF v c).length + 1 := by rw [sn, List.length_append]; rfl
        refine ⟨by omega, by omega, by unfold inR; omega, b_X10_session_100 hn hP ⟨by unfold inR; omega, ?_⟩⟩
        have := ih (c + 1) (x_upd (x_upd N 79 ((memF v c).length : Int) (c : Int)) 80 ((memF v c).length : Int) ((memF v c).length : Int)) (by omega) (offR_upd (offR_upd oN (by omega)) (by omega)) (by rw [← eN]; funext q; rw [x_upd_nb (by decide), x_upd_nb (by decide)]) (by
          have e79 : x_upd (x_upd N 79 ((memF v c).length : Int) (c : Int)) 80 ((memF v c).length : Int) ((memF v c).length : Int) 79 = up (N 79) ((memF v c).length : Int) (c : Int) := by
            funext q
            rw [x_upd_nb (by decide), x_upd_up, setA_at]
          rw [e79, sn]
          exact rowIs_snoc r79) (by
          have e80 : x_upd (x_upd N 79 ((memF v c).length : Int) (c : Int)) 80 ((memF v c).length : Int) ((memF v c).length : Int) 80 = up (N 80) (((idn (memF v c).length).length : Nat) : Int) ((memF v c).length : Int) := by
            funext q
            rw [idn_len, x_upd_up (x_upd N 79 ((memF v c).length : Int) (c : Int)), setA_at]
            unfold up
            rw [x_upd_nb (by decide)]
          rw [e80, ln]
          exact rowIs_snoc r80) (fun x x0 x1 hx => by
          by_cases xc : x = (c : Int)
          · subst xc; exact hw'
          · exact hwt x x0 (by omega) hx)
        rw [ln, show (((memF v c).length + 1 : Nat) : Int) = ((memF v c).length : Int) + 1 by omega, show ((c + 1 : Nat) : Int) = (c : Int) + 1 by omega] at this
        exact this
      · have nb : ¬ bi1 v c := fun q => by have : x_and (x_shr v c) 1 = 1 := q; omega
        rw [if_neg nb, List.append_nil] at sn
        have := ih (c + 1) N (by omega) oN eN (by rw [sn]; exact r79) (by rw [sn]; exact r80) (fun x x0 x1 hx => by
          by_cases xc : x = (c : Int)
          · subst xc; exact absurd hx nb
          · exact hwt x x0 (by omega) hx)
        rw [sn, show ((c + 1 : Nat) : Int) = (c : Int) + 1 by omega] at this
        exact this
  have := loop (M 65 0).toNat 0 M (by omega) (offR_refl M) rfl (fun j hj => absurd hj (by show ¬ j < 0; omega)) (fun j hj => absurd hj (by show ¬ j < 0; omega)) (fun x x0 x1 => absurd x1 (by omega))
  exact this
end Sess5
