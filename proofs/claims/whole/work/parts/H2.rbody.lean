/-! the reference's clauses: bodies -/
def cols (M : xM) (x w : Int) (a : Int × Int × Int) : Prop := (w ≤ 4 → M 67 (x + 1) = a.1 ∧ M 67 (x + 2) = a.2.1 ∧ (w = 0 → M 67 (x + 3) = a.2.2)) ∧ (w ≠ 7 → w ≠ 10 → 5 ≤ w → M 67 (x + 1) = a.1) ∧ (w = 5 ∨ w = 9 → M 67 (x + 2) = a.2.1) ∧ (w = 5 → M 67 (x + 3) = a.2.2)
def b23 (M : xM) (R : tR) : Prop := ∀ q, 0 ≤ q → q < 4 → (bX (M 64 23) q.toNat = true ↔ R q ≠ none)
theorem lwB_R {K V : Nat → Int} {fu : Nat} {R : tR} {l : List (Int × Int)} {κ s0 : Int} {j : Nat} (h : (lwB K V fu R l κ s0 j).1 = 0) : (∃ q, (lwB K V fu R l κ s0 j).2.2.1 = updR R κ q) ∧ (lwB K V fu R l κ s0 j).2.2.2.2.2.2 = κ := by
  unfold lwB at h ⊢
  by_cases e : (lwS K V κ fu s0 j).1 = 0
  · rw [if_pos e]; exact ⟨⟨_, rfl⟩, rfl⟩
  · rw [if_neg e] at h; exact absurd h e
section Rbody
variable {g : Option Nat} {d n : Nat} {P : xP} {M M0 : xM} {F : xM → Int → Prop} {f : Int → Int} {L τ x : Int} {J j fu : Nat} {R : tR} {l : List (Int × Int)} {C : List tC}
theorem mB_next {Q : xM → Prop} (hn : 82 ≤ n) (hP : x_PP P) (ht : tpT f L M0) (S : mB f L τ x J M0 M l j) (H : ∀ M', offK M M' → mB f L τ x J M0 M' l (j + 1) → Q M') : xCV Y_X10_nextToken g (d + 1) [vR (some 64)] n P M Q :=
  h_next hn hP (tpT_B S.1 ht) S.2.1 (fun M' o' t' => H M' o' ⟨offB_K S.1 o', t', by rw [o'.2 13 (by decide)]; exact S.2.2.1, olR_of (fun i _ => by rw [o'.1 67 (by decide)]) S.2.2.2⟩)
theorem mB_fig (hn : 82 ≤ n) (hP : x_PP P) (ht : tpT f L M0) (hτ : 0 ≤ τ ∧ τ ≤ 3) (hx : 705 * τ < x ∧ x + 4 ≤ 705 * τ + 97) (S : mB f L τ x J M0 M l j) {a lo hi : Int} (ha : 1 ≤ a ∧ a < 4) (hh : hi ≤ 9999)
    (H0 : fgS (Kf f L) (Vf f L) lo hi j = 0 → ∀ M', mB f L τ x J M0 M' l (j + 1) → M' 67 (x + a) = Vf f L j → (∀ i, i ≠ x + a → M' 67 i = M 67 i) → M' 64 23 = M 64 23 → F M' 0)
    (H1 : fgS (Kf f L) (Vf f L) lo hi j ≠ 0 → F M (fgS (Kf f L) (Vf f L) lo hi j)) : xCI Y_X10_figure g (d + 2) [vR (some 64), vI (x + a), vI lo, vI hi] n P M F := by
  refine h_figure hn hP (tpT_B S.1 ht) S.2.1 (by omega) hh (fun e M' o' t' => H0 e M' ⟨offB_K (offB_67 S.1 (by omega) hx.2) o', t', by rw [o'.2 13 (by decide), x_upd_nb (by decide)]; exact S.2.2.1, olR_of (fun i hi => by rw [o'.1 67 (by decide), x_upd_nj (by omega)]) S.2.2.2⟩ ?_ (fun i hi => ?_) ?_) H1
  · rw [o'.1 67 (by decide), x_upd_at]
  · rw [o'.1 67 (by decide), x_upd_nj hi]
  · rw [o'.2 23 (by decide), x_upd_nb (by decide)]
theorem h_body (hn : 82 ≤ n) (hP : x_PP P) {w κ0 : Int} (E : eB f L τ κ0 (sortK w) J M0) (S : mB f L τ x J M0 M l j) (hx : 705 * τ < x ∧ x + 4 ≤ 705 * τ + 97) (hw : 0 ≤ w ∧ w ≤ 11) (hR : 1 ≤ w ∧ w ≤ 4 → R (w + 3) = none) (hj : j ≤ J) (hl : l.length ≤ j) (hf : 16 * J + 6 ≤ fu) (h23 : b23 M R)
    (H0 : (bdS (Kf f L) (Vf f L) fu R l w j).1 = 0 → ∀ M', mB f L τ x J M0 M' (bdS (Kf f L) (Vf f L) fu R l w j).2.2.2.1 (bdS (Kf f L) (Vf f L) fu R l w j).2.1 → cols M' x w (bdS (Kf f L) (Vf f L) fu R l w j).2.2.2.2 → b23 M' (bdS (Kf f L) (Vf f L) fu R l w j).2.2.1 → F M' 0)
    (H1 : (bdS (Kf f L) (Vf f L) fu R l w j).1 ≠ 0 → ∀ M', offB τ x M0 M' → tkR f L M' (ps f L (bdS (Kf f L) (Vf f L) fu R l w j).2.1) → F M' (bdS (Kf f L) (Vf f L) fu R l w j).1) : xCI Y_X10_body g (d + 11) [vR (some 64), vI (sortK w), vI x] n P M F := by
  have E0 := E
  obtain ⟨E1, E2, E3, E4, E5⟩ := E
  have pr := fun i => ps_r (f := f) E1.2.1.1 i
  have V0 : ∀ i, 0 ≤ Vf f L i ∧ Vf f L i ≤ 10000 := fun i => V_r _ (pr i).2
  have KJ := K_73 E3
  have nx : ∀ i, i ≤ J → Kf f L i ≠ 73 → i + 1 ≤ J := fun i h1 h2 => by
    have : i ≠ J := fun e => h2 ((KJ i h1).mpr e)
    omega
  generalize hb : bdS (Kf f L) (Vf f L) fu R l w j = b at H0 H1
  have b23_of : ∀ M', M' 64 23 = M 64 23 → b23 M' R := fun M' e => by unfold b23; rw [e]; exact h23
  -- laws that are told once
  have law1 : ∀ s0, (s0 = if w = 3 then 1 else 0) → 1 ≤ w → w ≤ 4 → xCI Y_X10_lawClause g (d + 10) [vR (some 64), vI x, vI s0] n P M F := fun s0 hs w1 w4 => by
    have eb : bdS (Kf f L) (Vf f L) fu R l w j = lwB (Kf f L) (Vf f L) fu R l (w + 3) s0 j := by
      unfold bdS
      rw [if_neg (by omega), if_pos w4, hs]
    rw [eb] at hb
    have es : sortK w = (if w + 3 < 4 then 4 else w + 3 - 4) := by
      rw [sortK_law (by omega), if_neg (by omega), if_neg (by omega)]; omega
    rw [es] at E0
    refine h_law (fu := fu) (R := R) (κ := w + 3) (d := d + 1) hn hP E0 S hx (by omega) hj hl (by rw [hs]; split; exact Or.inr rfl; exact Or.inl rfl) hf (fun e M' s' q1 q2 q3 q23 => ?_) (fun e M' o' t' => ?_)
    · obtain ⟨⟨q, eR⟩, _⟩ := lwB_R e
      rw [hb] at e s' q1 q2 eR
      refine H0 e M' s' ⟨fun _ => ⟨q1, q2, fun z => absurd z (by omega)⟩, fun _ _ z => absurd z (by omega), fun z => absurd z (by omega), fun z => absurd z (by omega)⟩ ?_
      rw [eR]
      intro k k0 k4
      have : updR R (w + 3) q k = R k := if_neg (by omega)
      rw [this, q23]
      exact h23 k k0 k4
    · rw [hb] at e t'
      have := H1 e M' o' t'
      rw [hb]
      exact this
  have one : ∀ lo hi : Int, hi ≤ 9999 → 5 ≤ w → w ≠ 5 → w ≠ 9 → (if fgS (Kf f L) (Vf f L) lo hi j ≠ 0 then no (fgS (Kf f L) (Vf f L) lo hi j) j R l else (0, j + 1, R, l, (Vf f L j, 0, 0))) = b → xCI Y_X10_figure g (d + 10) [vR (some 64), vI (x + 1), vI lo, vI hi] n P M F := fun lo hi hh w5 n5 n9 hb => by
    refine mB_fig (d := d + 8) hn hP E1 E4 hx S (by decide) hh (fun e M' s' ev eo e23 => ?_) (fun e => ?_)
    · rw [if_neg (fun z => z e)] at hb
      subst hb
      exact H0 rfl M' s' ⟨fun z => absurd z (by omega), fun _ _ _ => ev, fun z => absurd z (by omega), fun z => absurd z n5⟩ (b23_of M' e23)
    · rw [if_pos e] at hb
      subst hb
      exact H1 e M S.1 S.2.1
  have none0 : 5 ≤ w → (w = 7 ∨ w = 10) → (0, j, R, l, ((0 : Int), (0 : Int), (0 : Int))) = b → F M 0 := fun w5 w7 hb => by
    subst hb
    exact H0 rfl M S ⟨fun z => absurd z (by omega), fun a c => absurd w7 (by omega), fun z => absurd z (by omega), fun z => absurd z (by omega)⟩ (b23_of M rfl)
  have W := fun {N : xM → Int → Prop} {z : Int} {dd i : Nat} {M' : xM} (t' : tkR f L M' (ps f L i)) (k : Nat) (hk : k < 26) (h7 : vlF (wT.getD k []) 0 < 2 ^ 56) (hz : z = vlF (wT.getD k []) 0) => q_isWord (g := g) (d := dd) (F := N) hn hP (f := f) (L := L) (s := ps f L i) (a := z) k hk (pr i).2 h7 hz t'
  by_cases w0 : w = 0
  · have es : sortK w = 4 := by rw [w0]; decide
    rw [es]
    have eb : bdS (Kf f L) (Vf f L) fu R l w j = (if Kf f L j = 72 ∧ Vf f L j < 4 ∧ R (Vf f L j) ≠ none then no 4 j R l else if fgS (Kf f L) (Vf f L) 0 3 j ≠ 0 then no (fgS (Kf f L) (Vf f L) 0 3 j) j R l else if Kf f L (j + 1) ≠ 58 then no 1 (j + 1) R l else lwB (Kf f L) (Vf f L) fu R l (Vf f L j) 1 (j + 2)) := if_pos w0
    rw [eb] at hb
    refine b_X10_body (d := d + 1) hn hP ⟨fun z => absurd z (by decide), fun _ => ?_, fun z => absurd z (by decide), fun z => absurd z (by decide), fun z => absurd z (by decide), fun z => absurd z (by decide), fun z => absurd z (by decide), fun z => absurd z (by decide), fun z => absurd z (by decide), trivial⟩
    obtain ⟨t0, t72, t4, t5, tc⟩ := tk_kind S.2.1
    have v0 := V0 j
    have at32 : ¬ (Kf f L j = 72 ∧ Vf f L j < 4 ∧ R (Vf f L j) ≠ none) → xW Y_X10_codeClause g (d + 10) 0 0 32 [(0, vR (some 64)), (1, vI x)] [] (0, 0) (n, P, M) (kI n P F) := fun hno => by
      rw [if_neg hno] at hb
      refine b_X10_codeClause_32 (d := d + 1) hn hP ⟨by unfold inR; omega, mB_fig (d := d + 7) hn hP E1 E4 hx S (by decide) (by decide) (fun e M1 s1 ev eo e23 => ⟨fun _ => ⟨by unfold inR; omega, by omega, ?_⟩, fun z => absurd rfl z⟩) (fun e => ⟨fun z => absurd z e, fun _ => ?_⟩)⟩
      rotate_left
      · rw [if_pos e] at hb; subst hb; exact H1 e M S.1 S.2.1
      rw [if_neg (fun z => z e)] at hb
      have k72 : Kf f L j = 72 ∧ Vf f L j ≤ 3 := by rcases fgS_r (K := Kf f L) (V := Vf f L) (lo := 0) (hi := 3) (j := j) with z | z | z <;> first | exact ⟨z.2.1, z.2.2.2⟩ | (exfalso; omega)
      have rn : R (Vf f L j) = none := by
        cases e' : R (Vf f L j) with
        | none => rfl
        | some z => exact absurd ⟨k72.1, by omega, by rw [e']; exact fun y => by cases y⟩ hno
      have l1 := nx j hj (by omega)
      obtain ⟨_, _, _, _, tc1⟩ := tk_kind s1.2.1
      rw [ev]
      have o2 : offB τ x M0 (x_upd M1 64 23 (x_or (M1 64 23) (x_shl 1 (Vf f L j)))) := offB_64 s1.1 (by omega)
      refine ⟨fun y58 => ?_, fun n58 => ?_⟩
      rotate_left
      · have k58 : Kf f L (j + 1) ≠ 58 := fun z => n58 ((tc1 58 (by decide)).mpr z)
        rw [if_pos k58] at hb
        subst hb
        exact H1 (by show (1 : Int) ≠ 0; decide) _ o2 (tkR_s (fun k _ _ => x_upd_nj (by omega)) s1.2.1)
      have k58 : Kf f L (j + 1) = 58 := (tc1 58 (by decide)).mp y58
      rw [if_neg (fun z => z k58)] at hb
      have l2 := nx (j + 1) l1 (by omega)
      have s2 : mB f L τ x J M0 (x_upd M1 64 23 (x_or (M1 64 23) (x_shl 1 (Vf f L j)))) l (j + 1) := ⟨o2, tkR_s (fun k _ _ => x_upd_nj (by omega)) s1.2.1, by rw [x_upd_nj (by decide)]; exact s1.2.2.1, olR_of (fun i _ => x_upd_nb (by decide)) s1.2.2.2⟩
      refine mB_next hn hP E1 s2 (fun M2 k2 s3 => ?_)
      have e23' : M2 64 23 = x_or (M 64 23) (x_shl 1 (Vf f L j)) := by rw [k2.2 23 (by decide), x_upd_at, e23]
      have ex3 : M2 67 (x + 3) = Vf f L j := by rw [k2.1 67 (by decide), x_upd_nb (by decide)]; exact ev
      have E' : eB f L τ (Vf f L j) (if Vf f L j < 4 then 4 else Vf f L j - 4) J M0 := ⟨E1, by rw [if_pos (by omega), ← es]; exact E2, E3, E4, E5⟩
      refine h_law (fu := fu) (R := R) (κ := Vf f L j) (d := d) hn hP E' s3 hx (by omega) l2 (by omega) (Or.inr rfl) hf (fun e' M' s' q1 q2 q3 q23 => ?_) (fun e' M' o' t' => ?_)
      · obtain ⟨⟨q, eR⟩, eκ⟩ := lwB_R e'
        rw [hb] at e' s' q1 q2 eR eκ
        refine H0 e' M' s' ⟨fun _ => ⟨q1, q2, fun _ => by rw [q3, ex3]; exact eκ.symm⟩, fun _ _ z => absurd z (by omega), fun z => absurd z (by omega), fun z => absurd z (by omega)⟩ ?_
        rw [eR]
        intro k k0 k4
        rw [q23, e23', bX_or, bX_shl (by omega) (by omega)]
        by_cases z : k = Vf f L j
        · have u1 : updR R (Vf f L j) q k = some q := if_pos z
          rw [u1, decide_eq_true (by rw [z]), Bool.or_true]
          exact ⟨fun _ y => (by cases y), fun _ => rfl⟩
        · have u1 : updR R (Vf f L j) q k = R k := if_neg z
          rw [u1, decide_eq_false (by omega), Bool.or_false]
          exact h23 k k0 k4
      · rw [hb] at e' t'
        have := H1 e' M' o' t'
        rw [hb]
        exact this
    refine b_X10_codeClause (d := d + 1) hn hP ⟨fun n1 => at32 (fun z => n1 (t72.mpr z.1)), fun y1 => ?_⟩
    have k72 : Kf f L j = 72 := t72.mp y1
    have nm := tk_num (pr j).2 S.2.1 k72
    unfold numR at nm
    have nv : (Vf f L j < 10000 ∧ M 64 10 = Vf f L j) ∨ (Vf f L j = 10000 ∧ 10000 ≤ M 64 10) := nm
    refine ⟨fun q => at32 (fun z => by omega), fun q => ?_⟩
    have e10 : M 64 10 = Vf f L j := by omega
    rw [e10]
    refine c_X10_has hn ?_
    rw [bX_bit (by omega)]
    by_cases hB : bX (M 64 23) (Vf f L j).toNat = true
    · rw [if_pos hB]
      have hr := (h23 _ (by omega) (by omega)).mp hB
      rw [if_pos ⟨k72, by omega, hr⟩] at hb
      subst hb
      exact ⟨fun z => absurd z (by decide), fun _ => H1 (by show (4 : Int) ≠ 0; decide) M S.1 S.2.1⟩
    · rw [if_neg hB]
      exact ⟨fun _ => at32 (fun z => hB ((h23 _ (by omega) (by omega)).mpr z.2.2)), fun z => absurd rfl z⟩
  by_cases w4 : w ≤ 4
  · have es : sortK w = w - 1 := by rw [sortK_law (by omega), if_neg w0]
    rw [es]
    refine b_X10_body (d := d + 1) hn hP ⟨fun _ => ⟨fun n2 => b_X10_body_115 (d := d + 1) hn hP (law1 0 (by rw [if_neg (by omega)]) (by omega) w4), fun y2 => b_X10_body_115 (d := d + 1) hn hP (law1 1 (by rw [if_pos (by omega)]) (by omega) w4)⟩, fun z => absurd z (by omega), fun z => absurd z (by omega), fun z => absurd z (by omega), fun z => absurd z (by omega), fun z => absurd z (by omega), fun z => absurd z (by omega), fun z => absurd z (by omega), fun z => absurd z (by omega), trivial⟩
  have es : sortK w = w := sortK_deed (by omega)
  rw [es]
  rw [bdS_deed (by omega)] at hb
  refine b_X10_body (d := d + 1) hn hP ⟨fun z => absurd z (by omega), fun z => absurd z (by omega), fun w5 => ?_, fun w6 => ⟨by unfold inR; omega, ?_⟩, fun w7 => ?_, fun w8 => ⟨by unfold inR; omega, ?_⟩, fun w9 => ?_, fun w10 => ?_, fun w11 => ⟨by unfold inR; omega, ?_⟩, trivial⟩
  · rw [if_pos w5] at hb
    refine b_X10_caseClause (d := d + 5) hn hP ⟨by unfold inR; omega, mB_fig (d := d + 7) hn hP E1 E4 hx S (by decide) (by decide) (fun e M1 s1 ev1 eo1 e23 => ⟨fun _ => ?_, fun z => absurd rfl z⟩) (fun e => ⟨fun z => absurd z e, fun _ => ?_⟩)⟩
    rotate_left
    · rw [if_pos e] at hb; subst hb; exact H1 e M S.1 S.2.1
    rw [if_neg (fun z => z e)] at hb
    refine q_isGravity (d := d + 4) hn hP (pr (j + 1)) (tpT_B s1.1 E1) s1.2.1 ⟨fun y => ?_, fun y => ?_⟩
    rotate_left
    · have k : Kf f L (j + 1) ≠ 16 := bi_0.mp y
      rw [if_pos k] at hb; subst hb; exact H1 (by show (1 : Int) ≠ 0; decide) M1 s1.1 s1.2.1
    have k : Kf f L (j + 1) = 16 := bi_n0.mp y
    rw [if_neg (fun z => z k)] at hb
    refine mB_next (d := d + 8) hn hP E1 s1 (fun M2 k2 s2 => ⟨by unfold inR; omega, ?_⟩)
    refine mB_fig (d := d + 7) hn hP E1 E4 hx s2 (by decide) (by decide) (fun e3 M3 s3 ev3 eo3 e23' => ⟨fun _ => ?_, fun z => absurd rfl z⟩) (fun e3 => ⟨fun z => absurd z e3, fun _ => ?_⟩)
    rotate_left
    · rw [if_pos e3] at hb; subst hb; exact H1 e3 M2 s2.1 s2.2.1
    rw [if_neg (fun z => z e3)] at hb
    refine c_w5 (d := d + 6) hn (by decide) (by decide) (by decide) (by decide) (by decide) (W s3.2.1 19 (by decide) (by decide) rfl ⟨fun y => ?_, fun y => ?_⟩)
    rotate_left
    · have k' : Kf f L (j + 3) ≠ 19 := bi_0.mp y
      rw [if_pos k'] at hb; subst hb; exact H1 (by show (1 : Int) ≠ 0; decide) M3 s3.1 s3.2.1
    have k' : Kf f L (j + 3) = 19 := bi_n0.mp y
    rw [if_neg (fun z => z k')] at hb
    refine mB_next (d := d + 8) hn hP E1 s3 (fun M4 k4 s4 => ⟨by unfold inR; omega, ?_⟩)
    refine mB_fig (d := d + 7) hn hP E1 E4 hx s4 (by decide) (by decide) (fun e5 M5 s5 ev5 eo5 e23'' => ?_) (fun e5 => ?_)
    · rw [if_neg (fun z => z e5)] at hb
      subst hb
      have c4 : ∀ i, M4 67 i = M3 67 i := fun i => by rw [k4.1 67 (by decide)]
      have c2 : ∀ i, M2 67 i = M1 67 i := fun i => by rw [k2.1 67 (by decide)]
      refine H0 rfl M5 s5 ⟨fun z => absurd z (by omega), fun _ _ _ => ?_, fun _ => ?_, fun _ => ev5⟩ (b23_of M5 ?_)
      · rw [eo5 _ (by omega), c4, eo3 _ (by omega), c2]; exact ev1
      · rw [eo5 _ (by omega), c4]; exact ev3
      · rw [e23'', k4.2 23 (by decide), e23', k2.2 23 (by decide), e23]
    · rw [if_pos e5] at hb; subst hb; exact H1 e5 M4 s4.1 s4.2.1
  · rw [if_neg (by omega), if_pos (Or.inl w6)] at hb
    exact one 0 7 (by decide) (by omega) (by omega) (by omega) hb
  · rw [if_neg (by omega), if_neg (by omega), if_pos (Or.inl w7)] at hb
    exact none0 (by omega) (Or.inl w7) hb
  · rw [if_neg (by omega), if_pos (Or.inr w8)] at hb
    exact one 0 7 (by decide) (by omega) (by omega) (by omega) hb
  · rw [if_neg (by omega), if_neg (by omega), if_neg (by omega), if_pos w9] at hb
    refine b_X10_gustClause (d := d + 6) hn hP ⟨by unfold inR; omega, mB_fig (d := d + 7) hn hP E1 E4 hx S (by decide) (by decide) (fun e M1 s1 ev1 eo1 e23 => ⟨fun _ => ?_, fun z => absurd rfl z⟩) (fun e => ⟨fun z => absurd z e, fun _ => ?_⟩)⟩
    rotate_left
    · rw [if_pos e] at hb; subst hb; exact H1 e M S.1 S.2.1
    rw [if_neg (fun z => z e)] at hb
    refine c_w5 (d := d + 6) hn (by decide) (by decide) (by decide) (by decide) (by decide) (W s1.2.1 13 (by decide) (by decide) rfl ⟨fun y => ?_, fun y => ?_⟩)
    rotate_left
    · have k' : Kf f L (j + 1) ≠ 13 := bi_0.mp y
      rw [if_pos k'] at hb; subst hb; exact H1 (by show (1 : Int) ≠ 0; decide) M1 s1.1 s1.2.1
    have k' : Kf f L (j + 1) = 13 := bi_n0.mp y
    rw [if_neg (fun z => z k')] at hb
    refine mB_next (d := d + 8) hn hP E1 s1 (fun M2 k2 s2 => ⟨by unfold inR; omega, ?_⟩)
    refine mB_fig (d := d + 7) hn hP E1 E4 hx s2 (by decide) (by decide) (fun e3 M3 s3 ev3 eo3 e23' => ?_) (fun e3 => ?_)
    · rw [if_neg (fun z => z e3)] at hb
      subst hb
      have c2 : ∀ i, M2 67 i = M1 67 i := fun i => by rw [k2.1 67 (by decide)]
      refine H0 rfl M3 s3 ⟨fun z => absurd z (by omega), fun _ _ _ => ?_, fun _ => ev3, fun z => absurd z (by omega)⟩ (b23_of M3 ?_)
      · rw [eo3 _ (by omega), c2]; exact ev1
      · rw [e23', k2.2 23 (by decide), e23]
    · rw [if_pos e3] at hb; subst hb; exact H1 e3 M2 s2.1 s2.2.1
  · rw [if_neg (by omega), if_neg (by omega), if_pos (Or.inr w10)] at hb
    exact none0 (by omega) (Or.inr w10) hb
  · rw [if_neg (by omega), if_neg (by omega), if_neg (by omega), if_neg (by omega)] at hb
    exact one 1 60 (by decide) (by omega) (by omega) (by omega) hb
end Rbody
