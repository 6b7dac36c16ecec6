/-! String members; wordAt -/
def WL : List Int := wT.flatMap (fun w => w ++ [32])
theorem WL_len : (WL.length : Int) = wN := by decide +kernel
theorem WL_at : ∀ i : Fin WL.length, wB8 (i.val : Int) = WL.getD i.val 0 ∧ (0 ≤ WL.getD i.val 0 ∧ WL.getD i.val 0 ≤ 255) := by decide +kernel
theorem c255 : ∀ z : Fin 256, x_and (z.val : Int) 255 = (z.val : Int) ∧ ((Int32.ofInt (z.val : Int)).toUInt32 % 65536).toInt32 = Int32.ofInt (z.val : Int) ∧ narrow .char (.int (Int32.ofInt (z.val : Int))) = .int (Int32.ofInt (z.val : Int)) := by decide +kernel
theorem c255z {z : Int} (h : 0 ≤ z ∧ z ≤ 255) : x_and z 255 = z ∧ ((Int32.ofInt z).toUInt32 % 65536).toInt32 = Int32.ofInt z ∧ narrow .char (.int (Int32.ofInt z)) = .int (Int32.ofInt z) := by
  have := c255 ⟨z.toNat, by omega⟩
  rwa [show (((⟨z.toNat, by omega⟩ : Fin 256).val : Nat) : Int) = z by show (z.toNat : Int) = z; omega] at this
theorem shr_wN : x_shr wN 0 = wN := by decide +kernel
section Word
variable {g : Option Nat} {d n : Nat} {P : xP} {M : xM} {F : xM → Int → Prop} {G : xM → Prop}
theorem c_J0_coder (H : F M 0) : xCI Y_J0_coder_7d493 g d [vR (some 1000)] n P M F :=
  xC.of pn_J0_coder_7d493 (Nat.le_of_ble_eq_true rfl) rfl (xW.gZ rfl dJ0_coder_7d493_0 (xW.ifeq (tgt := 13) dJ0_coder_7d493_3 (by decide) (fun h => absurd h (by decide)) (fun _ => xW.aload_n dJ0_coder_7d493_6 0 rfl (xW.gC rfl dJ0_coder_7d493_7 (xW.goto (tgt := 14) dJ0_coder_7d493_10 (by decide) (xW.rN dJ0_coder_7d493_14 rfl rfl H))))))
theorem c_J0_length (H : F M wN) : xCI Y_J0_length_8abf5 g (d + 1) [vR (some 1000)] n P M F :=
  xC.of pn_J0_length_8abf5 (Nat.le_of_ble_eq_true rfl) rfl (xW.aload_n dJ0_length_8abf5_0 0 rfl (xW.gV rfl dJ0_length_8abf5_1 (xW.lenB dJ0_length_8abf5_4 (xW.aload_n dJ0_length_8abf5_5 0 rfl (xW.callVSI (F := fun M' z => z = 0 ∧ M' = M) [] [vI wN] dJ0_length_8abf5_6 mk_J0_335 im_J0_coder_7d493 se_J0_coder_7d493 rfl rfl rfl (Nat.le_of_ble_eq_true rfl) ⟨Nat.le_refl _, Nat.le_refl _⟩ (c_J0_coder ⟨rfl, rfl⟩) (fun M' z h => by
    obtain ⟨rfl, rfl⟩ := h
    exact xW.ishr dJ0_length_8abf5_9 (xW.rI dJ0_length_8abf5_10 rfl (by rw [shr_wN]; exact H)))))))) 
theorem c_J0_isLatin1 (H : F M 1) : xCI Y_J0_isLatin1_aae02 g d [vR (some 1000)] n P M F :=
  xC.of pn_J0_isLatin1_aae02 (Nat.le_of_ble_eq_true rfl) rfl (xW.gZ rfl dJ0_isLatin1_aae02_0 (xW.ifeq (tgt := 17) dJ0_isLatin1_aae02_3 (by decide) (fun h => absurd h (by decide)) (fun _ => xW.aload_n dJ0_isLatin1_aae02_6 0 rfl (xW.gC rfl dJ0_isLatin1_aae02_7 (xW.ifne (tgt := 17) dJ0_isLatin1_aae02_10 (by decide) (fun h => absurd rfl h) (fun _ => xW.iconst dJ0_isLatin1_aae02_13 (by decide) (xW.goto (tgt := 18) dJ0_isLatin1_aae02_14 (by decide) (xW.rZ dJ0_isLatin1_aae02_18 rfl (by decide) H))))))))
theorem c_J3_checkIndex {i N : Int} {o : Option Nat} (hi : 0 ≤ i ∧ i < N) (H : F M i) : xCI Y_J3_checkIndex_8e157 g d [vI i, vI N, vR o] n P M F :=
  xC.of pn_J3_checkIndex_8e157 (Nat.le_of_ble_eq_true rfl) rfl (xW.iload_n dJ3_checkIndex_8e157_0 0 rfl (xW.iflt (tgt := 9) dJ3_checkIndex_8e157_1 (by decide) (fun h => absurd h (by omega)) (fun _ => xW.iload_n dJ3_checkIndex_8e157_4 0 rfl (xW.iload_n dJ3_checkIndex_8e157_5 1 rfl (xW.cmplt (tgt := 16) dJ3_checkIndex_8e157_6 (by decide) (fun _ => xW.iload_n dJ3_checkIndex_8e157_16 0 rfl (xW.rI dJ3_checkIndex_8e157_17 rfl H)) (fun h => absurd hi.2 h))))))
theorem c_J0_checkIndex {i N : Int} (hi : 0 ≤ i ∧ i < N) (H : G M) : xCV Y_J0_checkIndex_df160 g (d + 1) [vI i, vI N] n P M G :=
  xC.of pn_J0_checkIndex_df160 (Nat.le_of_ble_eq_true rfl) rfl (xW.iload_n dJ0_checkIndex_df160_0 0 rfl (xW.iload_n dJ0_checkIndex_df160_1 1 rfl (xW.gF rfl dJ0_checkIndex_df160_2 (fun o => xW.callSI (F := fun M' z => M' = M) [vI i, vI N, vR o] [] dJ0_checkIndex_df160_5 ms_J0_1059 rfl rfl (Nat.le_of_ble_eq_true rfl) ⟨Nat.le_refl _, Nat.le_refl _⟩ (c_J3_checkIndex hi rfl) (fun M' z h => by
    subst h
    exact xW.pop dJ0_checkIndex_df160_8 rfl (xW.rV dJ0_checkIndex_df160_9 rfl H))))))
theorem c_J1_charAt {i : Int} (hi : 0 ≤ i ∧ i < wN) (hb : 0 ≤ wB8 i ∧ wB8 i ≤ 255) (H : F M (wB8 i)) : xCI Y_J1_charAt_3b067 g (d + 2) [vR (some 1001), vI i] n P M F :=
  xC.of pn_J1_charAt_3b067 (Nat.le_of_ble_eq_true rfl) rfl (xW.iload_n dJ1_charAt_3b067_0 1 rfl (xW.aload_n dJ1_charAt_3b067_1 0 rfl (xW.lenB dJ1_charAt_3b067_2 (xW.callSV (F := fun M' => M' = M) [vI i, vI wN] [] dJ1_charAt_3b067_3 ms_J1_9 rfl rfl (Nat.le_of_ble_eq_true rfl) ⟨Nat.le_refl _, Nat.le_refl _⟩ (c_J0_checkIndex hi rfl) (fun M' h => by
    subst h
    exact xW.aload_n dJ1_charAt_3b067_6 0 rfl (xW.iload_n dJ1_charAt_3b067_7 1 rfl (xW.baldB dJ1_charAt_3b067_8 hi (xW.sipush dJ1_charAt_3b067_9 (by decide) (by decide) (xW.iand dJ1_charAt_3b067_12 (by
      rw [(c255z hb).1]
      exact xW.i2c dJ1_charAt_3b067_13 (c255z hb).2.1 (xW.rN dJ1_charAt_3b067_14 rfl (c255z hb).2.2 H))))))))))) 
theorem c_J0_charAt {i : Int} (hi : 0 ≤ i ∧ i < wN) (hb : 0 ≤ wB8 i ∧ wB8 i ≤ 255) (H : F M (wB8 i)) : xCI Y_J0_charAt_5068e g (d + 3) [vR (some 1000), vI i] n P M F :=
  xC.of pn_J0_charAt_5068e (Nat.le_of_ble_eq_true rfl) rfl (xW.aload_n dJ0_charAt_5068e_0 0 rfl (xW.callVSI (F := fun M' z => z = 1 ∧ M' = M) [] [] dJ0_charAt_5068e_1 mk_J0_492 im_J0_isLatin1_aae02 se_J0_isLatin1_aae02 rfl rfl rfl (Nat.le_of_ble_eq_true rfl) ⟨Nat.le_refl _, Nat.le_refl _⟩ (c_J0_isLatin1 ⟨rfl, rfl⟩) (fun M' z h => by
    obtain ⟨rfl, rfl⟩ := h
    exact xW.ifeq (tgt := 16) dJ0_charAt_5068e_4 (by decide) (fun h => absurd h (by decide)) (fun _ => xW.aload_n dJ0_charAt_5068e_7 0 rfl (xW.gV rfl dJ0_charAt_5068e_8 (xW.iload_n dJ0_charAt_5068e_11 1 rfl (xW.callSI (F := fun M'' z => z = wB8 i ∧ M'' = M') [vR (some 1001), vI i] [] dJ0_charAt_5068e_12 ms_J0_495 rfl rfl (Nat.le_of_ble_eq_true rfl) ⟨Nat.le_refl _, Nat.le_refl _⟩ (c_J1_charAt hi hb ⟨rfl, rfl⟩) (fun M'' z h => by
      rw [h.1, h.2]
      exact xW.rN dJ0_charAt_5068e_15 rfl (c255z hb).2.2 H))))))))
/-- as the class goes through the table -/
def wA (f : Int → Int) (fr to : Int) : List Int → Int → Int → Int
  | [], _, _ => 74
  | c :: r, w, a => if c = 32 then (if a = to then w else wA f fr to r (w + 1) fr) else wA f fr to r w (if a < to ∧ f a = c then a + 1 else 301)
def alk (f : Int → Int) (to : Int) : List Int → Int → Int
  | [], a => a
  | c :: r, a => alk f to r (if a < to ∧ f a = c then a + 1 else 301)
theorem wA_word (f : Int → Int) (fr to : Int) (r : List Int) (k : Int) : ∀ (w : List Int) (a : Int), (∀ c ∈ w, c ≠ 32) → wA f fr to (w ++ 32 :: r) k a = if alk f to w a = to then k else wA f fr to r (k + 1) fr
  | [], a, _ => by
    show (if (32 : Int) = 32 then (if a = to then k else wA f fr to r (k + 1) fr) else _) = _
    rw [if_pos rfl]
    rfl
  | c :: w, a, h => by
    show (if c = 32 then _ else wA f fr to (w ++ 32 :: r) k (if a < to ∧ f a = c then a + 1 else 301)) = if alk f to w (if a < to ∧ f a = c then a + 1 else 301) = to then k else wA f fr to r (k + 1) fr
    rw [if_neg (h c (List.mem_cons_self ..)), wA_word f fr to r k w _ (fun x hx => h x (List.mem_cons_of_mem _ hx))]
theorem alk_301 {f : Int → Int} {to : Int} (ht : to ≤ 300) : ∀ w : List Int, alk f to w 301 = 301
  | [] => rfl
  | c :: w => by
    show alk f to w (if 301 < to ∧ f 301 = c then 301 + 1 else 301) = 301
    rw [if_neg (fun z => by omega)]
    exact alk_301 ht w
theorem wd_cons {f : Int → Int} {a to : Int} (h : a < to) : wd f a to = f a :: wd f (a + 1) to := by
  unfold wd
  rw [show (to - a).toNat = (to - (a + 1)).toNat + 1 by omega]
  rfl
theorem alk_iff {f : Int → Int} {to : Int} (ht : to ≤ 300) : ∀ (w : List Int) (a : Int), a ≤ to → (alk f to w a = to ↔ wd f a to = w)
  | [], a, ha => by
    show a = to ↔ _
    constructor
    · intro e; subst e
      unfold wd
      rw [show (a - a).toNat = 0 by omega]
      rfl
    · intro e
      by_cases q : a < to
      · rw [wd_cons q] at e; cases e
      · omega
  | c :: w, a, ha => by
    show alk f to w (if a < to ∧ f a = c then a + 1 else 301) = to ↔ _
    by_cases q : a < to ∧ f a = c
    · rw [if_pos q, alk_iff ht w (a + 1) (by omega), wd_cons q.1, q.2]
      exact ⟨fun e => by rw [e], fun e => (List.cons.inj e).2⟩
    · rw [if_neg q, alk_301 ht]
      refine ⟨fun e => by omega, fun e => absurd ?_ q⟩
      by_cases q1 : a < to
      · rw [wd_cons q1] at e
        exact ⟨q1, (List.cons.inj e).1⟩
      · have : a = to := by omega
        subst this
        unfold wd at e
        rw [show (a - a).toNat = 0 by omega] at e
        cases e
theorem wA_table {f : Int → Int} {fr to : Int} (ht : to ≤ 300) (hf : fr ≤ to) : ∀ (T : List (List Int)) (k : Int), (∀ w ∈ T, ∀ c ∈ w, c ≠ 32) → wA f fr to (T.flatMap (fun w => w ++ [32])) k fr = wK (wd f fr to) T k
  | [], k, _ => rfl
  | w :: T, k, h => by
    rw [List.flatMap_cons, List.append_assoc]
    show wA f fr to (w ++ 32 :: (T.flatMap (fun w => w ++ [32]))) k fr = if wd f fr to = w then k else wK (wd f fr to) T (k + 1)
    rw [wA_word f fr to _ k w fr (h w (List.mem_cons_self ..)), wA_table ht hf T (k + 1) (fun x hx => h x (List.mem_cons_of_mem _ hx))]
    by_cases q : wd f fr to = w
    · rw [if_pos ((alk_iff ht w fr hf).mpr q), if_pos q]
    · rw [if_neg (fun z => q ((alk_iff ht w fr hf).mp z)), if_neg q]
theorem wT_32 : ∀ w ∈ wT, ∀ c ∈ w, c ≠ 32 := by decide +kernel
set_option maxRecDepth 20000 in
theorem b_X6_wordAt (hn : 82 ≤ n) (hP : x_PP P) {a1 a2 : Int} (H : xW Y_X6_wordAt g (d + 5) 0 0 8 [(0, vR (some 37)), (1, vI a1), (2, vI a2), (3, vI 0), (4, vI a1), (5, vI 0)] [] (0, 0) (n, P, M) (kI n P F)) : xCI Y_X6_wordAt g (d + 5) [vR (some 37), vI a1, vI a2] n P M F :=
  xC.of pn_X6_wordAt (Nat.le_of_ble_eq_true rfl) rfl (xW.iconst dX6_wordAt_0 (by decide) (xW.istore_n dX6_wordAt_1 (by decide) rfl (xW.iload_n dX6_wordAt_2 1 rfl (xW.istore dX6_wordAt_3 (by decide) rfl (xW.iconst dX6_wordAt_5 (by decide) (xW.istore dX6_wordAt_6 (by decide) rfl H))))))
set_option maxRecDepth 20000 in
theorem b_X6_wordAt_81 (hn : 82 ≤ n) {x1 x2 x3 x4 x5 : Int} (hi : inR (x5 + 1)) (H : xW Y_X6_wordAt g (d + 5) 0 0 8 [(0, vR (some 37)), (1, vI x1), (2, vI x2), (3, vI x3), (4, vI x4), (5, vI (x5 + 1))] [] (0, 0) (n, P, M) (kI n P F)) : xW Y_X6_wordAt g (d + 5) 0 0 81 [(0, vR (some 37)), (1, vI x1), (2, vI x2), (3, vI x3), (4, vI x4), (5, vI x5)] [] (0, 0) (n, P, M) (kI n P F) :=
  xW.iinc (q := 5) dX6_wordAt_81 rfl (by decide) hi rfl (xW.goto (tgt := 8) dX6_wordAt_84 (by decide) H)
end Word
