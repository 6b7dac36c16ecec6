/-! the law's own frame: what it loads, what it calls -/
def YL : xY := (x, code, 4, ret)
def xv (xs : Nat → Int32) (k : Int) : Int := (xs k.toNat).toInt
theorem xv_ok (xs : Nat → Int32) (k : Int) : inR (xv xs k) := x_inR_of _
section LawW
variable {p : Program} {l : Launch} {e : Env} {s : State} {m : MethodId} {below : List Frame} {meth : Method} {c : Code} {b Ln : Nat} {xs : Nat → Int32} {G : xG} {g : Option Nat} {h : xH} {H : Heap} {locs : List Loc} {ls : Array Slot} {cells slots pc d mc' ms' : Nat} {QQ : State → Prop} {st rest : List Value} {Y' : xY} {Q' : xH → Option xV → Prop}
abbrev LL (G : xG) (b : Nat) (ls : Array Slot) (i : Int) : Prop := lv_has ls 4 [(0, .ref b), (1, .ref (x_ad G 0)), (2, .ref (x_ad G 64)), (3, .int (Int32.ofInt i))]
abbrev LX (s : State) (b Ln : Nat) (xs : Nat → Int32) (G : xG) : Prop := va_X b Ln xs s s.heap ∧ b < s.heap.size ∧ G.2.2.1 = s.heap.size ∧ Ln ≤ 3072
theorem lawArg {i j : Int} (hd0 : decode code pc = .ok (.aload_n 0, 1)) (hd1 : decode code (pc + 1) = .ok (.iload_n 3, 1)) (hd2 : decode code (pc + 2) = .ok (.iconst j, 1)) (hd3 : decode code (pc + 3) = .ok (.iadd, 1)) (hd4 : decode code (pc + 4) = .ok (.iaload, 1)) (C : x_C YL g G p s m #[Value.ref b] meth c H locs h) (X : LX s b Ln xs G) (hl : LL G b ls i) (hi : 0 ≤ i ∧ 0 ≤ j ∧ i + j < Ln)
    (k : W p l e room_1 s m #[Value.ref b] below meth c H locs cells slots QQ (F0 m (pc + 5) ls (.int (Int32.ofInt (xv xs (i + j))) :: st))) : W p l e room_1 s m #[Value.ref b] below meth c H locs cells slots QQ (F0 m pc ls st) := by
  have h3072 := X.2.2.2
  have hr : inR (i + j) := by unfold inR; omega
  refine lv_aload_n (cc := code) C.2.1.1 C.2.1.2.1 hd0 rfl (lv_at hl 0 rfl) ?_
  refine lv_iload_n (cc := code) C.2.1.1 C.2.1.2.1 hd1 rfl (lv_at hl 3 rfl) ?_
  refine lv_iconst (cc := code) (v := Int32.ofInt j) C.2.1.1 C.2.1.2.1 hd2 rfl ?_
  refine lv_iadd (cc := code) (x := Int32.ofInt i) (y := Int32.ofInt j) C.2.1.1 C.2.1.2.1 hd3 ?_
  rw [← Int32.ofInt_add]
  refine va_sld (cc := code) (A := x_A G) (i := Int32.ofInt (i + j)) C.2.1.1 C.2.1.2.1 X.1 X.2.1 (show ¬ G.2.2.1 ≤ b by rw [X.2.2.1]; exact Nat.not_le.mpr X.2.1) C.2.2.2.2.2.1 (x_in hr (by omega) (by omega)) hd4 ?_
  rw [x_clamp hr, ← Int32.ofInt_toInt (xs (i + j).toNat)]
  exact k
theorem lawBool {v : Int} (hd0 : decode code pc = .ok (.ifCond .eq 7, 3)) (hd1 : decode code (pc + 3) = .ok (.iconst 1, 1)) (hd2 : decode code (pc + 4) = .ok (.goto 4, 3)) (hd3 : decode code (pc + 7) = .ok (.iconst 0, 1)) (C : x_C YL g G p s m #[Value.ref b] meth c H locs h) (hv : inR v)
    (k : W p l e room_1 s m #[Value.ref b] below meth c H locs cells slots QQ (F0 m (pc + 8) ls (.int (Int32.ofInt (bi (v ≠ 0))) :: st))) : W p l e room_1 s m #[Value.ref b] below meth c H locs cells slots QQ (F0 m pc ls (.int (Int32.ofInt v) :: st)) := by
  refine lv_if_eq (cc := code) (x := Int32.ofInt v) (tgt := pc + 7) C.2.1.1 C.2.1.2.1 hd0 (by omega) (fun q => ?_) (fun q => ?_)
  · have e0 : v = 0 := (x_eq hv x_0).mp q
    refine lv_iconst (cc := code) (v := 0) C.2.1.1 C.2.1.2.1 hd3 rfl ?_
    rw [bi_f (fun w => w e0)] at k
    exact k
  · have e0 : v ≠ 0 := fun w => q ((x_eq hv x_0).mpr w)
    refine lv_iconst (cc := code) (v := 1) C.2.1.1 C.2.1.2.1 hd1 rfl ?_
    refine lv_goto (cc := code) (tgt := pc + 8) C.2.1.1 C.2.1.2.1 hd2 (by omega) ?_
    rw [bi_t e0] at k
    exact k
theorem x_contR {R : Room} {args a : Array Value} {st0 : List Value} (hr : va_Run p l e R s m args below meth c H locs cells slots mc' ms' (F0 m pc ls st0) rest (x_Qc G g Q' a) (x_A G)) (hS : va_S (x_A G) s.heap H locs)
    (k : ∀ h' r H' locs', Q' h' r → x_okM h'.2.2 → x_okR r → x_hI G g h' H' → va_S (x_A G) s.heap H' locs' → W p l e R s m args below meth c H' locs' (cells + mc') (slots + ms') QQ (F0 m (pc + 3) ls ((r.map (x_tr (x_ad G))).toList ++ rest))) : W p l e R s m args below meth c H locs cells slots QQ (F0 m pc ls st0) := by
  intro T hT X
  obtain ⟨v, st₀, t, T', L', h0, X', hL, e1, e2, ⟨⟨h', r, hv, hq, hok, hokr, hhI⟩, hz, hk⟩, stp⟩ := hr T hT X
  cases hv
  rw [h0] at hz hk
  have hS' : va_S (x_A G) s.heap T'.heap (locs ++ L') := ⟨Nat.le_trans hS.1 (by rw [e1]; exact hz), fun q h1 h2 => by rw [e1, hk q (Nat.lt_of_lt_of_le h1 hS.1) h2]; exact hS.2.1 q h1 h2, fun q hq => by
      rcases List.mem_append.mp hq with h | h
      · exact hS.2.2 q h
      · exact hL q h⟩
  obtain ⟨t2, a1, b1⟩ := k h' r T'.heap (locs ++ L') hq hok hokr (by rw [e1]; exact hhI) hS' T' rfl X'
  exact ⟨t2, stp t2 a1, b1⟩
theorem x_rmL (hd : d ≤ 1000) (hm : Y'.2.2.1 ≤ 45) : (x_rm d mc' ms').frames + 1 ≤ room_1.frames ∧ 8 + (Y'.2.2.1 + 11) + (x_rm d mc' ms').locals ≤ room_1.locals := by
  constructor
  · show d + 1 ≤ 2048
    omega
  · show 8 + (Y'.2.2.1 + 11) + 64 * d ≤ 84000
    omega
/-- a call of a method of the class or of the reference -/
theorem lawV {a idx ci np : Nat} {As : List xV} (hd : decode code pc = .ok (.invokevirtual idx, 3)) (hM : x_MV RL idx Y' np ci) (hs : x_sk a = ci + 5) (hn : a < h.1) (hnp : As.length = np) (hls : ls.size = 4) (okA : ∀ v ∈ As, x_ok v) (hW : (rest.map fun v => v.category).sum ≤ 8) (hcs : cells + mc' ≤ 600000 ∧ slots + ms' ≤ 7302249) (hdd : d ≤ 1000) (C : x_C YL g G p s m #[Value.ref b] meth c H locs h)
    (kc : xC Y' g d mc' ms' (vR (some a) :: As) h Q') (k : ∀ h' r H' locs', Q' h' r → x_okR r → x_C YL g G p s m #[Value.ref b] meth c H' locs' h' → W p l e room_1 s m #[Value.ref b] below meth c H' locs' (cells + mc') (slots + ms') QQ (F0 m (pc + 3) ls ((r.map (x_tr (x_ad G))).toList ++ rest))) :
    W p l e room_1 s m #[Value.ref b] below meth c H locs cells slots QQ (F0 m pc ls ((As.map (x_tr (x_ad G))).reverse ++ .ref (x_ad G a) :: rest)) := by
  obtain ⟨h1, h2, h3, rr, h4, h5⟩ := hM
  have hts := C.2.1.2.2.2.2.2.2.2
  have ht : ∀ w ∈ x_TBL, w.before #[Value.ref b] s = true := fun w hw => hts w (List.mem_cons_of_mem _ hw)
  have okB : ∀ v ∈ vR (some a) :: As, x_ok v := fun v hv => by
    rcases List.mem_cons.mp hv with rfl | h1
    · trivial
    · exact okA v h1
  have hMet := kc l G okB C.2.2.2.2.2.2.2
  obtain ⟨hcode, hini, hdd2, hml, hl⟩ := h1
  have he : (x_cw G h)[a]? = some (x_ad G a, .inr (ci, (List.range (x_sn a)).map (x_fv (x_ad G) h.2.1 h.2.2 a ci))) := by
    rw [x_cw_get hn, x_ce_obj hs]
  have hrec : ∃ cellB : Cell, H[x_ad G a]? = some cellB ∧ cellB.vm.isStatics = false ∧ s.vm.findClass Y'.1.cls = some cellB.cls := by
    rw [← h5]
    exact va_recv C.2.2.1 C.2.2.2.2.2.2.1.2.2 h4 he
  have hWr : 2 * (F0 m pc ls ((As.map (x_tr (x_ad G))).reverse ++ .ref (x_ad G a) :: rest)).monitorRoom + (rest.map fun v => v.category).sum ≤ 8 := lv_room hW
  refine x_contR (a := (Value.ref (x_ad G a) :: As.map (x_tr (x_ad G))).toArray) ?_ C.2.2.2.2.2.1 (fun h' r H' locs' hq hok hokr hhI hS' => k h' r H' locs' hq hokr ⟨trivial, C.2.1, C.2.2.1, C.2.2.2.1, C.2.2.2.2.1, hS', hhI, hok⟩)
  have hp : PreV s H Y'.1.cls (x_ad G a) (va_Pc ((vR (some a) :: As).map (x_tr (x_ad G))) (fun U => x_hI G g h U.heap ∧ x_K G U ∧ x_St G U U.heap ∧ G.2.2.1 ≤ U.heap.size)) (As.map (x_tr (x_ad G))) := ⟨x_blind, hrec, x_pre (av := vR (some a) :: As) C⟩
  rcases hl with hl | ⟨host, hl⟩
  · exact va_runV (As := As.map (x_tr (x_ad G))) (b := x_ad G a) (C := Y'.1.cls) (n := np) ⟨C.2.1.1, C.2.1.2.1, C.2.1.2.2.1, C.2.1.2.2.2.2.2.2.1, hts⟩ hMet ⟨callB_of np hts (x_good hcode) rfl rfl rfl (ht _ hini) (ht _ hl) hdd2 (x_rmL hdd hml), ht _ h2, ht _ h3⟩ hp rfl (by rw [List.length_map]; exact hnp) hls rfl hWr hd hcs
  · exact va_runVN (As := As.map (x_tr (x_ad G))) (b := x_ad G a) (C := Y'.1.cls) (n := np) ⟨C.2.1.1, C.2.1.2.1, C.2.1.2.2.1, C.2.1.2.2.2.2.2.2.1, hts⟩ hMet ⟨va_cnB np hts (x_good hcode) rfl rfl rfl (C.2.2.2.1.2.2.2.2 _ hl rfl) (ht _ hini) hdd2 (x_rmL hdd hml), ht _ h2, ht _ h3⟩ hp rfl (by rw [List.length_map]; exact hnp) hls rfl hWr hd hcs
end LawW
