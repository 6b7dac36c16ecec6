/-- System.arraycopy over int arrays -/
def x_cpy (M : xM) (s t : Nat) (sp dp k : Int) : xM := fun b j => if b = t ∧ dp ≤ j ∧ j < dp + k then M s (sp + (j - dp)) else M b j
def x_AC (own : String) (idx : Nat) : Prop := Cond.methodLink own idx arraycopyName ∈ x_TBL ∧ Cond.native arraycopyName ∈ x_TBL ∧ Cond.static arraycopyName ∈ x_TBL ∧ Cond.initialized "java/lang/System" ∈ x_TBL
section Copy
variable {Y : xY} {d mc ms pc : Nat} {L : xL} {st : List xV} {cs : Nat × Nat} {n : Nat} {P : xP} {M : xM} {Q : xH → Option xV → Prop}
theorem xW.copy {s0 t0 idx : Nat} {sp dp k N0 N1 : Int} (hd : decode Y.2.1 pc = .ok (.invokestatic idx, 3)) (hl : x_AC Y.1.cls idx) (h0 : x_cell n s0 0 N0) (h1 : x_cell n t0 0 N1) (hb : (0 ≤ sp ∧ 0 ≤ dp ∧ 0 ≤ k) ∧ sp + k ≤ N0 ∧ dp + k ≤ N1) (hW : (st.map x_cat).sum ≤ 8)
    (kk : xW Y none (d + 1) mc ms (pc + 3) L st cs (n, P, x_cpy M s0 t0 sp dp k) Q) : xW Y none (d + 1) mc ms pc L (vI k :: vI dp :: vR (some t0) :: vI sp :: vR (some s0) :: st) cs (n, P, M) Q := by
  intro l G p e s m args below meth c H locs ls C S
  obtain ⟨s1, r1⟩ := List.forall_mem_cons.mp S.2.2
  obtain ⟨s2, r2⟩ := List.forall_mem_cons.mp r1
  obtain ⟨-, r3⟩ := List.forall_mem_cons.mp r2
  obtain ⟨s4, r4⟩ := List.forall_mem_cons.mp r3
  obtain ⟨-, r5⟩ := List.forall_mem_cons.mp r4
  have s1' : inR k := s1
  have s2' : inR dp := s2
  have s4' : inR sp := s4
  obtain ⟨hsz, h1000, hP⟩ := C.2.2.2.2.2.2.1
  have hts := C.2.1.2.2.2.2.2.2.2
  have ht : ∀ w ∈ x_TBL, w.before args s = true := fun w hw => hts w (List.mem_cons_of_mem _ hw)
  have hD : va_D (x_A G) (x_cw G (n, P, M)) := x_D h1000
  have e0 := x_cw_get (G := G) (h := (n, P, M)) h0.2.2
  have e1 := x_cw_get (G := G) (h := (n, P, M)) h1.2.2
  rw [x_ce0 h0.1] at e0
  rw [x_ce0 h1.1] at e1
  have z0 : ∀ {x : Int}, inR x → 0 ≤ x → ¬ Int32.ofInt x < 0 := fun hx h q => by
    have := (x_lt hx x_0).mp q
    omega
  refine va_copyi C.2.1.1 C.2.1.2.1 (by rw [C.2.1.2.2.1]; exact S.1.1.symm) C.2.1.2.2.2.2.2.2.1 (ht _ hl.1) (ht _ hl.2.1) (ht _ hl.2.2.1) (ht _ hl.2.2.2) C.2.2.1 hP hD C.2.2.2.2.2.1 s0 t0 0 0 e0 e1 rfl rfl rfl (z0 s4' hb.1.1) (z0 s2' hb.1.2.1) (z0 s1' hb.1.2.2) ?_ ?_ (fun i _ => rfl) (Nat.le_add_left 1 d) ?_ hd (fun H1 locs1 hP1 hD1 hS1 => ?_)
  · rw [x_clamp s4', x_clamp s1']
    have := h0.2.1
    omega
  · rw [x_clamp s2', x_clamp s1']
    have := h1.2.1
    omega
  · rw [x_cat_sum]
    have hw : nativeFrameWords "java/lang/System" "arraycopy" 5 + 11 ≤ 56 := by decide +kernel
    show _ ≤ 64 * (d + 1)
    omega
  · refine kk l G p e s m args below meth c H1 locs1 ls ⟨trivial, C.2.1, C.2.2.1, C.2.2.2.1, C.2.2.2.2.1, hS1, ⟨(fun g0 hg => nomatch hg), h1000, ?_⟩, ?_⟩ ⟨S.1, S.2.1, r5⟩
    · rw [← x_cw_set (a := t0) (P := P) (M := M) (e := .inl (G.2.1 0, x_sn t0, .inl (va_cpy (fun j : Nat => Int32.ofInt (M s0 j)) (fun j : Nat => Int32.ofInt (M t0 j)) (Int32.ofInt sp).toNatClampNeg (Int32.ofInt dp).toNatClampNeg (Int32.ofInt k).toNatClampNeg))) ?_ ?_]
      · exact hP1
      · rw [x_ce0 h1.1]
        congr 3
        congr 1
        funext j
        unfold x_cpy va_cpy
        rw [x_clamp s4', x_clamp s2', x_clamp s1']
        by_cases hj : dp.toNat ≤ j ∧ j < dp.toNat + k.toNat
        · rw [if_pos hj, if_pos ⟨rfl, by omega, by omega⟩]
          congr 2
          omega
        · rw [if_neg hj, if_neg (fun q => hj ⟨by omega, by omega⟩)]
      · intro b hb2
        exact x_ce_ne (fun _ => rfl) (fun j => if_neg (fun q => hb2 q.1))
    · refine ⟨fun b j => ?_, ?_⟩
      rotate_left
      · show x_cpy M s0 t0 sp dp k 15 2 < 82
        unfold x_cpy
        rw [if_neg (fun w => absurd h1.1 (by rw [← w.1]; decide))]
        exact C.2.2.2.2.2.2.2.2
      show if x_lng b j = true then inL (x_cpy M s0 t0 sp dp k b j) else inR (x_cpy M s0 t0 sp dp k b j)
      unfold x_cpy
      by_cases hj : b = t0 ∧ dp ≤ j ∧ j < dp + k
      · rw [if_pos hj, hj.1, x_lng0 (Or.inl h1.1)]
        have h9 := C.2.2.2.2.2.2.2.1 s0 (sp + (j - dp))
        rw [x_lng0 (Or.inl h0.1)] at h9
        exact h9
      · rw [if_neg hj]
        exact C.2.2.2.2.2.2.2.1 b j
end Copy
theorem pn_X0_init : plainFor Y_X0_init.1 = true := by decide +kernel
theorem pn_X0_copyFrom : plainFor Y_X0_copyFrom.1 = true := by decide +kernel
theorem pn_X0_keepStep : plainFor Y_X0_keepStep.1 = true := by decide +kernel
theorem pn_X0_takeBack : plainFor Y_X0_takeBack.1 = true := by decide +kernel
theorem pn_X0_hoursLeft : plainFor Y_X0_hoursLeft.1 = true := by decide +kernel
theorem pn_X0_isWaiting : plainFor Y_X0_isWaiting.1 = true := by decide +kernel
theorem pn_X0_canBring : plainFor Y_X0_canBring.1 = true := by decide +kernel
theorem pn_X0_bring : plainFor Y_X0_bring.1 = true := by decide +kernel
theorem pn_X0_canPutOff : plainFor Y_X0_canPutOff.1 = true := by decide +kernel
theorem pn_X0_putOff : plainFor Y_X0_putOff.1 = true := by decide +kernel
theorem pn_X0_canReopen : plainFor Y_X0_canReopen.1 = true := by decide +kernel
theorem pn_X0_reopen : plainFor Y_X0_reopen.1 = true := by decide +kernel
theorem pn_X0_release : plainFor Y_X0_release.1 = true := by decide +kernel
theorem pn_X0_drawX : plainFor Y_X0_drawX.1 = true := by decide +kernel
theorem pn_X0_passHour : plainFor Y_X0_passHour.1 = true := by decide +kernel
theorem pn_X0_close : plainFor Y_X0_close.1 = true := by decide +kernel
theorem pn_X0_passDrawn : plainFor Y_X0_passDrawn.1 = true := by decide +kernel
theorem pn_X1_init : plainFor Y_X1_init.1 = true := by decide +kernel
theorem pn_X1_look : plainFor Y_X1_look.1 = true := by decide +kernel
theorem pn_X1_isCalm : plainFor Y_X1_isCalm.1 = true := by decide +kernel
theorem pn_X1_longestCalm : plainFor Y_X1_longestCalm.1 = true := by decide +kernel
theorem pn_X1_hoursOf : plainFor Y_X1_hoursOf.1 = true := by decide +kernel
theorem pn_X1_endOf : plainFor Y_X1_endOf.1 = true := by decide +kernel
theorem pn_X1_soonest : plainFor Y_X1_soonest.1 = true := by decide +kernel
theorem pn_X1_gravest : plainFor Y_X1_gravest.1 = true := by decide +kernel
theorem pn_X1_guiltyWays : plainFor Y_X1_guiltyWays.1 = true := by decide +kernel
theorem pn_X1_waysFrom : plainFor Y_X1_waysFrom.1 = true := by decide +kernel
theorem pn_X1_duel : plainFor Y_X1_duel.1 = true := by decide +kernel
theorem pn_X1_arrangeAll : plainFor Y_X1_arrangeAll.1 = true := by decide +kernel
theorem pn_X1_arrange : plainFor Y_X1_arrange.1 = true := by decide +kernel
theorem pn_X2_init : plainFor Y_X2_init.1 = true := by decide +kernel
theorem pn_X2_seeWind : plainFor Y_X2_seeWind.1 = true := by decide +kernel
theorem pn_X2_seeCase : plainFor Y_X2_seeCase.1 = true := by decide +kernel
theorem pn_X2_isGuiltyBy : plainFor Y_X2_isGuiltyBy.1 = true := by decide +kernel
theorem pn_X2_judged : plainFor Y_X2_judged.1 = true := by decide +kernel
theorem pn_X2_turn : plainFor Y_X2_turn.1 = true := by decide +kernel
theorem pn_X2_veered : plainFor Y_X2_veered.1 = true := by decide +kernel
theorem pn_X2_blown : plainFor Y_X2_blown.1 = true := by decide +kernel
theorem pn_X2_isFoggy : plainFor Y_X2_isFoggy.1 = true := by decide +kernel
theorem pn_X2_worth : plainFor Y_X2_worth.1 = true := by decide +kernel
theorem pn_X2_wants : plainFor Y_X2_wants.1 = true := by decide +kernel
theorem pn_X2_mostAreSo : plainFor Y_X2_mostAreSo.1 = true := by decide +kernel
theorem pn_X2_joined : plainFor Y_X2_joined.1 = true := by decide +kernel
theorem pn_X4_init : plainFor Y_X4_init.1 = true := by decide +kernel
theorem pn_X4_readAll : plainFor Y_X4_readAll.1 = true := by decide +kernel
theorem pn_X4_advance : plainFor Y_X4_advance.1 = true := by decide +kernel
theorem pn_X4_refuse : plainFor Y_X4_refuse.1 = true := by decide +kernel
theorem pn_X4_take : plainFor Y_X4_take.1 = true := by decide +kernel
theorem pn_X4_valueHere : plainFor Y_X4_valueHere.1 = true := by decide +kernel
theorem pn_X4_takeNumber : plainFor Y_X4_takeNumber.1 = true := by decide +kernel
theorem pn_X4_takeTold : plainFor Y_X4_takeTold.1 = true := by decide +kernel
theorem pn_X4_readClause : plainFor Y_X4_readClause.1 = true := by decide +kernel
theorem pn_X4_lawOf : plainFor Y_X4_lawOf.1 = true := by decide +kernel
theorem pn_X4_readDeed : plainFor Y_X4_readDeed.1 = true := by decide +kernel
theorem pn_X4_readLaw : plainFor Y_X4_readLaw.1 = true := by decide +kernel
theorem pn_X4_readCodeHead : plainFor Y_X4_readCodeHead.1 = true := by decide +kernel
theorem pn_X4_readEither : plainFor Y_X4_readEither.1 = true := by decide +kernel
theorem pn_X4_readBoth : plainFor Y_X4_readBoth.1 = true := by decide +kernel
theorem pn_X4_readAsk : plainFor Y_X4_readAsk.1 = true := by decide +kernel
theorem pn_X4_compares : plainFor Y_X4_compares.1 = true := by decide +kernel
theorem pn_X4_readFact : plainFor Y_X4_readFact.1 = true := by decide +kernel
theorem pn_X4_open : plainFor Y_X4_open.1 = true := by decide +kernel
theorem pn_X4_readNot : plainFor Y_X4_readNot.1 = true := by decide +kernel
theorem pn_X4_readMost : plainFor Y_X4_readMost.1 = true := by decide +kernel
theorem pn_X4_readSum : plainFor Y_X4_readSum.1 = true := by decide +kernel
theorem pn_X4_readProduct : plainFor Y_X4_readProduct.1 = true := by decide +kernel
theorem pn_X4_readOne : plainFor Y_X4_readOne.1 = true := by decide +kernel
theorem pn_X4_readName : plainFor Y_X4_readName.1 = true := by decide +kernel
theorem pn_X4_isOfLaw : plainFor Y_X4_isOfLaw.1 = true := by decide +kernel
theorem pn_X5_init : plainFor Y_X5_init.1 = true := by decide +kernel
theorem pn_X5_isFull : plainFor Y_X5_isFull.1 = true := by decide +kernel
theorem pn_X5_has : plainFor Y_X5_has.1 = true := by decide +kernel
theorem pn_X5_at : plainFor Y_X5_at.1 = true := by decide +kernel
theorem pn_X5_add : plainFor Y_X5_add.1 = true := by decide +kernel
theorem pn_X5_sum : plainFor Y_X5_sum.1 = true := by decide +kernel
theorem pn_X5_empty : plainFor Y_X5_empty.1 = true := by decide +kernel
theorem pn_X5_copyFrom : plainFor Y_X5_copyFrom.1 = true := by decide +kernel
theorem pn_X6_init : plainFor Y_X6_init.1 = true := by decide +kernel
theorem pn_X6_hasRoom : plainFor Y_X6_hasRoom.1 = true := by decide +kernel
theorem pn_X6_put : plainFor Y_X6_put.1 = true := by decide +kernel
theorem pn_X6_scan : plainFor Y_X6_scan.1 = true := by decide +kernel
theorem pn_X6_addToken : plainFor Y_X6_addToken.1 = true := by decide +kernel
theorem pn_X6_isLetter : plainFor Y_X6_isLetter.1 = true := by decide +kernel
theorem pn_X6_isDigit : plainFor Y_X6_isDigit.1 = true := by decide +kernel
theorem pn_X6_scanNumber : plainFor Y_X6_scanNumber.1 = true := by decide +kernel
theorem pn_X6_scanWord : plainFor Y_X6_scanWord.1 = true := by decide +kernel
theorem pn_X6_wordAt : plainFor Y_X6_wordAt.1 = true := by decide +kernel
theorem pn_X6_scanSign : plainFor Y_X6_scanSign.1 = true := by decide +kernel
theorem pn_X6_isSign : plainFor Y_X6_isSign.1 = true := by decide +kernel
theorem pn_X7_init : plainFor Y_X7_init.1 = true := by decide +kernel
theorem pn_X7_clear : plainFor Y_X7_clear.1 = true := by decide +kernel
theorem pn_X7_has : plainFor Y_X7_has.1 = true := by decide +kernel
theorem pn_X7_setLaw : plainFor Y_X7_setLaw.1 = true := by decide +kernel
theorem pn_X7_emit : plainFor Y_X7_emit.1 = true := by decide +kernel
theorem pn_X7_emitFact : plainFor Y_X7_emitFact.1 = true := by decide +kernel
theorem pn_X7_startClause : plainFor Y_X7_startClause.1 = true := by decide +kernel
theorem pn_X7_tellOfClause : plainFor Y_X7_tellOfClause.1 = true := by decide +kernel
theorem pn_X7_clauseAt : plainFor Y_X7_clauseAt.1 = true := by decide +kernel
theorem pn_X9_init : plainFor Y_X9_init.1 = true := by decide +kernel
theorem pn_X9_newCase : plainFor Y_X9_newCase.1 = true := by decide +kernel
theorem pn_X9_feed : plainFor Y_X9_feed.1 = true := by decide +kernel
theorem pn_X9_end : plainFor Y_X9_end.1 = true := by decide +kernel
theorem pn_X9_text : plainFor Y_X9_text.1 = true := by decide +kernel
theorem pn_X9_fault : plainFor Y_X9_fault.1 = true := by decide +kernel
theorem pn_X9_by : plainFor Y_X9_by.1 = true := by decide +kernel
theorem pn_X9_call : plainFor Y_X9_call.1 = true := by decide +kernel
theorem pn_X9_delay : plainFor Y_X9_delay.1 = true := by decide +kernel
theorem pn_X9_appeal : plainFor Y_X9_appeal.1 = true := by decide +kernel
theorem pn_X9_gust : plainFor Y_X9_gust.1 = true := by decide +kernel
theorem pn_X9_withdraw : plainFor Y_X9_withdraw.1 = true := by decide +kernel
theorem pn_X9_hour : plainFor Y_X9_hour.1 = true := by decide +kernel
theorem pn_X9_played : plainFor Y_X9_played.1 = true := by decide +kernel
theorem pn_X9_decades : plainFor Y_X9_decades.1 = true := by decide +kernel
theorem pn_X9_undo : plainFor Y_X9_undo.1 = true := by decide +kernel
theorem pn_X9_ofCase : plainFor Y_X9_ofCase.1 = true := by decide +kernel
theorem pn_X9_is : plainFor Y_X9_is.1 = true := by decide +kernel
theorem pn_X9_book : plainFor Y_X9_book.1 = true := by decide +kernel
theorem pn_X9_foretold : plainFor Y_X9_foretold.1 = true := by decide +kernel
theorem pn_X9_ends : plainFor Y_X9_ends.1 = true := by decide +kernel
theorem pn_X9_best : plainFor Y_X9_best.1 = true := by decide +kernel
theorem pn_X9_harshest : plainFor Y_X9_harshest.1 = true := by decide +kernel
theorem pn_X9_odds : plainFor Y_X9_odds.1 = true := by decide +kernel
theorem pn_X9_clash : plainFor Y_X9_clash.1 = true := by decide +kernel
theorem pn_X9_leastFacts : plainFor Y_X9_leastFacts.1 = true := by decide +kernel
theorem pn_X9_game : plainFor Y_X9_game.1 = true := by decide +kernel
theorem pn_X9_session : plainFor Y_X9_session.1 = true := by decide +kernel
theorem pn_X9_record : plainFor Y_X9_record.1 = true := by decide +kernel
theorem pn_X9_turned : plainFor Y_X9_turned.1 = true := by decide +kernel
theorem pn_X9_fewestWrong : plainFor Y_X9_fewestWrong.1 = true := by decide +kernel
theorem pn_X9_whose : plainFor Y_X9_whose.1 = true := by decide +kernel
theorem pn_X9_learn : plainFor Y_X9_learn.1 = true := by decide +kernel
theorem pn_X9_codes : plainFor Y_X9_codes.1 = true := by decide +kernel
theorem pn_X9_sure : plainFor Y_X9_sure.1 = true := by decide +kernel
theorem pn_X9_toBring : plainFor Y_X9_toBring.1 = true := by decide +kernel
theorem pn_X9_counsel : plainFor Y_X9_counsel.1 = true := by decide +kernel
theorem pn_X9_hired : plainFor Y_X9_hired.1 = true := by decide +kernel
theorem pn_X9_calm : plainFor Y_X9_calm.1 = true := by decide +kernel
theorem pn_X9_standing : plainFor Y_X9_standing.1 = true := by decide +kernel
theorem pn_X9_image : plainFor Y_X9_image.1 = true := by decide +kernel
theorem pn_X9_back : plainFor Y_X9_back.1 = true := by decide +kernel
theorem pn_X9_about : plainFor Y_X9_about.1 = true := by decide +kernel
theorem pn_X9_nextX : plainFor Y_X9_nextX.1 = true := by decide +kernel
theorem pn_X9_within : plainFor Y_X9_within.1 = true := by decide +kernel
theorem pn_X9_isText : plainFor Y_X9_isText.1 = true := by decide +kernel
theorem pn_X9_ruling : plainFor Y_X9_ruling.1 = true := by decide +kernel
theorem pn_X9_passHours : plainFor Y_X9_passHours.1 = true := by decide +kernel
theorem pn_X9_isDone : plainFor Y_X9_isDone.1 = true := by decide +kernel
theorem pn_X9_lookAtCalls : plainFor Y_X9_lookAtCalls.1 = true := by decide +kernel
theorem pn_X9_commonDivisor : plainFor Y_X9_commonDivisor.1 = true := by decide +kernel
theorem pn_X9_guiltyCodes : plainFor Y_X9_guiltyCodes.1 = true := by decide +kernel
theorem pn_X9_allAlike : plainFor Y_X9_allAlike.1 = true := by decide +kernel
theorem pn_X9_wrongRecords : plainFor Y_X9_wrongRecords.1 = true := by decide +kernel
theorem pn_X9_gatherCodes : plainFor Y_X9_gatherCodes.1 = true := by decide +kernel
theorem pn_X9_fitsLearned : plainFor Y_X9_fitsLearned.1 = true := by decide +kernel
theorem pn_X9_guiltyByGathered : plainFor Y_X9_guiltyByGathered.1 = true := by decide +kernel
theorem pn_X10_init : plainFor Y_X10_init.1 = true := by decide +kernel
theorem pn_X10_copy : plainFor Y_X10_copy.1 = true := by decide +kernel
theorem pn_X10_isIn : plainFor Y_X10_isIn.1 = true := by decide +kernel
theorem pn_X10_cut : plainFor Y_X10_cut.1 = true := by decide +kernel
theorem pn_X10_has : plainFor Y_X10_has.1 = true := by decide +kernel
theorem pn_X10_bits : plainFor Y_X10_bits.1 = true := by decide +kernel
theorem pn_X10_isCase : plainFor Y_X10_isCase.1 = true := by decide +kernel
theorem pn_X10_get : plainFor Y_X10_get.1 = true := by decide +kernel
theorem pn_X10_put : plainFor Y_X10_put.1 = true := by decide +kernel
theorem pn_X10_isWaiting : plainFor Y_X10_isWaiting.1 = true := by decide +kernel
theorem pn_X10_newCase : plainFor Y_X10_newCase.1 = true := by decide +kernel
theorem pn_X10_four : plainFor Y_X10_four.1 = true := by decide +kernel
theorem pn_X10_feed : plainFor Y_X10_feed.1 = true := by decide +kernel
theorem pn_X10_end : plainFor Y_X10_end.1 = true := by decide +kernel
theorem pn_X10_byteAt : plainFor Y_X10_byteAt.1 = true := by decide +kernel
theorem pn_X10_isLetterByte : plainFor Y_X10_isLetterByte.1 = true := by decide +kernel
theorem pn_X10_isFigure : plainFor Y_X10_isFigure.1 = true := by decide +kernel
theorem pn_X10_isSign : plainFor Y_X10_isSign.1 = true := by decide +kernel
theorem pn_X10_nextToken : plainFor Y_X10_nextToken.1 = true := by decide +kernel
theorem pn_X10_w2 : plainFor Y_X10_w2.1 = true := by decide +kernel
theorem pn_X10_w3 : plainFor Y_X10_w3.1 = true := by decide +kernel
theorem pn_X10_w4 : plainFor Y_X10_w4.1 = true := by decide +kernel
theorem pn_X10_w5 : plainFor Y_X10_w5.1 = true := by decide +kernel
theorem pn_X10_w6 : plainFor Y_X10_w6.1 = true := by decide +kernel
theorem pn_X10_isWord : plainFor Y_X10_isWord.1 = true := by decide +kernel
theorem pn_X10_emit : plainFor Y_X10_emit.1 = true := by decide +kernel
theorem pn_X10_isLong : plainFor Y_X10_isLong.1 = true := by decide +kernel
theorem pn_X10_isGravity : plainFor Y_X10_isGravity.1 = true := by decide +kernel
theorem pn_X10_isQuarter : plainFor Y_X10_isQuarter.1 = true := by decide +kernel
theorem pn_X10_isSentence : plainFor Y_X10_isSentence.1 = true := by decide +kernel
theorem pn_X10_isWithdraw : plainFor Y_X10_isWithdraw.1 = true := by decide +kernel
theorem pn_X10_nameOf : plainFor Y_X10_nameOf.1 = true := by decide +kernel
theorem pn_X10_isOf : plainFor Y_X10_isOf.1 = true := by decide +kernel
theorem pn_X10_rank : plainFor Y_X10_rank.1 = true := by decide +kernel
theorem pn_X10_settle : plainFor Y_X10_settle.1 = true := by decide +kernel
theorem pn_X10_openNow : plainFor Y_X10_openNow.1 = true := by decide +kernel
theorem pn_X10_isCompared : plainFor Y_X10_isCompared.1 = true := by decide +kernel
theorem pn_X10_isAskHere : plainFor Y_X10_isAskHere.1 = true := by decide +kernel
theorem pn_X10_isAskAhead : plainFor Y_X10_isAskAhead.1 = true := by decide +kernel
theorem pn_X10_opened : plainFor Y_X10_opened.1 = true := by decide +kernel
theorem pn_X10_factAt : plainFor Y_X10_factAt.1 = true := by decide +kernel
theorem pn_X10_beginOne : plainFor Y_X10_beginOne.1 = true := by decide +kernel
theorem pn_X10_compareOf : plainFor Y_X10_compareOf.1 = true := by decide +kernel
theorem pn_X10_betweenOf : plainFor Y_X10_betweenOf.1 = true := by decide +kernel
theorem pn_X10_nextOfMost : plainFor Y_X10_nextOfMost.1 = true := by decide +kernel
theorem pn_X10_shut : plainFor Y_X10_shut.1 = true := by decide +kernel
theorem pn_X10_behindOne : plainFor Y_X10_behindOne.1 = true := by decide +kernel
theorem pn_X10_parsed : plainFor Y_X10_parsed.1 = true := by decide +kernel
theorem pn_X10_figure : plainFor Y_X10_figure.1 = true := by decide +kernel
theorem pn_X10_lawClause : plainFor Y_X10_lawClause.1 = true := by decide +kernel
theorem pn_X10_codeClause : plainFor Y_X10_codeClause.1 = true := by decide +kernel
theorem pn_X10_caseClause : plainFor Y_X10_caseClause.1 = true := by decide +kernel
theorem pn_X10_gustClause : plainFor Y_X10_gustClause.1 = true := by decide +kernel
theorem pn_X10_body : plainFor Y_X10_body.1 = true := by decide +kernel
theorem pn_X10_sortOf : plainFor Y_X10_sortOf.1 = true := by decide +kernel
theorem pn_X10_clause : plainFor Y_X10_clause.1 = true := by decide +kernel
theorem pn_X10_readText : plainFor Y_X10_readText.1 = true := by decide +kernel
theorem pn_X10_text : plainFor Y_X10_text.1 = true := by decide +kernel
theorem pn_X10_fault : plainFor Y_X10_fault.1 = true := by decide +kernel
theorem pn_X10_by : plainFor Y_X10_by.1 = true := by decide +kernel
theorem pn_X10_clip : plainFor Y_X10_clip.1 = true := by decide +kernel
theorem pn_X10_two : plainFor Y_X10_two.1 = true := by decide +kernel
theorem pn_X10_isAsked : plainFor Y_X10_isAsked.1 = true := by decide +kernel
theorem pn_X10_areMost : plainFor Y_X10_areMost.1 = true := by decide +kernel
theorem pn_X10_joined : plainFor Y_X10_joined.1 = true := by decide +kernel
theorem pn_X10_work : plainFor Y_X10_work.1 = true := by decide +kernel
theorem pn_X10_clauseOf : plainFor Y_X10_clauseOf.1 = true := by decide +kernel
theorem pn_X10_says : plainFor Y_X10_says.1 = true := by decide +kernel
theorem pn_X10_name : plainFor Y_X10_name.1 = true := by decide +kernel
theorem pn_X10_nameCase : plainFor Y_X10_nameCase.1 = true := by decide +kernel
theorem pn_X10_isGuilty : plainFor Y_X10_isGuilty.1 = true := by decide +kernel
theorem pn_X10_sentenceOf : plainFor Y_X10_sentenceOf.1 = true := by decide +kernel
theorem pn_X10_drawn : plainFor Y_X10_drawn.1 = true := by decide +kernel
theorem pn_X10_anew : plainFor Y_X10_anew.1 = true := by decide +kernel
theorem pn_X10_turnBy : plainFor Y_X10_turnBy.1 = true := by decide +kernel
theorem pn_X10_isCalm : plainFor Y_X10_isCalm.1 = true := by decide +kernel
theorem pn_X10_isFound : plainFor Y_X10_isFound.1 = true := by decide +kernel
theorem pn_X10_leave : plainFor Y_X10_leave.1 = true := by decide +kernel
theorem pn_X10_hear : plainFor Y_X10_hear.1 = true := by decide +kernel
theorem pn_X10_pass : plainFor Y_X10_pass.1 = true := by decide +kernel
theorem pn_X10_keep : plainFor Y_X10_keep.1 = true := by decide +kernel
theorem pn_X10_undo : plainFor Y_X10_undo.1 = true := by decide +kernel
theorem pn_X10_canCall : plainFor Y_X10_canCall.1 = true := by decide +kernel
theorem pn_X10_callNow : plainFor Y_X10_callNow.1 = true := by decide +kernel
theorem pn_X10_call : plainFor Y_X10_call.1 = true := by decide +kernel
theorem pn_X10_canDelay : plainFor Y_X10_canDelay.1 = true := by decide +kernel
theorem pn_X10_delay : plainFor Y_X10_delay.1 = true := by decide +kernel
theorem pn_X10_canAppeal : plainFor Y_X10_canAppeal.1 = true := by decide +kernel
theorem pn_X10_appealNow : plainFor Y_X10_appealNow.1 = true := by decide +kernel
theorem pn_X10_appeal : plainFor Y_X10_appeal.1 = true := by decide +kernel
theorem pn_X10_gust : plainFor Y_X10_gust.1 = true := by decide +kernel
theorem pn_X10_withdraw : plainFor Y_X10_withdraw.1 = true := by decide +kernel
theorem pn_X10_arePassed : plainFor Y_X10_arePassed.1 = true := by decide +kernel
theorem pn_X10_hour : plainFor Y_X10_hour.1 = true := by decide +kernel
theorem pn_X10_isPlayed : plainFor Y_X10_isPlayed.1 = true := by decide +kernel
theorem pn_X10_played : plainFor Y_X10_played.1 = true := by decide +kernel
theorem pn_X10_happens : plainFor Y_X10_happens.1 = true := by decide +kernel
theorem pn_X10_decades : plainFor Y_X10_decades.1 = true := by decide +kernel
theorem pn_X10_ofCase : plainFor Y_X10_ofCase.1 = true := by decide +kernel
theorem pn_X10_is : plainFor Y_X10_is.1 = true := by decide +kernel
theorem pn_X10_shown : plainFor Y_X10_shown.1 = true := by decide +kernel
theorem pn_X10_book : plainFor Y_X10_book.1 = true := by decide +kernel
theorem pn_X10_begin : plainFor Y_X10_begin.1 = true := by decide +kernel
theorem pn_X10_putBack : plainFor Y_X10_putBack.1 = true := by decide +kernel
theorem pn_X10_layWinds : plainFor Y_X10_layWinds.1 = true := by decide +kernel
theorem pn_X10_foretold : plainFor Y_X10_foretold.1 = true := by decide +kernel
theorem pn_X10_isEnding : plainFor Y_X10_isEnding.1 = true := by decide +kernel
theorem pn_X10_ends : plainFor Y_X10_ends.1 = true := by decide +kernel
theorem pn_X10_best : plainFor Y_X10_best.1 = true := by decide +kernel
theorem pn_X10_harshest : plainFor Y_X10_harshest.1 = true := by decide +kernel
theorem pn_X10_common : plainFor Y_X10_common.1 = true := by decide +kernel
theorem pn_X10_isGuiltyBy : plainFor Y_X10_isGuiltyBy.1 = true := by decide +kernel
theorem pn_X10_odds : plainFor Y_X10_odds.1 = true := by decide +kernel
theorem pn_X10_clashOf : plainFor Y_X10_clashOf.1 = true := by decide +kernel
theorem pn_X10_clash : plainFor Y_X10_clash.1 = true := by decide +kernel
theorem pn_X10_leastFacts : plainFor Y_X10_leastFacts.1 = true := by decide +kernel
theorem pn_X10_game : plainFor Y_X10_game.1 = true := by decide +kernel
theorem pn_X10_nextRow : plainFor Y_X10_nextRow.1 = true := by decide +kernel
theorem pn_X10_sentencesBy : plainFor Y_X10_sentencesBy.1 = true := by decide +kernel
theorem pn_X10_session : plainFor Y_X10_session.1 = true := by decide +kernel
theorem pn_X10_record : plainFor Y_X10_record.1 = true := by decide +kernel
theorem pn_X10_wrongBy : plainFor Y_X10_wrongBy.1 = true := by decide +kernel
theorem pn_X10_turned : plainFor Y_X10_turned.1 = true := by decide +kernel
theorem pn_X10_fewestWrong : plainFor Y_X10_fewestWrong.1 = true := by decide +kernel
theorem pn_X10_whose : plainFor Y_X10_whose.1 = true := by decide +kernel
theorem pn_X10_learn : plainFor Y_X10_learn.1 = true := by decide +kernel
theorem pn_X10_isBy : plainFor Y_X10_isBy.1 = true := by decide +kernel
theorem pn_X10_isCode : plainFor Y_X10_isCode.1 = true := by decide +kernel
theorem pn_X10_codesBy : plainFor Y_X10_codesBy.1 = true := by decide +kernel
theorem pn_X10_codes : plainFor Y_X10_codes.1 = true := by decide +kernel
theorem pn_X10_sure : plainFor Y_X10_sure.1 = true := by decide +kernel
theorem pn_X10_toBring : plainFor Y_X10_toBring.1 = true := by decide +kernel
theorem pn_X10_counsel : plainFor Y_X10_counsel.1 = true := by decide +kernel
theorem pn_X10_together : plainFor Y_X10_together.1 = true := by decide +kernel
theorem pn_X10_hired : plainFor Y_X10_hired.1 = true := by decide +kernel
theorem pn_X10_calm : plainFor Y_X10_calm.1 = true := by decide +kernel
theorem pn_X10_standing : plainFor Y_X10_standing.1 = true := by decide +kernel
theorem pn_X10_image : plainFor Y_X10_image.1 = true := by decide +kernel
theorem pn_X10_back : plainFor Y_X10_back.1 = true := by decide +kernel
theorem pn_X10_about : plainFor Y_X10_about.1 = true := by decide +kernel
theorem pn_J6_bitCount_0f7a4 : plainFor Y_J6_bitCount_0f7a4.1 = true := by decide +kernel
theorem pn_J9_floorMod_7cf53 : plainFor Y_J9_floorMod_7cf53.1 = true := by decide +kernel
theorem pn_J9_abs_0f7a4 : plainFor Y_J9_abs_0f7a4.1 = true := by decide +kernel
theorem pn_J9_max_7cf53 : plainFor Y_J9_max_7cf53.1 = true := by decide +kernel
theorem pn_J9_min_7cf53 : plainFor Y_J9_min_7cf53.1 = true := by decide +kernel
theorem pn_J0_length_8abf5 : plainFor Y_J0_length_8abf5.1 = true := by decide +kernel
theorem pn_J0_charAt_5068e : plainFor Y_J0_charAt_5068e.1 = true := by decide +kernel
theorem pn_J0_coder_7d493 : plainFor Y_J0_coder_7d493.1 = true := by decide +kernel
theorem pn_J0_isLatin1_aae02 : plainFor Y_J0_isLatin1_aae02.1 = true := by decide +kernel
theorem pn_J0_checkIndex_df160 : plainFor Y_J0_checkIndex_df160.1 = true := by decide +kernel
theorem pn_J1_charAt_3b067 : plainFor Y_J1_charAt_3b067.1 = true := by decide +kernel
theorem pn_J2_getChar_3b067 : plainFor Y_J2_getChar_3b067.1 = true := by decide +kernel
theorem pn_J2_length_9d52b : plainFor Y_J2_length_9d52b.1 = true := by decide +kernel
theorem pn_J2_charAt_3b067 : plainFor Y_J2_charAt_3b067.1 = true := by decide +kernel
theorem pn_J2_checkIndex_2214a : plainFor Y_J2_checkIndex_2214a.1 = true := by decide +kernel
theorem pn_J3_checkIndex_8e157 : plainFor Y_J3_checkIndex_8e157.1 = true := by decide +kernel
theorem ac_X0 : x_AC RX0 38 := ⟨x_TBL_in (List.mem_append_right _ (mt_3 (List.mem_of_getElem? (i := 84) rfl))) rfl, x_TBL_in (List.mem_append_right _ (mt_3 (List.mem_of_getElem? (i := 86) rfl))) rfl, x_TBL_in (List.mem_append_right _ (mt_3 (List.mem_of_getElem? (i := 85) rfl))) rfl, x_TBL_in (List.mem_append_right _ (mt_1 (List.mem_of_getElem? (i := 15) rfl))) rfl⟩
theorem ac_X1 : x_AC RX1 66 := ⟨x_TBL_in (List.mem_append_right _ (mt_4 (List.mem_of_getElem? (i := 57) rfl))) rfl, x_TBL_in (List.mem_append_right _ (mt_3 (List.mem_of_getElem? (i := 86) rfl))) rfl, x_TBL_in (List.mem_append_right _ (mt_3 (List.mem_of_getElem? (i := 85) rfl))) rfl, x_TBL_in (List.mem_append_right _ (mt_1 (List.mem_of_getElem? (i := 15) rfl))) rfl⟩
theorem ac_X5 : x_AC RX5 27 := ⟨x_TBL_in (List.mem_append_right _ (mt_5 (List.mem_of_getElem? (i := 14) rfl))) rfl, x_TBL_in (List.mem_append_right _ (mt_3 (List.mem_of_getElem? (i := 86) rfl))) rfl, x_TBL_in (List.mem_append_right _ (mt_3 (List.mem_of_getElem? (i := 85) rfl))) rfl, x_TBL_in (List.mem_append_right _ (mt_1 (List.mem_of_getElem? (i := 15) rfl))) rfl⟩
