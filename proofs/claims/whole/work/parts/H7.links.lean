/-! words for what makes cells -/
theorem nk_L_7 : x_NK RL 7 7 := ⟨RX9, TX9, 9, tyX9, rfl, inX9, tyX9_ok, by decide, x_TBL_in (List.mem_append_right _ (mt_1 (List.mem_of_getElem? (i := 17) rfl))) rfl, x_TBL_in (List.mem_append_right _ (mt_1 (List.mem_of_getElem? (i := 18) rfl))) rfl, mi_RX9⟩
theorem nk_X9_9 : x_NK RX9 9 0 := ⟨RX0, TX0, 10, tyX0, rfl, inX0, tyX0_ok, by decide, x_TBL_in (List.mem_append_right _ (mt_1 (List.mem_of_getElem? (i := 25) rfl))) rfl, x_TBL_in (List.mem_append_right _ (mt_1 (List.mem_of_getElem? (i := 26) rfl))) rfl, mi_RX0⟩
theorem nk_X0_18 : x_NK RX0 18 4 := ⟨RX5, TX5, 2, tyX5, rfl, inX5, tyX5_ok, by decide, x_TBL_in (List.mem_append_right _ (mt_1 (List.mem_of_getElem? (i := 31) rfl))) rfl, x_TBL_in (List.mem_append_right _ (mt_1 (List.mem_of_getElem? (i := 32) rfl))) rfl, mi_RX5⟩
theorem nk_X9_12 : x_NK RX9 12 2 := ⟨RX2, TX2, 3, tyX2, rfl, inX2, tyX2_ok, by decide, x_TBL_in (List.mem_append_right _ (mt_1 (List.mem_of_getElem? (i := 88) rfl))) rfl, x_TBL_in (List.mem_append_right _ (mt_1 (List.mem_of_getElem? (i := 89) rfl))) rfl, mi_RX2⟩
theorem nk_X9_23 : x_NK RX9 23 1 := ⟨RX1, TX1, 12, tyX1, rfl, inX1, tyX1_ok, by decide, x_TBL_in (List.mem_append_right _ (mt_1 (List.mem_of_getElem? (i := 105) rfl))) rfl, x_TBL_in (List.mem_append_right _ (mt_1 (List.mem_of_getElem? (i := 106) rfl))) rfl, mi_RX1⟩
theorem nk_X9_35 : x_NK RX9 35 5 := ⟨RX6, TX6, 6, tyX6, rfl, inX6, tyX6_ok, by decide, x_TBL_in (List.mem_append_right _ (mt_1 (List.mem_of_getElem? (i := 156) rfl))) rfl, x_TBL_in (List.mem_append_right _ (mt_1 (List.mem_of_getElem? (i := 157) rfl))) rfl, mi_RX6⟩
theorem nk_X9_42 : x_NK RX9 42 6 := ⟨RX7, TX7, 7, tyX7, rfl, inX7, tyX7_ok, by decide, x_TBL_in (List.mem_append_right _ (mt_1 (List.mem_of_getElem? (i := 187) rfl))) rfl, x_TBL_in (List.mem_append_right _ (mt_1 (List.mem_of_getElem? (i := 189) rfl))) rfl, mi_RX7⟩
theorem nk_X9_93 : x_NK RX9 93 3 := ⟨RX4, TX4, 8, tyX4, rfl, inX4, tyX4_ok, by decide, x_TBL_in (List.mem_append_right _ (mt_2 (List.mem_of_getElem? (i := 131) rfl))) rfl, x_TBL_in (List.mem_append_right _ (mt_2 (List.mem_of_getElem? (i := 132) rfl))) rfl, mi_RX4⟩
theorem nk_L_10 : x_NK RL 10 8 := ⟨RX10, TX10, 40, tyX10, rfl, inX10, tyX10_ok, by decide, x_TBL_in (List.mem_append_right _ (mt_5 (List.mem_of_getElem? (i := 23) rfl))) rfl, x_TBL_in (List.mem_append_right _ (mt_5 (List.mem_of_getElem? (i := 24) rfl))) rfl, mi_RX10⟩
theorem tl_text : Cond.classLink RX9 42 "VaneCourt$Text" ∈ x_TBL := x_TBL_in (List.mem_append_right _ (mt_1 (List.mem_of_getElem? (i := 187) rfl))) rfl
theorem tl_rows : Cond.classLink RX1 21 "[[I" ∈ x_TBL := x_TBL_in (List.mem_append_right _ (mt_1 (List.mem_of_getElem? (i := 111) rfl))) rfl
theorem ao_text : Cond.arrayOver (.object "VaneCourt$Text") ∈ tables_1 := mt_1 (List.mem_of_getElem? (i := 188) rfl)
theorem ao_rows : Cond.arrayOver (.array .int) ∈ tables_1 := mt_1 (List.mem_of_getElem? (i := 112) rfl)
theorem ac_int : Cond.arrayClass .int ∈ x_TBL := x_TBL_in (List.mem_append_right _ (mt_1 (List.mem_of_getElem? (i := 46) rfl))) rfl
theorem ac_long : Cond.arrayClass .long ∈ x_TBL := x_TBL_in (List.mem_append_right _ (mt_5 (List.mem_of_getElem? (i := 153) rfl))) rfl
theorem ac_boolean : Cond.arrayClass .boolean ∈ x_TBL := x_TBL_in (List.mem_append_right _ (mt_5 (List.mem_of_getElem? (i := 154) rfl))) rfl
theorem oi_inst : Cond.instanceMethod Lib.objectInit ∈ x_TBL := x_TBL_in (List.mem_append_right _ (mt_1 (List.mem_of_getElem? (i := 23) rfl))) rfl
theorem oi_code : Cond.code Lib.objectInit ⟨#[0xb1]⟩ 1 none ∈ x_TBL := x_TBL_in (List.mem_append_right _ (mt_1 (List.mem_of_getElem? (i := 24) rfl))) rfl
theorem ol_X9 : Cond.methodLink RX9 3 Lib.objectInit ∈ x_TBL := x_TBL_in (List.mem_append_right _ (mt_1 (List.mem_of_getElem? (i := 22) rfl))) rfl
theorem ol_X0 : Cond.methodLink RX0 3 Lib.objectInit ∈ x_TBL := x_TBL_in (List.mem_append_right _ (mt_1 (List.mem_of_getElem? (i := 30) rfl))) rfl
theorem ol_X5 : Cond.methodLink RX5 3 Lib.objectInit ∈ x_TBL := x_TBL_in (List.mem_append_right _ (mt_1 (List.mem_of_getElem? (i := 36) rfl))) rfl
theorem ol_X2 : Cond.methodLink RX2 3 Lib.objectInit ∈ x_TBL := x_TBL_in (List.mem_append_right _ (mt_1 (List.mem_of_getElem? (i := 93) rfl))) rfl
theorem ol_X1 : Cond.methodLink RX1 3 Lib.objectInit ∈ x_TBL := x_TBL_in (List.mem_append_right _ (mt_1 (List.mem_of_getElem? (i := 110) rfl))) rfl
theorem ol_X6 : Cond.methodLink RX6 1 Lib.objectInit ∈ x_TBL := x_TBL_in (List.mem_append_right _ (mt_1 (List.mem_of_getElem? (i := 161) rfl))) rfl
theorem ol_X7 : Cond.methodLink RX7 3 Lib.objectInit ∈ x_TBL := x_TBL_in (List.mem_append_right _ (mt_1 (List.mem_of_getElem? (i := 193) rfl))) rfl
theorem ol_X4 : Cond.methodLink RX4 3 Lib.objectInit ∈ x_TBL := x_TBL_in (List.mem_append_right _ (mt_2 (List.mem_of_getElem? (i := 136) rfl))) rfl
theorem ol_X10 : Cond.methodLink RX10 1 Lib.objectInit ∈ x_TBL := x_TBL_in (List.mem_append_right _ (mt_5 (List.mem_of_getElem? (i := 28) rfl))) rfl
theorem im_X9_init : Cond.instanceMethod Y_X9_init.1 ∈ x_TBL := x_TBL_in (List.mem_append_right _ (mt_1 (List.mem_of_getElem? (i := 20) rfl))) rfl
theorem pl_X9_init : plainFor Y_X9_init.1 = true := by decide +kernel
theorem im_X0_init : Cond.instanceMethod Y_X0_init.1 ∈ x_TBL := x_TBL_in (List.mem_append_right _ (mt_1 (List.mem_of_getElem? (i := 28) rfl))) rfl
theorem pl_X0_init : plainFor Y_X0_init.1 = true := by decide +kernel
theorem im_X5_init : Cond.instanceMethod Y_X5_init.1 ∈ x_TBL := x_TBL_in (List.mem_append_right _ (mt_1 (List.mem_of_getElem? (i := 34) rfl))) rfl
theorem pl_X5_init : plainFor Y_X5_init.1 = true := by decide +kernel
theorem im_X2_init : Cond.instanceMethod Y_X2_init.1 ∈ x_TBL := x_TBL_in (List.mem_append_right _ (mt_1 (List.mem_of_getElem? (i := 91) rfl))) rfl
theorem pl_X2_init : plainFor Y_X2_init.1 = true := by decide +kernel
theorem im_X1_init : Cond.instanceMethod Y_X1_init.1 ∈ x_TBL := x_TBL_in (List.mem_append_right _ (mt_1 (List.mem_of_getElem? (i := 108) rfl))) rfl
theorem pl_X1_init : plainFor Y_X1_init.1 = true := by decide +kernel
theorem im_X6_init : Cond.instanceMethod Y_X6_init.1 ∈ x_TBL := x_TBL_in (List.mem_append_right _ (mt_1 (List.mem_of_getElem? (i := 159) rfl))) rfl
theorem pl_X6_init : plainFor Y_X6_init.1 = true := by decide +kernel
theorem im_X7_init : Cond.instanceMethod Y_X7_init.1 ∈ x_TBL := x_TBL_in (List.mem_append_right _ (mt_1 (List.mem_of_getElem? (i := 191) rfl))) rfl
theorem pl_X7_init : plainFor Y_X7_init.1 = true := by decide +kernel
theorem im_X4_init : Cond.instanceMethod Y_X4_init.1 ∈ x_TBL := x_TBL_in (List.mem_append_right _ (mt_2 (List.mem_of_getElem? (i := 134) rfl))) rfl
theorem pl_X4_init : plainFor Y_X4_init.1 = true := by decide +kernel
theorem im_X10_init : Cond.instanceMethod Y_X10_init.1 ∈ x_TBL := x_TBL_in (List.mem_append_right _ (mt_5 (List.mem_of_getElem? (i := 26) rfl))) rfl
theorem pl_X10_init : plainFor Y_X10_init.1 = true := by decide +kernel
