theorem qcl_0 : RX11 ≠ "java/lang/invoke/MethodHandle" ∧ RX11 ≠ "java/lang/invoke/VarHandle" := ⟨by decide, by decide⟩
theorem qcl_1 : RX10 ≠ "java/lang/invoke/MethodHandle" ∧ RX10 ≠ "java/lang/invoke/VarHandle" := ⟨by decide, by decide⟩
theorem qcl_2 : RX4 ≠ "java/lang/invoke/MethodHandle" ∧ RX4 ≠ "java/lang/invoke/VarHandle" := ⟨by decide, by decide⟩
theorem qcl_3 : RX8 ≠ "java/lang/invoke/MethodHandle" ∧ RX8 ≠ "java/lang/invoke/VarHandle" := ⟨by decide, by decide⟩
theorem qcl_4 : RX3 ≠ "java/lang/invoke/MethodHandle" ∧ RX3 ≠ "java/lang/invoke/VarHandle" := ⟨by decide, by decide⟩
theorem qcl_5 : RX5 ≠ "java/lang/invoke/MethodHandle" ∧ RX5 ≠ "java/lang/invoke/VarHandle" := ⟨by decide, by decide⟩
theorem qcl_6 : RX1 ≠ "java/lang/invoke/MethodHandle" ∧ RX1 ≠ "java/lang/invoke/VarHandle" := ⟨by decide, by decide⟩
theorem qcl_7 : RX2 ≠ "java/lang/invoke/MethodHandle" ∧ RX2 ≠ "java/lang/invoke/VarHandle" := ⟨by decide, by decide⟩
theorem qcl_8 : RX7 ≠ "java/lang/invoke/MethodHandle" ∧ RX7 ≠ "java/lang/invoke/VarHandle" := ⟨by decide, by decide⟩
theorem qcl_9 : RX9 ≠ "java/lang/invoke/MethodHandle" ∧ RX9 ≠ "java/lang/invoke/VarHandle" := ⟨by decide, by decide⟩
theorem qcl_10 : RX6 ≠ "java/lang/invoke/MethodHandle" ∧ RX6 ≠ "java/lang/invoke/VarHandle" := ⟨by decide, by decide⟩
theorem qcl_11 : RJ6 ≠ "java/lang/invoke/MethodHandle" ∧ RJ6 ≠ "java/lang/invoke/VarHandle" := ⟨by decide, by decide⟩
theorem qcl_12 : RX0 ≠ "java/lang/invoke/MethodHandle" ∧ RX0 ≠ "java/lang/invoke/VarHandle" := ⟨by decide, by decide⟩
theorem qcl_13 : RX12 ≠ "java/lang/invoke/MethodHandle" ∧ RX12 ≠ "java/lang/invoke/VarHandle" := ⟨by decide, by decide⟩
theorem qde_0 : (parseMethodDescriptor "(I)I").map (fun d => d.parameters.length) = some 1 := by decide +kernel
theorem qde_1 : (parseMethodDescriptor "(I)Z").map (fun d => d.parameters.length) = some 1 := by decide +kernel
theorem qde_2 : (parseMethodDescriptor "()I").map (fun d => d.parameters.length) = some 0 := by decide +kernel
theorem qde_3 : (parseMethodDescriptor "(LWinnerTeaches$Text;LWinnerTeaches$League;LWinnerTeaches$Standing;)I").map (fun d => d.parameters.length) = some 3 := by decide +kernel
theorem qde_4 : (parseMethodDescriptor "(LWinnerTeaches$Standing;)V").map (fun d => d.parameters.length) = some 1 := by decide +kernel
theorem qde_5 : (parseMethodDescriptor "(C)Z").map (fun d => d.parameters.length) = some 1 := by decide +kernel
theorem qde_6 : (parseMethodDescriptor "()Z").map (fun d => d.parameters.length) = some 0 := by decide +kernel
theorem qde_7 : (parseMethodDescriptor "(I)V").map (fun d => d.parameters.length) = some 1 := by decide +kernel
theorem qde_8 : (parseMethodDescriptor "(III)V").map (fun d => d.parameters.length) = some 3 := by decide +kernel
theorem qde_9 : (parseMethodDescriptor "(LWinnerTeaches$League;LWinnerTeaches$Standing;)V").map (fun d => d.parameters.length) = some 2 := by decide +kernel
theorem qde_10 : (parseMethodDescriptor "()V").map (fun d => d.parameters.length) = some 0 := by decide +kernel
theorem qde_11 : (parseMethodDescriptor "(LWinnerTeaches$Text;)I").map (fun d => d.parameters.length) = some 1 := by decide +kernel
theorem qde_12 : (parseMethodDescriptor "(LWinnerTeaches$Text;I)I").map (fun d => d.parameters.length) = some 2 := by decide +kernel
theorem qde_13 : (parseMethodDescriptor "(CI)Z").map (fun d => d.parameters.length) = some 2 := by decide +kernel
theorem qde_14 : (parseMethodDescriptor "(II)Z").map (fun d => d.parameters.length) = some 2 := by decide +kernel
theorem qde_15 : (parseMethodDescriptor "(CII)Z").map (fun d => d.parameters.length) = some 3 := by decide +kernel
theorem qde_16 : (parseMethodDescriptor "(II)I").map (fun d => d.parameters.length) = some 2 := by decide +kernel
theorem qde_17 : (parseMethodDescriptor "(IIIII)I").map (fun d => d.parameters.length) = some 5 := by decide +kernel
theorem qde_18 : (parseMethodDescriptor "(III)I").map (fun d => d.parameters.length) = some 3 := by decide +kernel
theorem qde_19 : (parseMethodDescriptor "(IZ)Z").map (fun d => d.parameters.length) = some 2 := by decide +kernel
theorem qde_20 : (parseMethodDescriptor "(LWinnerTeaches$Standing;III)I").map (fun d => d.parameters.length) = some 4 := by decide +kernel
theorem qde_21 : (parseMethodDescriptor "(LWinnerTeaches$Standing;II)I").map (fun d => d.parameters.length) = some 3 := by decide +kernel
theorem qde_22 : (parseMethodDescriptor "(ILWinnerTeaches$Standing;II)I").map (fun d => d.parameters.length) = some 4 := by decide +kernel
theorem qde_23 : (parseMethodDescriptor "(LWinnerTeaches$Standing;IIIZ)V").map (fun d => d.parameters.length) = some 5 := by decide +kernel
theorem qde_24 : (parseMethodDescriptor "(LWinnerTeaches$Standing;III)V").map (fun d => d.parameters.length) = some 4 := by decide +kernel
theorem qde_25 : (parseMethodDescriptor "(LWinnerTeaches$Standing;IIZ)V").map (fun d => d.parameters.length) = some 4 := by decide +kernel
theorem qde_26 : (parseMethodDescriptor "(JJ)V").map (fun d => d.parameters.length) = some 2 := by decide +kernel
theorem qde_27 : (parseMethodDescriptor "(LWinnerTeaches$Standing;)Z").map (fun d => d.parameters.length) = some 1 := by decide +kernel
theorem qde_28 : (parseMethodDescriptor "(LWinnerTeaches$Standing;)I").map (fun d => d.parameters.length) = some 1 := by decide +kernel
theorem qde_29 : (parseMethodDescriptor "(J)V").map (fun d => d.parameters.length) = some 1 := by decide +kernel
theorem qde_30 : (parseMethodDescriptor "(JJJ)V").map (fun d => d.parameters.length) = some 3 := by decide +kernel
theorem qde_31 : (parseMethodDescriptor "(LWinnerTeaches$Standing;I)I").map (fun d => d.parameters.length) = some 2 := by decide +kernel
theorem qde_32 : (parseMethodDescriptor "(LWinnerTeaches$League;LWinnerTeaches$Plan;LWinnerTeaches$Standing;)Z").map (fun d => d.parameters.length) = some 3 := by decide +kernel
theorem qde_33 : (parseMethodDescriptor "(LWinnerTeaches$Standing;I)J").map (fun d => d.parameters.length) = some 2 := by decide +kernel
theorem qde_34 : (parseMethodDescriptor "(JJ)I").map (fun d => d.parameters.length) = some 2 := by decide +kernel
theorem qde_35 : (parseMethodDescriptor "(LWinnerTeaches$League;LWinnerTeaches$Plan;)V").map (fun d => d.parameters.length) = some 2 := by decide +kernel
theorem qde_36 : (parseMethodDescriptor "(LWinnerTeaches$League;LWinnerTeaches$Plan;LWinnerTeaches$Standing;II)J").map (fun d => d.parameters.length) = some 5 := by decide +kernel
theorem qde_37 : (parseMethodDescriptor "(LWinnerTeaches$League;LWinnerTeaches$Plan;IZ)V").map (fun d => d.parameters.length) = some 4 := by decide +kernel
theorem qde_38 : (parseMethodDescriptor "(I)J").map (fun d => d.parameters.length) = some 1 := by decide +kernel
theorem qde_39 : (parseMethodDescriptor "(LWinnerTeaches$League;LWinnerTeaches$Standing;I)Z").map (fun d => d.parameters.length) = some 3 := by decide +kernel
theorem qde_40 : (parseMethodDescriptor "(LWinnerTeaches$League;I)Z").map (fun d => d.parameters.length) = some 2 := by decide +kernel
theorem qde_41 : (parseMethodDescriptor "(LWinnerTeaches$League;I)V").map (fun d => d.parameters.length) = some 2 := by decide +kernel
theorem qde_42 : (parseMethodDescriptor "(IILWinnerTeaches$Standing;)V").map (fun d => d.parameters.length) = some 3 := by decide +kernel
theorem qde_43 : (parseMethodDescriptor "(LWinnerTeaches$League;IIII)Z").map (fun d => d.parameters.length) = some 5 := by decide +kernel
theorem qde_44 : (parseMethodDescriptor "(IIIZ)J").map (fun d => d.parameters.length) = some 4 := by decide +kernel
theorem qde_45 : (parseMethodDescriptor "(JI)J").map (fun d => d.parameters.length) = some 2 := by decide +kernel
theorem qde_46 : (parseMethodDescriptor "(I[J)V").map (fun d => d.parameters.length) = some 2 := by decide +kernel
theorem qde_47 : (parseMethodDescriptor "(LWinnerTeaches$League;I)I").map (fun d => d.parameters.length) = some 2 := by decide +kernel
theorem qde_48 : (parseMethodDescriptor "(LWinnerTeaches$League;)I").map (fun d => d.parameters.length) = some 1 := by decide +kernel
theorem qde_49 : (parseMethodDescriptor "(IIII)I").map (fun d => d.parameters.length) = some 4 := by decide +kernel
theorem qde_50 : (parseMethodDescriptor "(LWinnerTeaches$Standing;I)V").map (fun d => d.parameters.length) = some 2 := by decide +kernel
theorem qde_51 : (parseMethodDescriptor "(LWinnerTeaches$League;LWinnerTeaches$Standing;I)V").map (fun d => d.parameters.length) = some 3 := by decide +kernel
theorem qde_52 : (parseMethodDescriptor "(JJJ)Z").map (fun d => d.parameters.length) = some 3 := by decide +kernel
theorem qde_53 : (parseMethodDescriptor "([BII)V").map (fun d => d.parameters.length) = some 3 := by decide +kernel
theorem qde_54 : (parseMethodDescriptor "(C)V").map (fun d => d.parameters.length) = some 1 := by decide +kernel
theorem qde_55 : (parseMethodDescriptor "([II)V").map (fun d => d.parameters.length) = some 2 := by decide +kernel
theorem qde_56 : (parseMethodDescriptor "(IIIZ)I").map (fun d => d.parameters.length) = some 4 := by decide +kernel
theorem qde_57 : (parseMethodDescriptor "(IIII)V").map (fun d => d.parameters.length) = some 4 := by decide +kernel
theorem qde_58 : (parseMethodDescriptor "(II)V").map (fun d => d.parameters.length) = some 2 := by decide +kernel
theorem qde_59 : (parseMethodDescriptor "(IIZZ)V").map (fun d => d.parameters.length) = some 4 := by decide +kernel
theorem qde_60 : (parseMethodDescriptor "(JJ)J").map (fun d => d.parameters.length) = some 2 := by decide +kernel
theorem qde_61 : (parseMethodDescriptor "(IIII)J").map (fun d => d.parameters.length) = some 4 := by decide +kernel
theorem qde_62 : (parseMethodDescriptor "(IIIII)J").map (fun d => d.parameters.length) = some 5 := by decide +kernel
theorem qde_63 : (parseMethodDescriptor "(II)J").map (fun d => d.parameters.length) = some 2 := by decide +kernel
theorem qde_64 : (parseMethodDescriptor "(III)J").map (fun d => d.parameters.length) = some 3 := by decide +kernel
theorem cl_X0 : ClsOK RX0 TX0 tyX0 5 := ⟨tyX0_ok, nmX0⟩
theorem cl_X1 : ClsOK RX1 TX1 tyX1 8 := ⟨tyX1_ok, nmX1⟩
theorem cl_X2 : ClsOK RX2 TX2 tyX2 3 := ⟨tyX2_ok, nmX2⟩
theorem cl_X3 : ClsOK RX3 TX3 tyX3 9 := ⟨tyX3_ok, nmX3⟩
theorem cl_X4 : ClsOK RX4 TX4 tyX4 8 := ⟨tyX4_ok, nmX4⟩
theorem cl_X5 : ClsOK RX5 TX5 tyX5 9 := ⟨tyX5_ok, nmX5⟩
theorem cl_X6 : ClsOK RX6 TX6 tyX6 7 := ⟨tyX6_ok, nmX6⟩
theorem cl_X7 : ClsOK RX7 TX7 tyX7 6 := ⟨tyX7_ok, nmX7⟩
theorem cl_X8 : ClsOK RX8 TX8 tyX8 5 := ⟨tyX8_ok, nmX8⟩
theorem cl_X9 : ClsOK RX9 TX9 tyX9 6 := ⟨tyX9_ok, nmX9⟩
theorem cl_X10 : ClsOK RX10 TX10 tyX10 2 := ⟨tyX10_ok, nmX10⟩
theorem cl_X11 : ClsOK RX11 TX11 tyX11 19 := ⟨tyX11_ok, nmX11⟩
theorem cl_X12 : ClsOK RX12 TX12 tyX12 57 := ⟨tyX12_ok, nmX12⟩
abbrev μX11_init : MI := (yX11_init, cX11_init, 3, RX11, none)
abbrev μX11_sign : MI := (yX11_sign, cX11_sign, 2, RX11, (some .int))
abbrev μX11_end : MI := (yX11_end, cX11_end, 2, RX11, (some .boolean))
abbrev μX11_league : MI := (yX11_league, cX11_league, 3, RX11, (some .int))
abbrev μX11_rule : MI := (yX11_rule, cX11_rule, 3, RX11, (some .int))
abbrev μX11_plan : MI := (yX11_plan, cX11_plan, 3, RX11, (some .int))
abbrev μX11_skill : MI := (yX11_skill, cX11_skill, 3, RX11, (some .int))
abbrev μX11_of : MI := (yX11_of, cX11_of, 3, RX11, (some .int))
abbrev μX11_law : MI := (yX11_law, cX11_law, 4, RX11, (some .int))
abbrev μX11_sheet : MI := (yX11_sheet, cX11_sheet, 10, RX11, (some .int))
abbrev μX11_entry : MI := (yX11_entry, cX11_entry, 2, RX11, (some .int))
abbrev μX11_clamp : MI := (yX11_clamp, cX11_clamp, 3, RX11, (some .int))
abbrev μX11_ill : MI := (yX11_ill, cX11_ill, 4, RX11, (some .boolean))
abbrev μX11_swap : MI := (yX11_swap, cX11_swap, 5, RX11, (some .boolean))
abbrev μX11_circle : MI := (yX11_circle, cX11_circle, 1, RX11, (some .int))
abbrev μX11_game : MI := (yX11_game, cX11_game, 5, RX11, (some .int))
abbrev μX11_odds : MI := (yX11_odds, cX11_odds, 3, RX11, (some .int))
abbrev μX11_play : MI := (yX11_play, cX11_play, 5, RX11, (some .int))
abbrev μX11_playNow : MI := (yX11_playNow, cX11_playNow, 6, RX11, (some .int))
abbrev μX11_undo : MI := (yX11_undo, cX11_undo, 1, RX11, (some .int))
abbrev μX11_judge : MI := (yX11_judge, cX11_judge, 5, RX11, (some .int))
abbrev μX11_playTold : MI := (yX11_playTold, cX11_playTold, 5, RX11, (some .boolean))
abbrev μX11_rounds : MI := (yX11_rounds, cX11_rounds, 7, RX11, (some .int))
abbrev μX11_beats : MI := (yX11_beats, cX11_beats, 2, RX11, (some .int))
abbrev μX11_sidesWithResult : MI := (yX11_sidesWithResult, cX11_sidesWithResult, 5, RX11, (some .int))
abbrev μX11_kings : MI := (yX11_kings, cX11_kings, 4, RX11, (some .int))
abbrev μX11_isKing : MI := (yX11_isKing, cX11_isKing, 4, RX11, (some .boolean))
abbrev μX11_master : MI := (yX11_master, cX11_master, 7, RX11, (some .int))
abbrev μX11_table : MI := (yX11_table, cX11_table, 4, RX11, (some .int))
abbrev μX11_standsAhead : MI := (yX11_standsAhead, cX11_standsAhead, 3, RX11, (some .boolean))
abbrev μX11_spread : MI := (yX11_spread, cX11_spread, 3, RX11, (some .int))
abbrev μX11_rest : MI := (yX11_rest, cX11_rest, 1, RX11, (some .int))
abbrev μX11_mean : MI := (yX11_mean, cX11_mean, 3, RX11, (some .int))
abbrev μX11_soon : MI := (yX11_soon, cX11_soon, 6, RX11, (some .int))
abbrev μX11_wins : MI := (yX11_wins, cX11_wins, 7, RX11, (some .int))
abbrev μX11_hopes : MI := (yX11_hopes, cX11_hopes, 8, RX11, (some .int))
abbrev μX11_allChances : MI := (yX11_allChances, cX11_allChances, 4, RX11, (some .long))
abbrev μX11_top : MI := (yX11_top, cX11_top, 4, RX11, (some .int))
abbrev μX11_quick : MI := (yX11_quick, cX11_quick, 2, RX11, (some .int))
abbrev μX11_tellWayTo : MI := (yX11_tellWayTo, cX11_tellWayTo, 2, RX11, (some .int))
abbrev μX11_best : MI := (yX11_best, cX11_best, 4, RX11, (some .int))
abbrev μX11_even : MI := (yX11_even, cX11_even, 3, RX11, (some .int))
abbrev μX11_all : MI := (yX11_all, cX11_all, 6, RX11, (some .int))
abbrev μX11_next : MI := (yX11_next, cX11_next, 8, RX11, (some .int))
abbrev μX11_powerAfter : MI := (yX11_powerAfter, cX11_powerAfter, 6, RX11, (some .int))
abbrev μX11_seen : MI := (yX11_seen, cX11_seen, 4, RX11, (some .int))
abbrev μX11_found : MI := (yX11_found, cX11_found, 4, RX11, (some .int))
abbrev μX11_countThrowers : MI := (yX11_countThrowers, cX11_countThrowers, 2, RX11, none)
abbrev μX11_prize : MI := (yX11_prize, cX11_prize, 4, RX11, (some .int))
abbrev μX11_pays : MI := (yX11_pays, cX11_pays, 4, RX11, (some .int))
abbrev μX11_laws : MI := (yX11_laws, cX11_laws, 5, RX11, (some .int))
abbrev μX11_playAhead : MI := (yX11_playAhead, cX11_playAhead, 7, RX11, none)
abbrev μX11_seed : MI := (yX11_seed, cX11_seed, 3, RX11, (some .int))
abbrev μX11_keep : MI := (yX11_keep, cX11_keep, 2, RX11, (some .boolean))
abbrev μX11_again : MI := (yX11_again, cX11_again, 2, RX11, (some .boolean))
abbrev μX11_count : MI := (yX11_count, cX11_count, 2, RX11, (some .int))
abbrev μX11_row : MI := (yX11_row, cX11_row, 2, RX11, (some .long))
abbrev μX11_tell : MI := (yX11_tell, cX11_tell, 3, RX11, none)
abbrev μX11_tell_ : MI := (yX11_tell_, cX11_tell_, 5, RX11, none)
abbrev μX11_tell__ : MI := (yX11_tell__, cX11_tell__, 7, RX11, none)
abbrev μX11_tellFraction : MI := (yX11_tellFraction, cX11_tellFraction, 12, RX11, none)
abbrev μX12_init : MI := (yX12_init, cX12_init, 1, RX12, none)
abbrev μX12_in : MI := (yX12_in, cX12_in, 6, RX12, (some .boolean))
abbrev μX12_has : MI := (yX12_has, cX12_has, 2, RX12, (some .boolean))
abbrev μX12_lost : MI := (yX12_lost, cX12_lost, 1, RX12, (some .int))
abbrev μX12_tell : MI := (yX12_tell, cX12_tell, 3, RX12, none)
abbrev μX12_isSide : MI := (yX12_isSide, cX12_isSide, 2, RX12, (some .boolean))
abbrev μX12_isArt : MI := (yX12_isArt, cX12_isArt, 2, RX12, (some .boolean))
abbrev μX12_areTwo : MI := (yX12_areTwo, cX12_areTwo, 3, RX12, (some .boolean))
abbrev μX12_common : MI := (yX12_common, cX12_common, 4, RX12, (some .long))
abbrev μX12_tellPart : MI := (yX12_tellPart, cX12_tellPart, 7, RX12, none)
abbrev μX12_sign : MI := (yX12_sign, cX12_sign, 3, RX12, (some .int))
abbrev μX12_end : MI := (yX12_end, cX12_end, 2, RX12, (some .boolean))
abbrev μX12_begin : MI := (yX12_begin, cX12_begin, 4, RX12, none)
abbrev μX12_here : MI := (yX12_here, cX12_here, 1, RX12, (some .int))
abbrev μX12_fine : MI := (yX12_fine, cX12_fine, 1, RX12, (some .boolean))
abbrev μX12_fault : MI := (yX12_fault, cX12_fault, 2, RX12, none)
abbrev μX12_passes : MI := (yX12_passes, cX12_passes, 2, RX12, (some .boolean))
abbrev μX12_need : MI := (yX12_need, cX12_need, 2, RX12, none)
abbrev μX12_digit : MI := (yX12_digit, cX12_digit, 3, RX12, (some .int))
abbrev μX12_number : MI := (yX12_number, cX12_number, 4, RX12, (some .int))
abbrev μX12_league : MI := (yX12_league, cX12_league, 9, RX12, (some .int))
abbrev μX12_plan : MI := (yX12_plan, cX12_plan, 10, RX12, (some .int))
abbrev μX12_side : MI := (yX12_side, cX12_side, 3, RX12, (some .int))
abbrev μX12_held : MI := (yX12_held, cX12_held, 3, RX12, (some .int))
abbrev μX12_sum : MI := (yX12_sum, cX12_sum, 5, RX12, (some .int))
abbrev μX12_product : MI := (yX12_product, cX12_product, 5, RX12, (some .int))
abbrev μX12_thing : MI := (yX12_thing, cX12_thing, 4, RX12, (some .int))
abbrev μX12_letter : MI := (yX12_letter, cX12_letter, 6, RX12, (some .int))
abbrev μX12_rule : MI := (yX12_rule, cX12_rule, 3, RX12, (some .int))
abbrev μX12_sumOf : MI := (yX12_sumOf, cX12_sumOf, 4, RX12, (some .int))
abbrev μX12_sumOfAll : MI := (yX12_sumOfAll, cX12_sumOfAll, 3, RX12, (some .int))
abbrev μX12_power : MI := (yX12_power, cX12_power, 2, RX12, (some .int))
abbrev μX12_skill : MI := (yX12_skill, cX12_skill, 3, RX12, (some .int))
abbrev μX12_of : MI := (yX12_of, cX12_of, 3, RX12, (some .int))
abbrev μX12_law : MI := (yX12_law, cX12_law, 6, RX12, (some .int))
abbrev μX12_sheet : MI := (yX12_sheet, cX12_sheet, 10, RX12, (some .int))
abbrev μX12_ill : MI := (yX12_ill, cX12_ill, 3, RX12, (some .boolean))
abbrev μX12_winner : MI := (yX12_winner, cX12_winner, 5, RX12, (some .int))
abbrev μX12_artOf : MI := (yX12_artOf, cX12_artOf, 7, RX12, (some .int))
abbrev μX12_gainOf : MI := (yX12_gainOf, cX12_gainOf, 4, RX12, (some .int))
abbrev μX12_teach : MI := (yX12_teach, cX12_teach, 5, RX12, none)
abbrev μX12_isThrown : MI := (yX12_isThrown, cX12_isThrown, 1, RX12, (some .boolean))
abbrev μX12_game : MI := (yX12_game, cX12_game, 10, RX12, (some .int))
abbrev μX12_chanceOf : MI := (yX12_chanceOf, cX12_chanceOf, 3, RX12, (some .int))
abbrev μX12_odds : MI := (yX12_odds, cX12_odds, 3, RX12, (some .int))
abbrev μX12_settle : MI := (yX12_settle, cX12_settle, 7, RX12, none)
abbrev μX12_drawHundred : MI := (yX12_drawHundred, cX12_drawHundred, 1, RX12, (some .int))
abbrev μX12_goGame : MI := (yX12_goGame, cX12_goGame, 6, RX12, (some .int))
abbrev μX12_lay : MI := (yX12_lay, cX12_lay, 5, RX12, none)
abbrev μX12_bring : MI := (yX12_bring, cX12_bring, 5, RX12, none)
abbrev μX12_remember : MI := (yX12_remember, cX12_remember, 2, RX12, none)
abbrev μX12_play : MI := (yX12_play, cX12_play, 5, RX12, (some .int))
abbrev μX12_undo : MI := (yX12_undo, cX12_undo, 1, RX12, (some .int))
abbrev μX12_judge : MI := (yX12_judge, cX12_judge, 9, RX12, (some .int))
abbrev μX12_goRounds : MI := (yX12_goRounds, cX12_goRounds, 8, RX12, none)
abbrev μX12_rounds : MI := (yX12_rounds, cX12_rounds, 2, RX12, (some .int))
abbrev μX12_isAhead : MI := (yX12_isAhead, cX12_isAhead, 5, RX12, (some .boolean))
abbrev μX12_table : MI := (yX12_table, cX12_table, 5, RX12, (some .int))
abbrev μX12_spreadNow : MI := (yX12_spreadNow, cX12_spreadNow, 5, RX12, (some .int))
abbrev μX12_spread : MI := (yX12_spread, cX12_spread, 2, RX12, (some .int))
abbrev μX12_swap : MI := (yX12_swap, cX12_swap, 5, RX12, (some .boolean))
abbrev μX12_circle : MI := (yX12_circle, cX12_circle, 6, RX12, (some .int))
abbrev μX12_beatenBy : MI := (yX12_beatenBy, cX12_beatenBy, 4, RX12, (some .int))
abbrev μX12_beats : MI := (yX12_beats, cX12_beats, 4, RX12, (some .int))
abbrev μX12_kings : MI := (yX12_kings, cX12_kings, 7, RX12, (some .int))
abbrev μX12_master : MI := (yX12_master, cX12_master, 6, RX12, (some .int))
abbrev μX12_goQuiet : MI := (yX12_goQuiet, cX12_goQuiet, 5, RX12, none)
abbrev μX12_half : MI := (yX12_half, cX12_half, 5, RX12, (some .long))
abbrev μX12_load : MI := (yX12_load, cX12_load, 7, RX12, none)
abbrev μX12_slot : MI := (yX12_slot, cX12_slot, 8, RX12, (some .int))
abbrev μX12_clearStates : MI := (yX12_clearStates, cX12_clearStates, 2, RX12, none)
abbrev μX12_stateNow : MI := (yX12_stateNow, cX12_stateNow, 9, RX12, (some .int))
abbrev μX12_goTurn : MI := (yX12_goTurn, cX12_goTurn, 2, RX12, none)
abbrev μX12_findRest : MI := (yX12_findRest, cX12_findRest, 5, RX12, (some .boolean))
abbrev μX12_rest : MI := (yX12_rest, cX12_rest, 2, RX12, (some .int))
abbrev μX12_skillIn : MI := (yX12_skillIn, cX12_skillIn, 7, RX12, (some .int))
abbrev μX12_mean : MI := (yX12_mean, cX12_mean, 6, RX12, (some .int))
abbrev μX12_soon : MI := (yX12_soon, cX12_soon, 6, RX12, (some .int))
abbrev μX12_power100 : MI := (yX12_power100, cX12_power100, 4, RX12, (some .long))
abbrev μX12_chanceOfWins : MI := (yX12_chanceOfWins, cX12_chanceOfWins, 13, RX12, (some .long))
abbrev μX12_chanceBehind : MI := (yX12_chanceBehind, cX12_chanceBehind, 12, RX12, (some .long))
abbrev μX12_wins : MI := (yX12_wins, cX12_wins, 6, RX12, (some .int))
abbrev μX12_hopeOf : MI := (yX12_hopeOf, cX12_hopeOf, 9, RX12, (some .long))
abbrev μX12_hopeBehind : MI := (yX12_hopeBehind, cX12_hopeBehind, 7, RX12, (some .long))
abbrev μX12_hopes : MI := (yX12_hopes, cX12_hopes, 4, RX12, (some .int))
abbrev μX12_findStates : MI := (yX12_findStates, cX12_findStates, 7, RX12, (some .boolean))
abbrev μX12_tellWay : MI := (yX12_tellWay, cX12_tellWay, 5, RX12, (some .int))
abbrev μX12_top : MI := (yX12_top, cX12_top, 5, RX12, (some .int))
abbrev μX12_quick : MI := (yX12_quick, cX12_quick, 6, RX12, (some .int))
abbrev μX12_best : MI := (yX12_best, cX12_best, 7, RX12, (some .int))
abbrev μX12_even : MI := (yX12_even, cX12_even, 6, RX12, (some .int))
abbrev μX12_all : MI := (yX12_all, cX12_all, 5, RX12, (some .int))
abbrev μX12_next : MI := (yX12_next, cX12_next, 8, RX12, (some .int))
abbrev μX12_seen : MI := (yX12_seen, cX12_seen, 4, RX12, (some .int))
abbrev μX12_found : MI := (yX12_found, cX12_found, 10, RX12, (some .int))
abbrev μX12_prize : MI := (yX12_prize, cX12_prize, 4, RX12, (some .int))
abbrev μX12_pointsBehind : MI := (yX12_pointsBehind, cX12_pointsBehind, 4, RX12, (some .int))
abbrev μX12_pays : MI := (yX12_pays, cX12_pays, 5, RX12, (some .int))
abbrev μX12_laws : MI := (yX12_laws, cX12_laws, 7, RX12, (some .int))
abbrev μX12_seed : MI := (yX12_seed, cX12_seed, 3, RX12, (some .int))
abbrev μX12_keep : MI := (yX12_keep, cX12_keep, 4, RX12, (some .boolean))
abbrev μX12_again : MI := (yX12_again, cX12_again, 4, RX12, (some .boolean))
abbrev μX12_count : MI := (yX12_count, cX12_count, 2, RX12, (some .int))
abbrev μX12_row : MI := (yX12_row, cX12_row, 2, RX12, (some .long))
abbrev μX0_init : MI := (yX0_init, cX0_init, 1, RX0, none)
abbrev μX0_store : MI := (yX0_store, cX0_store, 4, RX0, none)
abbrev μX0_restore : MI := (yX0_restore, cX0_restore, 3, RX0, none)
abbrev μX1_init : MI := (yX1_init, cX1_init, 1, RX1, none)
abbrev μX1_allows : MI := (yX1_allows, cX1_allows, 2, RX1, (some .boolean))
abbrev μX1_has : MI := (yX1_has, cX1_has, 2, RX1, (some .boolean))
abbrev μX1_knows : MI := (yX1_knows, cX1_knows, 2, RX1, (some .boolean))
abbrev μX1_isIll : MI := (yX1_isIll, cX1_isIll, 2, RX1, (some .boolean))
abbrev μX1_canMeet : MI := (yX1_canMeet, cX1_canMeet, 3, RX1, (some .boolean))
abbrev μX1_power : MI := (yX1_power, cX1_power, 3, RX1, (some .int))
abbrev μX1_strongest : MI := (yX1_strongest, cX1_strongest, 6, RX1, (some .int))
abbrev μX1_weakest : MI := (yX1_weakest, cX1_weakest, 6, RX1, (some .int))
abbrev μX1_total : MI := (yX1_total, cX1_total, 4, RX1, (some .int))
abbrev μX1_result : MI := (yX1_result, cX1_result, 5, RX1, (some .int))
abbrev μX1_resultOf : MI := (yX1_resultOf, cX1_resultOf, 2, RX1, (some .int))
abbrev μX1_chance : MI := (yX1_chance, cX1_chance, 4, RX1, (some .int))
abbrev μX1_drawnResult : MI := (yX1_drawnResult, cX1_drawnResult, 5, RX1, (some .int))
abbrev μX1_settle : MI := (yX1_settle, cX1_settle, 8, RX1, none)
abbrev μX1_givePoints : MI := (yX1_givePoints, cX1_givePoints, 4, RX1, none)
abbrev μX1_teach : MI := (yX1_teach, cX1_teach, 9, RX1, none)
abbrev μX2_init : MI := (yX2_init, cX2_init, 2, RX2, none)
abbrev μX2_save : MI := (yX2_save, cX2_save, 2, RX2, none)
abbrev μX2_takeBack : MI := (yX2_takeBack, cX2_takeBack, 2, RX2, (some .boolean))
abbrev μX3_init : MI := (yX3_init, cX3_init, 1, RX3, none)
abbrev μX3_clear : MI := (yX3_clear, cX3_clear, 1, RX3, none)
abbrev μX3_begin : MI := (yX3_begin, cX3_begin, 2, RX3, (some .int))
abbrev μX3_after : MI := (yX3_after, cX3_after, 2, RX3, (some .int))
abbrev μX3_compile : MI := (yX3_compile, cX3_compile, 5, RX3, (some .int))
abbrev μX3_openRound : MI := (yX3_openRound, cX3_openRound, 1, RX3, none)
abbrev μX3_take : MI := (yX3_take, cX3_take, 3, RX3, (some .boolean))
abbrev μX3_takeSide : MI := (yX3_takeSide, cX3_takeSide, 3, RX3, (some .boolean))
abbrev μX3_takeThrow : MI := (yX3_takeThrow, cX3_takeThrow, 4, RX3, (some .boolean))
abbrev μX3_takeDash : MI := (yX3_takeDash, cX3_takeDash, 2, RX3, (some .boolean))
abbrev μX3_takeBreak : MI := (yX3_takeBreak, cX3_takeBreak, 2, RX3, (some .boolean))
abbrev μX3_addGame : MI := (yX3_addGame, cX3_addGame, 4, RX3, none)
abbrev μX3_fillEachWithEach : MI := (yX3_fillEachWithEach, cX3_fillEachWithEach, 7, RX3, none)
abbrev μX3_turnPlaces : MI := (yX3_turnPlaces, cX3_turnPlaces, 4, RX3, none)
abbrev μX4_init : MI := (yX4_init, cX4_init, 1, RX4, none)
abbrev μX4_read : MI := (yX4_read, cX4_read, 6, RX4, (some .int))
abbrev μX4_enter : MI := (yX4_enter, cX4_enter, 3, RX4, none)
abbrev μX4_canEnd : MI := (yX4_canEnd, cX4_canEnd, 1, RX4, (some .boolean))
abbrev μX4_take : MI := (yX4_take, cX4_take, 2, RX4, (some .boolean))
abbrev μX4_takeLine : MI := (yX4_takeLine, cX4_takeLine, 2, RX4, (some .boolean))
abbrev μX4_takeArts : MI := (yX4_takeArts, cX4_takeArts, 3, RX4, (some .boolean))
abbrev μX4_takeSkill : MI := (yX4_takeSkill, cX4_takeSkill, 2, RX4, (some .boolean))
abbrev μX4_takeIll : MI := (yX4_takeIll, cX4_takeIll, 2, RX4, (some .boolean))
abbrev μX5_init : MI := (yX5_init, cX5_init, 1, RX5, none)
abbrev μX5_compile : MI := (yX5_compile, cX5_compile, 4, RX5, (some .int))
abbrev μX5_take : MI := (yX5_take, cX5_take, 2, RX5, (some .boolean))
abbrev μX5_takeDigit : MI := (yX5_takeDigit, cX5_takeDigit, 2, RX5, (some .boolean))
abbrev μX5_takeThing : MI := (yX5_takeThing, cX5_takeThing, 2, RX5, (some .boolean))
abbrev μX5_takeJoin : MI := (yX5_takeJoin, cX5_takeJoin, 3, RX5, (some .boolean))
abbrev μX5_isThing : MI := (yX5_isThing, cX5_isThing, 1, RX5, (some .boolean))
abbrev μX5_rank : MI := (yX5_rank, cX5_rank, 1, RX5, (some .int))
abbrev μX5_emit : MI := (yX5_emit, cX5_emit, 2, RX5, none)
abbrev μX5_hold : MI := (yX5_hold, cX5_hold, 2, RX5, none)
abbrev μX5_release : MI := (yX5_release, cX5_release, 3, RX5, none)
abbrev μX5_value : MI := (yX5_value, cX5_value, 8, RX5, (some .int))
abbrev μX5_thing : MI := (yX5_thing, cX5_thing, 4, RX5, (some .int))
abbrev μX5_joined : MI := (yX5_joined, cX5_joined, 3, RX5, (some .int))
abbrev μX6_init : MI := (yX6_init, cX6_init, 2, RX6, none)
abbrev μX6_explore : MI := (yX6_explore, cX6_explore, 5, RX6, (some .boolean))
abbrev μX6_expand : MI := (yX6_expand, cX6_expand, 6, RX6, (some .boolean))
abbrev μX6_step : MI := (yX6_step, cX6_step, 9, RX6, (some .boolean))
abbrev μX6_halfAfter : MI := (yX6_halfAfter, cX6_halfAfter, 7, RX6, (some .long))
abbrev μX6_unpackAll : MI := (yX6_unpackAll, cX6_unpackAll, 4, RX6, none)
abbrev μX6_fillWay : MI := (yX6_fillWay, cX6_fillWay, 5, RX6, none)
abbrev μX6_firstStrong : MI := (yX6_firstStrong, cX6_firstStrong, 6, RX6, (some .int))
abbrev μX6_greatestPower : MI := (yX6_greatestPower, cX6_greatestPower, 6, RX6, (some .int))
abbrev μX6_leastGap : MI := (yX6_leastGap, cX6_leastGap, 5, RX6, (some .int))
abbrev μX7_init : MI := (yX7_init, cX7_init, 2, RX7, none)
abbrev μX7_findLoop : MI := (yX7_findLoop, cX7_findLoop, 6, RX7, (some .boolean))
abbrev μX7_playTurn : MI := (yX7_playTurn, cX7_playTurn, 5, RX7, none)
abbrev μX7_loopSum : MI := (yX7_loopSum, cX7_loopSum, 5, RX7, (some .int))
abbrev μX7_follow : MI := (yX7_follow, cX7_follow, 8, RX7, (some .long))
abbrev μX7_followGame : MI := (yX7_followGame, cX7_followGame, 9, RX7, none)
abbrev μX8_init : MI := (yX8_init, cX8_init, 1, RX8, none)
abbrev μX8_skillOf : MI := (yX8_skillOf, cX8_skillOf, 4, RX8, (some .int))
abbrev μX8_putSkill : MI := (yX8_putSkill, cX8_putSkill, 5, RX8, none)
abbrev μX8_sum : MI := (yX8_sum, cX8_sum, 6, RX8, (some .int))
abbrev μX8_greatest : MI := (yX8_greatest, cX8_greatest, 6, RX8, (some .int))
abbrev μX8_least : MI := (yX8_least, cX8_least, 6, RX8, (some .int))
abbrev μX8_furthestArt : MI := (yX8_furthestArt, cX8_furthestArt, 10, RX8, (some .int))
abbrev μX8_copy : MI := (yX8_copy, cX8_copy, 2, RX8, none)
abbrev μX8_copySkills : MI := (yX8_copySkills, cX8_copySkills, 4, RX8, none)
abbrev μX8_clearSide : MI := (yX8_clearSide, cX8_clearSide, 3, RX8, none)
abbrev μX9_init : MI := (yX9_init, cX9_init, 1, RX9, none)
abbrev μX9_clear : MI := (yX9_clear, cX9_clear, 2, RX9, none)
abbrev μX9_put : MI := (yX9_put, cX9_put, 8, RX9, (some .int))
abbrev μX9_putSkillsOf : MI := (yX9_putSkillsOf, cX9_putSkillsOf, 7, RX9, (some .int))
abbrev μX9_packed : MI := (yX9_packed, cX9_packed, 5, RX9, (some .long))
abbrev μX9_without : MI := (yX9_without, cX9_without, 3, RX9, (some .long))
abbrev μX9_skillIn : MI := (yX9_skillIn, cX9_skillIn, 6, RX9, (some .int))
abbrev μX9_unpack : MI := (yX9_unpack, cX9_unpack, 5, RX9, none)
abbrev μX9_total : MI := (yX9_total, cX9_total, 5, RX9, (some .int))
abbrev μX9_firstWith : MI := (yX9_firstWith, cX9_firstWith, 5, RX9, (some .int))
abbrev μX10_init : MI := (yX10_init, cX10_init, 1, RX10, none)
abbrev μX10_add : MI := (yX10_add, cX10_add, 3, RX10, (some .boolean))
abbrev μX10_cut : MI := (yX10_cut, cX10_cut, 2, RX10, (some .boolean))
abbrev μL_of : MI := (yL_of, cL_of, 5, RL, (some .int))
abbrev μL_row : MI := (yL_row, cL_row, 4, RL, (some .int))
abbrev μJ6_bitCount : MI := (yJ6_bitCount_0f7a4, prog_17_method_49_code, 1, RJ6, some .int)
theorem f_X10_9 : FldOK RX10 RX10 TX10 2 10 0 9 := ⟨tX10, rfl, by decide, rfl, w_131⟩
theorem f_X5_51 : FldOK RX5 RX10 TX10 2 10 0 51 := ⟨tX10, rfl, by decide, rfl, w_132⟩
theorem f_X4_61 : FldOK RX4 RX10 TX10 2 10 0 61 := ⟨tX10, rfl, by decide, rfl, w_133⟩
theorem f_X3_57 : FldOK RX3 RX10 TX10 2 10 0 57 := ⟨tX10, rfl, by decide, rfl, w_134⟩
theorem f_X10_13 : FldOK RX10 RX10 TX10 2 10 1 13 := ⟨tX10, rfl, by decide, rfl, w_135⟩
theorem f_X11_114 : FldOK RX11 RX10 TX10 2 10 1 114 := ⟨tX10, rfl, by decide, rfl, w_136⟩
theorem f_X5_42 : FldOK RX5 RX10 TX10 2 10 1 42 := ⟨tX10, rfl, by decide, rfl, w_137⟩
theorem f_X4_50 : FldOK RX4 RX10 TX10 2 10 1 50 := ⟨tX10, rfl, by decide, rfl, w_138⟩
theorem f_X3_43 : FldOK RX3 RX10 TX10 2 10 1 43 := ⟨tX10, rfl, by decide, rfl, w_139⟩
theorem f_X5_11 : FldOK RX5 RX5 TX5 9 5 0 11 := ⟨tX5, rfl, by decide, rfl, w_158⟩
theorem f_X5_15 : FldOK RX5 RX5 TX5 9 5 1 15 := ⟨tX5, rfl, by decide, rfl, w_159⟩
theorem f_X5_18 : FldOK RX5 RX5 TX5 9 5 2 18 := ⟨tX5, rfl, by decide, rfl, w_160⟩
theorem f_X5_21 : FldOK RX5 RX5 TX5 9 5 3 21 := ⟨tX5, rfl, by decide, rfl, w_161⟩
theorem f_X5_25 : FldOK RX5 RX5 TX5 9 5 4 25 := ⟨tX5, rfl, by decide, rfl, w_162⟩
theorem f_X5_29 : FldOK RX5 RX5 TX5 9 5 5 29 := ⟨tX5, rfl, by decide, rfl, w_163⟩
theorem f_X5_32 : FldOK RX5 RX5 TX5 9 5 6 32 := ⟨tX5, rfl, by decide, rfl, w_164⟩
theorem f_X5_35 : FldOK RX5 RX5 TX5 9 5 7 35 := ⟨tX5, rfl, by decide, rfl, w_165⟩
theorem f_X5_38 : FldOK RX5 RX5 TX5 9 5 8 38 := ⟨tX5, rfl, by decide, rfl, w_166⟩
theorem f_X1_9 : FldOK RX1 RX1 TX1 8 1 0 9 := ⟨tX1, rfl, by decide, rfl, w_188⟩
theorem f_X0_40 : FldOK RX0 RX1 TX1 8 1 0 40 := ⟨tX1, rfl, by decide, rfl, w_189⟩
theorem f_X11_197 : FldOK RX11 RX1 TX1 8 1 0 197 := ⟨tX1, rfl, by decide, rfl, w_190⟩
theorem f_X1_18 : FldOK RX1 RX1 TX1 8 1 1 18 := ⟨tX1, rfl, by decide, rfl, w_191⟩
theorem f_X11_152 : FldOK RX11 RX1 TX1 8 1 1 152 := ⟨tX1, rfl, by decide, rfl, w_192⟩
theorem f_X1_22 : FldOK RX1 RX1 TX1 8 1 2 22 := ⟨tX1, rfl, by decide, rfl, w_193⟩
theorem f_X11_142 : FldOK RX11 RX1 TX1 8 1 2 142 := ⟨tX1, rfl, by decide, rfl, w_194⟩
theorem f_X1_25 : FldOK RX1 RX1 TX1 8 1 3 25 := ⟨tX1, rfl, by decide, rfl, w_195⟩
theorem f_X4_45 : FldOK RX4 RX1 TX1 8 1 3 45 := ⟨tX1, rfl, by decide, rfl, w_196⟩
theorem f_X6_63 : FldOK RX6 RX1 TX1 8 1 3 63 := ⟨tX1, rfl, by decide, rfl, w_197⟩
theorem f_X11_155 : FldOK RX11 RX1 TX1 8 1 3 155 := ⟨tX1, rfl, by decide, rfl, w_198⟩
theorem f_X1_29 : FldOK RX1 RX1 TX1 8 1 4 29 := ⟨tX1, rfl, by decide, rfl, w_199⟩
theorem f_X4_48 : FldOK RX4 RX1 TX1 8 1 4 48 := ⟨tX1, rfl, by decide, rfl, w_200⟩
theorem f_X11_419 : FldOK RX11 RX1 TX1 8 1 4 419 := ⟨tX1, rfl, by decide, rfl, w_201⟩
theorem f_X1_32 : FldOK RX1 RX1 TX1 8 1 5 32 := ⟨tX1, rfl, by decide, rfl, w_202⟩
theorem f_X0_37 : FldOK RX0 RX1 TX1 8 1 5 37 := ⟨tX1, rfl, by decide, rfl, w_203⟩
theorem f_X4_49 : FldOK RX4 RX1 TX1 8 1 5 49 := ⟨tX1, rfl, by decide, rfl, w_204⟩
theorem f_X11_211 : FldOK RX11 RX1 TX1 8 1 5 211 := ⟨tX1, rfl, by decide, rfl, w_205⟩
theorem f_X1_35 : FldOK RX1 RX1 TX1 8 1 6 35 := ⟨tX1, rfl, by decide, rfl, w_206⟩
theorem f_X6_84 : FldOK RX6 RX1 TX1 8 1 6 84 := ⟨tX1, rfl, by decide, rfl, w_207⟩
theorem f_X11_233 : FldOK RX11 RX1 TX1 8 1 6 233 := ⟨tX1, rfl, by decide, rfl, w_208⟩
theorem f_X1_38 : FldOK RX1 RX1 TX1 8 1 7 38 := ⟨tX1, rfl, by decide, rfl, w_209⟩
theorem f_X11_236 : FldOK RX11 RX1 TX1 8 1 7 236 := ⟨tX1, rfl, by decide, rfl, w_210⟩
theorem f_X8_9 : FldOK RX8 RX8 TX8 5 8 0 9 := ⟨tX8, rfl, by decide, rfl, w_240⟩
theorem f_X8_15 : FldOK RX8 RX8 TX8 5 8 1 15 := ⟨tX8, rfl, by decide, rfl, w_241⟩
theorem f_X11_181 : FldOK RX11 RX8 TX8 5 8 1 181 := ⟨tX8, rfl, by decide, rfl, w_242⟩
theorem f_X5_111 : FldOK RX5 RX8 TX8 5 8 1 111 := ⟨tX8, rfl, by decide, rfl, w_243⟩
theorem f_X1_82 : FldOK RX1 RX8 TX8 5 8 1 82 := ⟨tX8, rfl, by decide, rfl, w_244⟩
theorem f_X8_18 : FldOK RX8 RX8 TX8 5 8 2 18 := ⟨tX8, rfl, by decide, rfl, w_245⟩
theorem f_X11_184 : FldOK RX11 RX8 TX8 5 8 2 184 := ⟨tX8, rfl, by decide, rfl, w_246⟩
theorem f_X5_114 : FldOK RX5 RX8 TX8 5 8 2 114 := ⟨tX8, rfl, by decide, rfl, w_247⟩
theorem f_X1_103 : FldOK RX1 RX8 TX8 5 8 2 103 := ⟨tX8, rfl, by decide, rfl, w_248⟩
theorem f_X8_21 : FldOK RX8 RX8 TX8 5 8 3 21 := ⟨tX8, rfl, by decide, rfl, w_249⟩
theorem f_X11_190 : FldOK RX11 RX8 TX8 5 8 3 190 := ⟨tX8, rfl, by decide, rfl, w_250⟩
theorem f_X8_24 : FldOK RX8 RX8 TX8 5 8 4 24 := ⟨tX8, rfl, by decide, rfl, w_251⟩
theorem f_X1_70 : FldOK RX1 RX8 TX8 5 8 4 70 := ⟨tX8, rfl, by decide, rfl, w_252⟩
theorem f_X11_406 : FldOK RX11 RX8 TX8 5 8 4 406 := ⟨tX8, rfl, by decide, rfl, w_253⟩
theorem f_X4_12 : FldOK RX4 RX4 TX4 8 4 0 12 := ⟨tX4, rfl, by decide, rfl, w_265⟩
theorem f_X4_18 : FldOK RX4 RX4 TX4 8 4 1 18 := ⟨tX4, rfl, by decide, rfl, w_266⟩
theorem f_X4_22 : FldOK RX4 RX4 TX4 8 4 2 22 := ⟨tX4, rfl, by decide, rfl, w_267⟩
theorem f_X4_25 : FldOK RX4 RX4 TX4 8 4 3 25 := ⟨tX4, rfl, by decide, rfl, w_268⟩
theorem f_X4_28 : FldOK RX4 RX4 TX4 8 4 4 28 := ⟨tX4, rfl, by decide, rfl, w_269⟩
theorem f_X11_139 : FldOK RX11 RX4 TX4 8 4 4 139 := ⟨tX4, rfl, by decide, rfl, w_270⟩
theorem f_X4_31 : FldOK RX4 RX4 TX4 8 4 5 31 := ⟨tX4, rfl, by decide, rfl, w_271⟩
theorem f_X4_34 : FldOK RX4 RX4 TX4 8 4 6 34 := ⟨tX4, rfl, by decide, rfl, w_272⟩
theorem f_X4_37 : FldOK RX4 RX4 TX4 8 4 7 37 := ⟨tX4, rfl, by decide, rfl, w_273⟩
theorem f_X11_128 : FldOK RX11 RX4 TX4 8 4 7 128 := ⟨tX4, rfl, by decide, rfl, w_274⟩
theorem f_X2_11 : FldOK RX2 RX2 TX2 3 2 0 11 := ⟨tX2, rfl, by decide, rfl, w_303⟩
theorem f_X2_15 : FldOK RX2 RX2 TX2 3 2 1 15 := ⟨tX2, rfl, by decide, rfl, w_304⟩
theorem f_X11_135 : FldOK RX11 RX2 TX2 3 2 1 135 := ⟨tX2, rfl, by decide, rfl, w_305⟩
theorem f_X2_19 : FldOK RX2 RX2 TX2 3 2 2 19 := ⟨tX2, rfl, by decide, rfl, w_306⟩
theorem f_X3_11 : FldOK RX3 RX3 TX3 9 3 0 11 := ⟨tX3, rfl, by decide, rfl, w_322⟩
theorem f_X7_63 : FldOK RX7 RX3 TX3 9 3 0 63 := ⟨tX3, rfl, by decide, rfl, w_323⟩
theorem f_X11_274 : FldOK RX11 RX3 TX3 9 3 0 274 := ⟨tX3, rfl, by decide, rfl, w_324⟩
theorem f_X3_15 : FldOK RX3 RX3 TX3 9 3 1 15 := ⟨tX3, rfl, by decide, rfl, w_325⟩
theorem f_X7_66 : FldOK RX7 RX3 TX3 9 3 1 66 := ⟨tX3, rfl, by decide, rfl, w_326⟩
theorem f_X11_277 : FldOK RX11 RX3 TX3 9 3 1 277 := ⟨tX3, rfl, by decide, rfl, w_327⟩
theorem f_X3_18 : FldOK RX3 RX3 TX3 9 3 2 18 := ⟨tX3, rfl, by decide, rfl, w_328⟩
theorem f_X7_69 : FldOK RX7 RX3 TX3 9 3 2 69 := ⟨tX3, rfl, by decide, rfl, w_329⟩
theorem f_X11_280 : FldOK RX11 RX3 TX3 9 3 2 280 := ⟨tX3, rfl, by decide, rfl, w_330⟩
theorem f_X3_21 : FldOK RX3 RX3 TX3 9 3 3 21 := ⟨tX3, rfl, by decide, rfl, w_331⟩
theorem f_X3_24 : FldOK RX3 RX3 TX3 9 3 4 24 := ⟨tX3, rfl, by decide, rfl, w_332⟩
theorem f_X3_27 : FldOK RX3 RX3 TX3 9 3 5 27 := ⟨tX3, rfl, by decide, rfl, w_333⟩
theorem f_X11_161 : FldOK RX11 RX3 TX3 9 3 5 161 := ⟨tX3, rfl, by decide, rfl, w_334⟩
theorem f_X3_31 : FldOK RX3 RX3 TX3 9 3 6 31 := ⟨tX3, rfl, by decide, rfl, w_335⟩
theorem f_X7_58 : FldOK RX7 RX3 TX3 9 3 6 58 := ⟨tX3, rfl, by decide, rfl, w_336⟩
theorem f_X11_422 : FldOK RX11 RX3 TX3 9 3 6 422 := ⟨tX3, rfl, by decide, rfl, w_337⟩
theorem f_X3_34 : FldOK RX3 RX3 TX3 9 3 7 34 := ⟨tX3, rfl, by decide, rfl, w_338⟩
theorem f_X3_37 : FldOK RX3 RX3 TX3 9 3 8 37 := ⟨tX3, rfl, by decide, rfl, w_339⟩
theorem f_X9_11 : FldOK RX9 RX9 TX9 6 9 0 11 := ⟨tX9, rfl, by decide, rfl, w_365⟩
theorem f_X6_107 : FldOK RX6 RX9 TX9 6 9 0 107 := ⟨tX9, rfl, by decide, rfl, w_366⟩
theorem f_X9_15 : FldOK RX9 RX9 TX9 6 9 1 15 := ⟨tX9, rfl, by decide, rfl, w_367⟩
theorem f_X6_103 : FldOK RX6 RX9 TX9 6 9 1 103 := ⟨tX9, rfl, by decide, rfl, w_368⟩
theorem f_X9_18 : FldOK RX9 RX9 TX9 6 9 2 18 := ⟨tX9, rfl, by decide, rfl, w_369⟩
theorem f_X9_22 : FldOK RX9 RX9 TX9 6 9 3 22 := ⟨tX9, rfl, by decide, rfl, w_370⟩
theorem f_X9_25 : FldOK RX9 RX9 TX9 6 9 4 25 := ⟨tX9, rfl, by decide, rfl, w_371⟩
theorem f_X6_52 : FldOK RX6 RX9 TX9 6 9 4 52 := ⟨tX9, rfl, by decide, rfl, w_372⟩
theorem f_X7_82 : FldOK RX7 RX9 TX9 6 9 4 82 := ⟨tX9, rfl, by decide, rfl, w_373⟩
theorem f_X11_384 : FldOK RX11 RX9 TX9 6 9 4 384 := ⟨tX9, rfl, by decide, rfl, w_374⟩
theorem f_X9_29 : FldOK RX9 RX9 TX9 6 9 5 29 := ⟨tX9, rfl, by decide, rfl, w_375⟩
theorem f_X7_54 : FldOK RX7 RX9 TX9 6 9 5 54 := ⟨tX9, rfl, by decide, rfl, w_376⟩
theorem f_X6_99 : FldOK RX6 RX9 TX9 6 9 5 99 := ⟨tX9, rfl, by decide, rfl, w_377⟩
theorem f_X6_37 : FldOK RX6 RX6 TX6 7 6 0 37 := ⟨tX6, rfl, by decide, rfl, w_400⟩
theorem f_X11_359 : FldOK RX11 RX6 TX6 7 6 0 359 := ⟨tX6, rfl, by decide, rfl, w_401⟩
theorem f_X6_12 : FldOK RX6 RX6 TX6 7 6 1 12 := ⟨tX6, rfl, by decide, rfl, w_402⟩
theorem f_X6_18 : FldOK RX6 RX6 TX6 7 6 2 18 := ⟨tX6, rfl, by decide, rfl, w_403⟩
theorem f_X6_24 : FldOK RX6 RX6 TX6 7 6 3 24 := ⟨tX6, rfl, by decide, rfl, w_404⟩
theorem f_X6_27 : FldOK RX6 RX6 TX6 7 6 4 27 := ⟨tX6, rfl, by decide, rfl, w_405⟩
theorem f_X6_30 : FldOK RX6 RX6 TX6 7 6 5 30 := ⟨tX6, rfl, by decide, rfl, w_406⟩
theorem f_X11_371 : FldOK RX11 RX6 TX6 7 6 5 371 := ⟨tX6, rfl, by decide, rfl, w_407⟩
theorem f_X6_33 : FldOK RX6 RX6 TX6 7 6 6 33 := ⟨tX6, rfl, by decide, rfl, w_408⟩
theorem f_X11_377 : FldOK RX11 RX6 TX6 7 6 6 377 := ⟨tX6, rfl, by decide, rfl, w_409⟩
theorem f_X7_33 : FldOK RX7 RX7 TX7 6 7 0 33 := ⟨tX7, rfl, by decide, rfl, w_433⟩
theorem f_X11_314 : FldOK RX11 RX7 TX7 6 7 0 314 := ⟨tX7, rfl, by decide, rfl, w_434⟩
theorem f_X7_12 : FldOK RX7 RX7 TX7 6 7 1 12 := ⟨tX7, rfl, by decide, rfl, w_435⟩
theorem f_X11_347 : FldOK RX11 RX7 TX7 6 7 1 347 := ⟨tX7, rfl, by decide, rfl, w_436⟩
theorem f_X7_18 : FldOK RX7 RX7 TX7 6 7 2 18 := ⟨tX7, rfl, by decide, rfl, w_437⟩
theorem f_X11_336 : FldOK RX11 RX7 TX7 6 7 2 336 := ⟨tX7, rfl, by decide, rfl, w_438⟩
theorem f_X7_22 : FldOK RX7 RX7 TX7 6 7 3 22 := ⟨tX7, rfl, by decide, rfl, w_439⟩
theorem f_X11_318 : FldOK RX11 RX7 TX7 6 7 3 318 := ⟨tX7, rfl, by decide, rfl, w_440⟩
theorem f_X7_26 : FldOK RX7 RX7 TX7 6 7 4 26 := ⟨tX7, rfl, by decide, rfl, w_441⟩
theorem f_X11_311 : FldOK RX11 RX7 TX7 6 7 4 311 := ⟨tX7, rfl, by decide, rfl, w_442⟩
theorem f_X7_29 : FldOK RX7 RX7 TX7 6 7 5 29 := ⟨tX7, rfl, by decide, rfl, w_443⟩
theorem f_X11_339 : FldOK RX11 RX7 TX7 6 7 5 339 := ⟨tX7, rfl, by decide, rfl, w_444⟩
theorem f_X0_12 : FldOK RX0 RX0 TX0 5 0 0 12 := ⟨tX0, rfl, by decide, rfl, w_465⟩
theorem f_X0_18 : FldOK RX0 RX0 TX0 5 0 1 18 := ⟨tX0, rfl, by decide, rfl, w_466⟩
theorem f_X0_22 : FldOK RX0 RX0 TX0 5 0 2 22 := ⟨tX0, rfl, by decide, rfl, w_467⟩
theorem f_X0_26 : FldOK RX0 RX0 TX0 5 0 3 26 := ⟨tX0, rfl, by decide, rfl, w_468⟩
theorem f_X11_416 : FldOK RX11 RX0 TX0 5 0 3 416 := ⟨tX0, rfl, by decide, rfl, w_469⟩
theorem f_X0_29 : FldOK RX0 RX0 TX0 5 0 4 29 := ⟨tX0, rfl, by decide, rfl, w_470⟩
theorem f_X11_136 : FldOK RX11 RX0 TX0 5 0 4 136 := ⟨tX0, rfl, by decide, rfl, w_471⟩
theorem f_X11_12 : FldOK RX11 RX11 TX11 19 11 0 12 := ⟨tX11, rfl, by decide, rfl, w_483⟩
theorem f_X11_19 : FldOK RX11 RX11 TX11 19 11 1 19 := ⟨tX11, rfl, by decide, rfl, w_484⟩
theorem f_X11_26 : FldOK RX11 RX11 TX11 19 11 2 26 := ⟨tX11, rfl, by decide, rfl, w_485⟩
theorem f_X11_33 : FldOK RX11 RX11 TX11 19 11 3 33 := ⟨tX11, rfl, by decide, rfl, w_486⟩
theorem f_X11_37 : FldOK RX11 RX11 TX11 19 11 4 37 := ⟨tX11, rfl, by decide, rfl, w_487⟩
theorem f_X11_43 : FldOK RX11 RX11 TX11 19 11 5 43 := ⟨tX11, rfl, by decide, rfl, w_488⟩
theorem f_X11_49 : FldOK RX11 RX11 TX11 19 11 6 49 := ⟨tX11, rfl, by decide, rfl, w_489⟩
theorem f_X11_98 : FldOK RX11 RX11 TX11 19 11 7 98 := ⟨tX11, rfl, by decide, rfl, w_490⟩
theorem f_X11_105 : FldOK RX11 RX11 TX11 19 11 8 105 := ⟨tX11, rfl, by decide, rfl, w_491⟩
theorem f_X11_56 : FldOK RX11 RX11 TX11 19 11 9 56 := ⟨tX11, rfl, by decide, rfl, w_492⟩
theorem f_X11_60 : FldOK RX11 RX11 TX11 19 11 10 60 := ⟨tX11, rfl, by decide, rfl, w_493⟩
theorem f_X11_63 : FldOK RX11 RX11 TX11 19 11 11 63 := ⟨tX11, rfl, by decide, rfl, w_494⟩
theorem f_X11_67 : FldOK RX11 RX11 TX11 19 11 12 67 := ⟨tX11, rfl, by decide, rfl, w_495⟩
theorem f_X11_71 : FldOK RX11 RX11 TX11 19 11 13 71 := ⟨tX11, rfl, by decide, rfl, w_496⟩
theorem f_X11_74 : FldOK RX11 RX11 TX11 19 11 14 74 := ⟨tX11, rfl, by decide, rfl, w_497⟩
theorem f_X11_77 : FldOK RX11 RX11 TX11 19 11 15 77 := ⟨tX11, rfl, by decide, rfl, w_498⟩
theorem f_X11_80 : FldOK RX11 RX11 TX11 19 11 16 80 := ⟨tX11, rfl, by decide, rfl, w_499⟩
theorem f_X11_83 : FldOK RX11 RX11 TX11 19 11 17 83 := ⟨tX11, rfl, by decide, rfl, w_500⟩
theorem f_X11_87 : FldOK RX11 RX11 TX11 19 11 18 87 := ⟨tX11, rfl, by decide, rfl, w_501⟩
theorem k_L_23 : CallV RL 23 RX11 μX11_sign 1 := ⟨w_541, w_542, w_543, w_97, w_544, ⟨qcl_0.1, qcl_0.2, qde_0⟩, Nat.le_of_ble_eq_true rfl⟩
theorem k_X11_110 : CallV RX11 110 RX10 μX10_add 1 := ⟨w_545, w_546, w_547, w_98, w_548, ⟨qcl_1.1, qcl_1.2, qde_1⟩, Nat.le_of_ble_eq_true rfl⟩
theorem k_L_28 : CallV RL 28 RX11 μX11_end 1 := ⟨w_549, w_550, w_551, w_97, w_552, ⟨qcl_0.1, qcl_0.2, qde_1⟩, Nat.le_of_ble_eq_true rfl⟩
theorem k_X11_117 : CallV RX11 117 RX10 μX10_cut 1 := ⟨w_553, w_554, w_555, w_98, w_556, ⟨qcl_1.1, qcl_1.2, qde_1⟩, Nat.le_of_ble_eq_true rfl⟩
theorem k_L_33 : CallV RL 33 RX11 μX11_league 0 := ⟨w_557, w_558, w_559, w_97, w_560, ⟨qcl_0.1, qcl_0.2, qde_2⟩, Nat.le_of_ble_eq_true rfl⟩
theorem k_X11_120 : CallV RX11 120 RX4 μX4_read 3 := ⟨w_561, w_562, w_563, w_101, w_564, ⟨qcl_2.1, qcl_2.2, qde_3⟩, Nat.le_of_ble_eq_true rfl⟩
theorem k_X4_41 : CallV RX4 41 RX8 μX8_copy 1 := ⟨w_565, w_566, w_567, w_102, w_568, ⟨qcl_3.1, qcl_3.2, qde_4⟩, Nat.le_of_ble_eq_true rfl⟩
theorem k_X8_37 : CopyOK RX8 37 := ⟨w_569, w_571, w_570, w_110⟩
theorem k_X4_55 : MathOK RX4 55 Lib.Math.min.name Lib.Math.min.code := ⟨w_572, w_573, w_111, w_574⟩
theorem k_X4_65 : CallV RX4 65 RX4 μX4_take 1 := ⟨w_575, w_577, w_0, w_101, w_578, ⟨qcl_2.1, qcl_2.2, qde_5⟩, Nat.le_of_ble_eq_true rfl⟩
theorem k_X4_69 : CallV RX4 69 RX4 μX4_canEnd 0 := ⟨w_579, w_581, w_1, w_101, w_582, ⟨qcl_2.1, qcl_2.2, qde_6⟩, Nat.le_of_ble_eq_true rfl⟩
theorem k_X4_73 : CallV RX4 73 RX4 μX4_takeLine 1 := ⟨w_583, w_585, w_2, w_101, w_586, ⟨qcl_2.1, qcl_2.2, qde_5⟩, Nat.le_of_ble_eq_true rfl⟩
theorem k_X4_86 : CallV RX4 86 RX8 μX8_clearSide 1 := ⟨w_587, w_588, w_589, w_102, w_590, ⟨qcl_3.1, qcl_3.2, qde_7⟩, Nat.le_of_ble_eq_true rfl⟩
theorem k_X8_46 : CallV RX8 46 RX8 μX8_putSkill 3 := ⟨w_591, w_592, w_593, w_102, w_594, ⟨qcl_3.1, qcl_3.2, qde_8⟩, Nat.le_of_ble_eq_true rfl⟩
theorem k_X4_80 : CallV RX4 80 RX4 μX4_takeSkill 1 := ⟨w_595, w_597, w_3, w_101, w_598, ⟨qcl_2.1, qcl_2.2, qde_1⟩, Nat.le_of_ble_eq_true rfl⟩
theorem k_X4_90 : CallV RX4 90 RX8 μX8_putSkill 3 := ⟨w_599, w_592, w_593, w_102, w_594, ⟨qcl_3.1, qcl_3.2, qde_8⟩, Nat.le_of_ble_eq_true rfl⟩
theorem k_X4_76 : CallV RX4 76 RX4 μX4_takeArts 1 := ⟨w_600, w_602, w_4, w_101, w_603, ⟨qcl_2.1, qcl_2.2, qde_1⟩, Nat.le_of_ble_eq_true rfl⟩
theorem k_X4_83 : CallV RX4 83 RX4 μX4_takeIll 1 := ⟨w_604, w_606, w_5, w_101, w_607, ⟨qcl_2.1, qcl_2.2, qde_5⟩, Nat.le_of_ble_eq_true rfl⟩
theorem k_X11_124 : CallV RX11 124 RX4 μX4_enter 2 := ⟨w_608, w_609, w_610, w_101, w_611, ⟨qcl_2.1, qcl_2.2, qde_9⟩, Nat.le_of_ble_eq_true rfl⟩
theorem k_X11_132 : CallV RX11 132 RX3 μX3_clear 0 := ⟨w_612, w_613, w_614, w_104, w_615, ⟨qcl_4.1, qcl_4.2, qde_10⟩, Nat.le_of_ble_eq_true rfl⟩
theorem k_L_38 : CallV RL 38 RX11 μX11_rule 0 := ⟨w_616, w_617, w_618, w_97, w_619, ⟨qcl_0.1, qcl_0.2, qde_2⟩, Nat.le_of_ble_eq_true rfl⟩
theorem k_X11_146 : CallV RX11 146 RX5 μX5_compile 1 := ⟨w_620, w_621, w_622, w_100, w_623, ⟨qcl_5.1, qcl_5.2, qde_11⟩, Nat.le_of_ble_eq_true rfl⟩
theorem k_X5_45 : MathOK RX5 45 Lib.Math.min.name Lib.Math.min.code := ⟨w_624, w_573, w_111, w_574⟩
theorem k_X5_55 : CallV RX5 55 RX5 μX5_take 1 := ⟨w_625, w_627, w_6, w_100, w_628, ⟨qcl_5.1, qcl_5.2, qde_5⟩, Nat.le_of_ble_eq_true rfl⟩
theorem k_X5_63 : CallV RX5 63 RX5 μX5_takeDigit 1 := ⟨w_629, w_631, w_7, w_100, w_632, ⟨qcl_5.1, qcl_5.2, qde_1⟩, Nat.le_of_ble_eq_true rfl⟩
theorem k_X5_73 : CallV RX5 73 RX5 μX5_emit 1 := ⟨w_633, w_635, w_8, w_100, w_636, ⟨qcl_5.1, qcl_5.2, qde_7⟩, Nat.le_of_ble_eq_true rfl⟩
theorem k_X5_67 : CallV RX5 67 RX5 μX5_takeThing 1 := ⟨w_637, w_639, w_9, w_100, w_640, ⟨qcl_5.1, qcl_5.2, qde_5⟩, Nat.le_of_ble_eq_true rfl⟩
theorem k_X5_76 : CallV RX5 76 RX5 μX5_hold 1 := ⟨w_641, w_643, w_10, w_100, w_644, ⟨qcl_5.1, qcl_5.2, qde_7⟩, Nat.le_of_ble_eq_true rfl⟩
theorem k_X5_79 : CallS RX5 79 μX5_isThing 1 := ⟨w_645, w_646, w_100, w_647, ⟨qcl_5.1, qcl_5.2, qde_5⟩, Nat.le_of_ble_eq_true rfl⟩
theorem k_X5_70 : CallV RX5 70 RX5 μX5_takeJoin 1 := ⟨w_648, w_650, w_11, w_100, w_651, ⟨qcl_5.1, qcl_5.2, qde_5⟩, Nat.le_of_ble_eq_true rfl⟩
theorem k_X5_59 : CallV RX5 59 RX5 μX5_release 1 := ⟨w_652, w_654, w_12, w_100, w_655, ⟨qcl_5.1, qcl_5.2, qde_7⟩, Nat.le_of_ble_eq_true rfl⟩
theorem k_X5_85 : CallS RX5 85 μX5_rank 1 := ⟨w_656, w_657, w_100, w_658, ⟨qcl_5.1, qcl_5.2, qde_0⟩, Nat.le_of_ble_eq_true rfl⟩
theorem k_X5_82 : MathOK RX5 82 Lib.Math.max.name Lib.Math.max.code := ⟨w_659, w_660, w_111, w_661⟩
theorem k_L_42 : CallV RL 42 RX11 μX11_plan 0 := ⟨w_662, w_663, w_664, w_97, w_665, ⟨qcl_0.1, qcl_0.2, qde_2⟩, Nat.le_of_ble_eq_true rfl⟩
theorem k_X11_158 : CallV RX11 158 RX3 μX3_compile 2 := ⟨w_666, w_667, w_668, w_104, w_669, ⟨qcl_4.1, qcl_4.2, qde_12⟩, Nat.le_of_ble_eq_true rfl⟩
theorem k_X3_40 : CallV RX3 40 RX3 μX3_clear 0 := ⟨w_670, w_613, w_614, w_104, w_615, ⟨qcl_4.1, qcl_4.2, qde_10⟩, Nat.le_of_ble_eq_true rfl⟩
theorem k_X3_48 : CallV RX3 48 RX3 μX3_openRound 0 := ⟨w_671, w_673, w_13, w_104, w_674, ⟨qcl_4.1, qcl_4.2, qde_10⟩, Nat.le_of_ble_eq_true rfl⟩
theorem k_X3_51 : MathOK RX3 51 Lib.Math.min.name Lib.Math.min.code := ⟨w_675, w_573, w_111, w_574⟩
theorem k_X3_61 : CallV RX3 61 RX3 μX3_take 2 := ⟨w_676, w_678, w_14, w_104, w_679, ⟨qcl_4.1, qcl_4.2, qde_13⟩, Nat.le_of_ble_eq_true rfl⟩
theorem k_X3_65 : CallV RX3 65 RX3 μX3_takeSide 2 := ⟨w_680, w_682, w_15, w_104, w_683, ⟨qcl_4.1, qcl_4.2, qde_14⟩, Nat.le_of_ble_eq_true rfl⟩
theorem k_X3_80 : CallV RX3 80 RX3 μX3_addGame 3 := ⟨w_684, w_686, w_16, w_104, w_687, ⟨qcl_4.1, qcl_4.2, qde_8⟩, Nat.le_of_ble_eq_true rfl⟩
theorem k_X3_69 : CallV RX3 69 RX3 μX3_takeThrow 3 := ⟨w_688, w_690, w_17, w_104, w_691, ⟨qcl_4.1, qcl_4.2, qde_15⟩, Nat.le_of_ble_eq_true rfl⟩
theorem k_X3_73 : CallV RX3 73 RX3 μX3_takeDash 1 := ⟨w_692, w_694, w_18, w_104, w_695, ⟨qcl_4.1, qcl_4.2, qde_5⟩, Nat.le_of_ble_eq_true rfl⟩
theorem k_X3_77 : CallV RX3 77 RX3 μX3_takeBreak 1 := ⟨w_696, w_698, w_19, w_104, w_699, ⟨qcl_4.1, qcl_4.2, qde_5⟩, Nat.le_of_ble_eq_true rfl⟩
theorem k_L_46 : CallV RL 46 RX11 μX11_skill 2 := ⟨w_700, w_701, w_702, w_97, w_703, ⟨qcl_0.1, qcl_0.2, qde_16⟩, Nat.le_of_ble_eq_true rfl⟩
theorem k_X11_164 : CallV RX11 164 RX1 μX1_has 1 := ⟨w_704, w_705, w_706, w_99, w_707, ⟨qcl_6.1, qcl_6.2, qde_1⟩, Nat.le_of_ble_eq_true rfl⟩
theorem k_X11_167 : CallV RX11 167 RX1 μX1_knows 1 := ⟨w_708, w_709, w_710, w_99, w_711, ⟨qcl_6.1, qcl_6.2, qde_1⟩, Nat.le_of_ble_eq_true rfl⟩
theorem k_X11_170 : CallV RX11 170 RX8 μX8_skillOf 2 := ⟨w_712, w_713, w_714, w_102, w_715, ⟨qcl_3.1, qcl_3.2, qde_16⟩, Nat.le_of_ble_eq_true rfl⟩
theorem k_L_56 : CallV RL 56 RX11 μX11_law 2 := ⟨w_716, w_717, w_718, w_97, w_719, ⟨qcl_0.1, qcl_0.2, qde_16⟩, Nat.le_of_ble_eq_true rfl⟩
theorem k_X11_193 : CallS RX11 193 μX1_allows 2 := ⟨w_720, w_721, w_99, w_722, ⟨qcl_6.1, qcl_6.2, qde_14⟩, Nat.le_of_ble_eq_true rfl⟩
theorem k_L_60 : CallV RL 60 RX11 μX11_sheet 5 := ⟨w_723, w_724, w_725, w_97, w_726, ⟨qcl_0.1, qcl_0.2, qde_17⟩, Nat.le_of_ble_eq_true rfl⟩
theorem k_X11_200 : CallS RX11 200 μX11_entry 2 := ⟨w_727, w_728, w_97, w_729, ⟨qcl_0.1, qcl_0.2, qde_16⟩, Nat.le_of_ble_eq_true rfl⟩
theorem k_X11_203 : CallS RX11 203 μX11_clamp 3 := ⟨w_730, w_731, w_97, w_732, ⟨qcl_0.1, qcl_0.2, qde_18⟩, Nat.le_of_ble_eq_true rfl⟩
theorem k_X11_207 : CallV RX11 207 RX8 μX8_putSkill 3 := ⟨w_733, w_592, w_593, w_102, w_594, ⟨qcl_3.1, qcl_3.2, qde_8⟩, Nat.le_of_ble_eq_true rfl⟩
theorem k_L_65 : CallV RL 65 RX11 μX11_ill 2 := ⟨w_734, w_735, w_736, w_97, w_737, ⟨qcl_0.1, qcl_0.2, qde_19⟩, Nat.le_of_ble_eq_true rfl⟩
theorem k_L_70 : CallV RL 70 RX11 μX11_swap 2 := ⟨w_738, w_739, w_740, w_97, w_741, ⟨qcl_0.1, qcl_0.2, qde_14⟩, Nat.le_of_ble_eq_true rfl⟩
theorem k_X11_214 : CallV RX11 214 RX1 μX1_canMeet 2 := ⟨w_742, w_743, w_744, w_99, w_745, ⟨qcl_6.1, qcl_6.2, qde_14⟩, Nat.le_of_ble_eq_true rfl⟩
theorem k_X1_41 : CallV RX1 41 RX1 μX1_has 1 := ⟨w_746, w_705, w_706, w_99, w_707, ⟨qcl_6.1, qcl_6.2, qde_1⟩, Nat.le_of_ble_eq_true rfl⟩
theorem k_L_75 : CallV RL 75 RX11 μX11_circle 0 := ⟨w_747, w_748, w_749, w_97, w_750, ⟨qcl_0.1, qcl_0.2, qde_2⟩, Nat.le_of_ble_eq_true rfl⟩
theorem k_X11_217 : CallV RX11 217 RX3 μX3_fillEachWithEach 1 := ⟨w_751, w_752, w_753, w_104, w_754, ⟨qcl_4.1, qcl_4.2, qde_7⟩, Nat.le_of_ble_eq_true rfl⟩
theorem k_X3_84 : CallV RX3 84 RX3 μX3_turnPlaces 1 := ⟨w_755, w_757, w_20, w_104, w_758, ⟨qcl_4.1, qcl_4.2, qde_7⟩, Nat.le_of_ble_eq_true rfl⟩
theorem k_L_79 : CallV RL 79 RX11 μX11_game 3 := ⟨w_759, w_760, w_761, w_97, w_762, ⟨qcl_0.1, qcl_0.2, qde_18⟩, Nat.le_of_ble_eq_true rfl⟩
theorem k_X11_221 : CallV RX11 221 RX8 μX8_copy 1 := ⟨w_763, w_566, w_567, w_102, w_568, ⟨qcl_3.1, qcl_3.2, qde_4⟩, Nat.le_of_ble_eq_true rfl⟩
theorem k_X11_225 : CallV RX11 225 RX1 μX1_result 4 := ⟨w_764, w_765, w_766, w_99, w_767, ⟨qcl_6.1, qcl_6.2, qde_20⟩, Nat.le_of_ble_eq_true rfl⟩
theorem k_X1_45 : CallV RX1 45 RX5 μX5_value 3 := ⟨w_768, w_769, w_770, w_100, w_771, ⟨qcl_5.1, qcl_5.2, qde_21⟩, Nat.le_of_ble_eq_true rfl⟩
theorem k_X5_89 : CallV RX5 89 RX8 μX8_sum 2 := ⟨w_772, w_773, w_774, w_102, w_775, ⟨qcl_3.1, qcl_3.2, qde_16⟩, Nat.le_of_ble_eq_true rfl⟩
theorem k_X8_28 : MathOK RX8 28 Lib.Math.min.name Lib.Math.min.code := ⟨w_776, w_573, w_111, w_574⟩
theorem k_X8_34 : MathOK RX8 34 Lib.Math.max.name Lib.Math.max.code := ⟨w_777, w_660, w_111, w_661⟩
theorem k_X5_94 : CallS RX5 94 μX5_thing 4 := ⟨w_778, w_779, w_100, w_780, ⟨qcl_5.1, qcl_5.2, qde_22⟩, Nat.le_of_ble_eq_true rfl⟩
theorem k_X5_105 : CallV RX5 105 RX8 μX8_greatest 2 := ⟨w_781, w_782, w_783, w_102, w_784, ⟨qcl_3.1, qcl_3.2, qde_16⟩, Nat.le_of_ble_eq_true rfl⟩
theorem k_X5_108 : CallV RX5 108 RX8 μX8_least 2 := ⟨w_785, w_786, w_787, w_102, w_788, ⟨qcl_3.1, qcl_3.2, qde_16⟩, Nat.le_of_ble_eq_true rfl⟩
theorem k_X5_117 : CallV RX5 117 RX8 μX8_skillOf 2 := ⟨w_789, w_713, w_714, w_102, w_715, ⟨qcl_3.1, qcl_3.2, qde_16⟩, Nat.le_of_ble_eq_true rfl⟩
theorem k_X5_98 : CallS RX5 98 μX5_joined 3 := ⟨w_790, w_791, w_100, w_792, ⟨qcl_5.1, qcl_5.2, qde_18⟩, Nat.le_of_ble_eq_true rfl⟩
theorem k_X5_102 : CallN RX5 102 RX11 μX11_clamp 3 := ⟨List.mem_of_getElem? (i := 13) (by decide +kernel), w_731, w_97, w_732, ⟨qcl_0.1, qcl_0.2, qde_18⟩, Nat.le_of_ble_eq_true rfl⟩
theorem k_X1_59 : CallV RX1 59 RX1 μX1_resultOf 1 := ⟨w_794, w_795, w_796, w_99, w_797, ⟨qcl_6.1, qcl_6.2, qde_0⟩, Nat.le_of_ble_eq_true rfl⟩
theorem k_X11_229 : CallV RX11 229 RX1 μX1_settle 5 := ⟨w_798, w_799, w_800, w_99, w_801, ⟨qcl_6.1, qcl_6.2, qde_23⟩, Nat.le_of_ble_eq_true rfl⟩
theorem k_X1_74 : CallS RX1 74 μX1_givePoints 4 := ⟨w_802, w_803, w_99, w_804, ⟨qcl_6.1, qcl_6.2, qde_24⟩, Nat.le_of_ble_eq_true rfl⟩
theorem k_X1_78 : CallV RX1 78 RX1 μX1_teach 4 := ⟨w_805, w_807, w_21, w_99, w_808, ⟨qcl_6.1, qcl_6.2, qde_25⟩, Nat.le_of_ble_eq_true rfl⟩
theorem k_X1_85 : CallV RX1 85 RX8 μX8_furthestArt 3 := ⟨w_809, w_810, w_811, w_102, w_812, ⟨qcl_3.1, qcl_3.2, qde_18⟩, Nat.le_of_ble_eq_true rfl⟩
theorem k_X1_88 : CallV RX1 88 RX8 μX8_skillOf 2 := ⟨w_813, w_713, w_714, w_102, w_715, ⟨qcl_3.1, qcl_3.2, qde_16⟩, Nat.le_of_ble_eq_true rfl⟩
theorem k_X1_91 : CallV RX1 91 RX1 μX1_isIll 1 := ⟨w_814, w_815, w_816, w_99, w_817, ⟨qcl_6.1, qcl_6.2, qde_1⟩, Nat.le_of_ble_eq_true rfl⟩
theorem k_X1_94 : MathOK RX1 94 Lib.Math.min.name Lib.Math.min.code := ⟨w_818, w_573, w_111, w_574⟩
theorem k_X1_99 : CallV RX1 99 RX8 μX8_putSkill 3 := ⟨w_819, w_592, w_593, w_102, w_594, ⟨qcl_3.1, qcl_3.2, qde_8⟩, Nat.le_of_ble_eq_true rfl⟩
theorem k_X1_63 : CallN RX1 63 RX11 μX11_clamp 3 := ⟨List.mem_of_getElem? (i := 14) (by decide +kernel), w_731, w_97, w_732, ⟨qcl_0.1, qcl_0.2, qde_18⟩, Nat.le_of_ble_eq_true rfl⟩
theorem k_X11_239 : CallV RX11 239 RX11 μX11_tell_ 2 := ⟨w_821, w_823, w_22, w_97, w_824, ⟨qcl_0.1, qcl_0.2, qde_26⟩, Nat.le_of_ble_eq_true rfl⟩
theorem k_L_84 : CallV RL 84 RX11 μX11_odds 2 := ⟨w_825, w_826, w_827, w_97, w_828, ⟨qcl_0.1, qcl_0.2, qde_16⟩, Nat.le_of_ble_eq_true rfl⟩
theorem k_X11_243 : CallV RX11 243 RX1 μX1_chance 3 := ⟨w_829, w_830, w_831, w_99, w_832, ⟨qcl_6.1, qcl_6.2, qde_21⟩, Nat.le_of_ble_eq_true rfl⟩
theorem k_L_88 : CallV RL 88 RX11 μX11_play 3 := ⟨w_833, w_834, w_835, w_97, w_836, ⟨qcl_0.1, qcl_0.2, qde_18⟩, Nat.le_of_ble_eq_true rfl⟩
theorem k_X11_247 : CallV RX11 247 RX11 μX11_playNow 3 := ⟨w_837, w_839, w_23, w_97, w_840, ⟨qcl_0.1, qcl_0.2, qde_18⟩, Nat.le_of_ble_eq_true rfl⟩
theorem k_X11_250 : CallV RX11 250 RX2 μX2_save 1 := ⟨w_841, w_842, w_843, w_103, w_844, ⟨qcl_7.1, qcl_7.2, qde_4⟩, Nat.le_of_ble_eq_true rfl⟩
theorem k_X2_23 : CallV RX2 23 RX8 μX8_copy 1 := ⟨w_845, w_566, w_567, w_102, w_568, ⟨qcl_3.1, qcl_3.2, qde_4⟩, Nat.le_of_ble_eq_true rfl⟩
theorem k_X2_27 : MathOK RX2 27 Lib.Math.min.name Lib.Math.min.code := ⟨w_846, w_573, w_111, w_574⟩
theorem k_X11_253 : CallV RX11 253 RX1 μX1_drawnResult 3 := ⟨w_847, w_848, w_849, w_99, w_850, ⟨qcl_6.1, qcl_6.2, qde_21⟩, Nat.le_of_ble_eq_true rfl⟩
theorem k_X1_67 : CallV RX1 67 RX1 μX1_chance 3 := ⟨w_851, w_830, w_831, w_99, w_832, ⟨qcl_6.1, qcl_6.2, qde_21⟩, Nat.le_of_ble_eq_true rfl⟩
theorem c_X1_73 : Cond.constant RX1 73 (1103515245) ∈ TW := w_852
theorem k_L_92 : CallV RL 92 RX11 μX11_undo 0 := ⟨w_853, w_854, w_855, w_97, w_856, ⟨qcl_0.1, qcl_0.2, qde_2⟩, Nat.le_of_ble_eq_true rfl⟩
theorem k_X11_256 : CallV RX11 256 RX2 μX2_takeBack 1 := ⟨w_857, w_858, w_859, w_103, w_860, ⟨qcl_7.1, qcl_7.2, qde_27⟩, Nat.le_of_ble_eq_true rfl⟩
theorem k_L_96 : CallV RL 96 RX11 μX11_judge 2 := ⟨w_861, w_862, w_863, w_97, w_864, ⟨qcl_0.1, qcl_0.2, qde_16⟩, Nat.le_of_ble_eq_true rfl⟩
theorem k_X11_260 : CallV RX11 260 RX11 μX11_playTold 1 := ⟨w_865, w_867, w_24, w_97, w_868, ⟨qcl_0.1, qcl_0.2, qde_1⟩, Nat.le_of_ble_eq_true rfl⟩
theorem k_X11_263 : CallV RX11 263 RX1 μX1_total 1 := ⟨w_869, w_870, w_871, w_99, w_872, ⟨qcl_6.1, qcl_6.2, qde_28⟩, Nat.le_of_ble_eq_true rfl⟩
theorem k_X1_53 : CallV RX1 53 RX8 μX8_sum 2 := ⟨w_873, w_773, w_774, w_102, w_775, ⟨qcl_3.1, qcl_3.2, qde_16⟩, Nat.le_of_ble_eq_true rfl⟩
theorem k_X11_267 : CallV RX11 267 RX11 μX11_tell 1 := ⟨w_874, w_876, w_25, w_97, w_877, ⟨qcl_0.1, qcl_0.2, qde_29⟩, Nat.le_of_ble_eq_true rfl⟩
theorem k_L_100 : CallV RL 100 RX11 μX11_rounds 1 := ⟨w_878, w_879, w_880, w_97, w_881, ⟨qcl_0.1, qcl_0.2, qde_0⟩, Nat.le_of_ble_eq_true rfl⟩
theorem k_X11_270 : CallV RX11 270 RX3 μX3_begin 1 := ⟨w_882, w_883, w_884, w_104, w_885, ⟨qcl_4.1, qcl_4.2, qde_0⟩, Nat.le_of_ble_eq_true rfl⟩
theorem k_X11_281 : CallV RX11 281 RX3 μX3_after 1 := ⟨w_886, w_887, w_888, w_104, w_889, ⟨qcl_4.1, qcl_4.2, qde_0⟩, Nat.le_of_ble_eq_true rfl⟩
theorem k_L_104 : CallV RL 104 RX11 μX11_beats 1 := ⟨w_890, w_891, w_892, w_97, w_893, ⟨qcl_0.1, qcl_0.2, qde_0⟩, Nat.le_of_ble_eq_true rfl⟩
theorem k_X11_284 : CallV RX11 284 RX11 μX11_sidesWithResult 2 := ⟨w_894, w_896, w_26, w_97, w_897, ⟨qcl_0.1, qcl_0.2, qde_16⟩, Nat.le_of_ble_eq_true rfl⟩
theorem k_L_108 : CallV RL 108 RX11 μX11_kings 0 := ⟨w_898, w_899, w_900, w_97, w_901, ⟨qcl_0.1, qcl_0.2, qde_2⟩, Nat.le_of_ble_eq_true rfl⟩
theorem k_X11_287 : CallV RX11 287 RX11 μX11_isKing 1 := ⟨w_902, w_904, w_27, w_97, w_905, ⟨qcl_0.1, qcl_0.2, qde_1⟩, Nat.le_of_ble_eq_true rfl⟩
theorem k_L_112 : CallV RL 112 RX11 μX11_master 1 := ⟨w_906, w_907, w_908, w_97, w_909, ⟨qcl_0.1, qcl_0.2, qde_0⟩, Nat.le_of_ble_eq_true rfl⟩
theorem k_X11_290 : MathOK RX11 290 Lib.Math.min.name Lib.Math.min.code := ⟨w_910, w_573, w_111, w_574⟩
theorem k_X11_295 : CallV RX11 295 RX11 μX11_tell__ 3 := ⟨w_911, w_913, w_28, w_97, w_914, ⟨qcl_0.1, qcl_0.2, qde_30⟩, Nat.le_of_ble_eq_true rfl⟩
theorem k_L_116 : CallV RL 116 RX11 μX11_table 0 := ⟨w_915, w_916, w_917, w_97, w_918, ⟨qcl_0.1, qcl_0.2, qde_2⟩, Nat.le_of_ble_eq_true rfl⟩
theorem k_X11_177 : CallV RX11 177 RX1 μX1_power 2 := ⟨w_919, w_920, w_921, w_99, w_922, ⟨qcl_6.1, qcl_6.2, qde_31⟩, Nat.le_of_ble_eq_true rfl⟩
theorem k_X11_298 : CallV RX11 298 RX11 μX11_standsAhead 2 := ⟨w_923, w_925, w_29, w_97, w_926, ⟨qcl_0.1, qcl_0.2, qde_14⟩, Nat.le_of_ble_eq_true rfl⟩
theorem k_L_120 : CallV RL 120 RX11 μX11_spread 0 := ⟨w_927, w_928, w_929, w_97, w_930, ⟨qcl_0.1, qcl_0.2, qde_2⟩, Nat.le_of_ble_eq_true rfl⟩
theorem k_X11_301 : CallV RX11 301 RX1 μX1_strongest 1 := ⟨w_931, w_932, w_933, w_99, w_934, ⟨qcl_6.1, qcl_6.2, qde_28⟩, Nat.le_of_ble_eq_true rfl⟩
theorem k_X1_49 : CallV RX1 49 RX1 μX1_power 2 := ⟨w_935, w_920, w_921, w_99, w_922, ⟨qcl_6.1, qcl_6.2, qde_31⟩, Nat.le_of_ble_eq_true rfl⟩
theorem k_X11_304 : CallV RX11 304 RX1 μX1_weakest 1 := ⟨w_936, w_937, w_938, w_99, w_939, ⟨qcl_6.1, qcl_6.2, qde_28⟩, Nat.le_of_ble_eq_true rfl⟩
theorem k_L_124 : CallV RL 124 RX11 μX11_rest 0 := ⟨w_940, w_941, w_942, w_97, w_943, ⟨qcl_0.1, qcl_0.2, qde_2⟩, Nat.le_of_ble_eq_true rfl⟩
theorem k_X11_307 : CallV RX11 307 RX7 μX7_findLoop 3 := ⟨w_944, w_945, w_946, w_107, w_947, ⟨qcl_8.1, qcl_8.2, qde_32⟩, Nat.le_of_ble_eq_true rfl⟩
theorem k_X7_37 : CallV RX7 37 RX8 μX8_copy 1 := ⟨w_948, w_566, w_567, w_102, w_568, ⟨qcl_3.1, qcl_3.2, qde_4⟩, Nat.le_of_ble_eq_true rfl⟩
theorem k_X7_41 : CallV RX7 41 RX9 μX9_clear 0 := ⟨w_949, w_950, w_951, w_105, w_952, ⟨qcl_9.1, qcl_9.2, qde_10⟩, Nat.le_of_ble_eq_true rfl⟩
theorem k_X7_46 : CallV RX7 46 RX9 μX9_putSkillsOf 1 := ⟨w_953, w_954, w_955, w_105, w_956, ⟨qcl_9.1, qcl_9.2, qde_28⟩, Nat.le_of_ble_eq_true rfl⟩
theorem k_X9_37 : CallS RX9 37 μX9_packed 2 := ⟨w_957, w_958, w_105, w_959, ⟨qcl_9.1, qcl_9.2, qde_33⟩, Nat.le_of_ble_eq_true rfl⟩
theorem k_X9_45 : CallV RX9 45 RX8 μX8_skillOf 2 := ⟨w_960, w_713, w_714, w_102, w_715, ⟨qcl_3.1, qcl_3.2, qde_16⟩, Nat.le_of_ble_eq_true rfl⟩
theorem k_X9_41 : CallV RX9 41 RX9 μX9_put 2 := ⟨w_961, w_962, w_963, w_105, w_964, ⟨qcl_9.1, qcl_9.2, qde_34⟩, Nat.le_of_ble_eq_true rfl⟩
theorem c_X9_33 : Cond.constantLong RX9 33 (-7046029254386353131) ∈ TW := w_965
theorem c_X9_35 : Cond.constantLong RX9 35 (-4417276706812531889) ∈ TW := w_966
theorem k_X7_50 : CallV RX7 50 RX7 μX7_playTurn 2 := ⟨w_967, w_969, w_30, w_107, w_970, ⟨qcl_8.1, qcl_8.2, qde_35⟩, Nat.le_of_ble_eq_true rfl⟩
theorem k_X7_72 : CallV RX7 72 RX1 μX1_result 4 := ⟨w_971, w_765, w_766, w_99, w_767, ⟨qcl_6.1, qcl_6.2, qde_20⟩, Nat.le_of_ble_eq_true rfl⟩
theorem k_X7_78 : CallV RX7 78 RX1 μX1_settle 5 := ⟨w_972, w_799, w_800, w_99, w_801, ⟨qcl_6.1, qcl_6.2, qde_23⟩, Nat.le_of_ble_eq_true rfl⟩
theorem k_X11_321 : CallV RX11 321 RX9 μX9_total 1 := ⟨w_973, w_974, w_975, w_105, w_976, ⟨qcl_9.1, qcl_9.2, qde_0⟩, Nat.le_of_ble_eq_true rfl⟩
theorem k_X9_55 : CallV RX9 55 RX9 μX9_skillIn 3 := ⟨w_977, w_978, w_979, w_105, w_980, ⟨qcl_9.1, qcl_9.2, qde_18⟩, Nat.le_of_ble_eq_true rfl⟩
theorem k_L_128 : CallV RL 128 RX11 μX11_mean 2 := ⟨w_981, w_982, w_983, w_97, w_984, ⟨qcl_0.1, qcl_0.2, qde_16⟩, Nat.le_of_ble_eq_true rfl⟩
theorem k_X11_323 : CallV RX11 323 RX7 μX7_loopSum 2 := ⟨w_985, w_986, w_987, w_107, w_988, ⟨qcl_8.1, qcl_8.2, qde_16⟩, Nat.le_of_ble_eq_true rfl⟩
theorem k_X7_85 : CallV RX7 85 RX9 μX9_skillIn 3 := ⟨w_989, w_978, w_979, w_105, w_980, ⟨qcl_9.1, qcl_9.2, qde_18⟩, Nat.le_of_ble_eq_true rfl⟩
theorem k_X11_326 : CallV RX11 326 RX11 μX11_tellFraction 2 := ⟨w_990, w_992, w_31, w_97, w_993, ⟨qcl_0.1, qcl_0.2, qde_26⟩, Nat.le_of_ble_eq_true rfl⟩
theorem k_L_132 : CallV RL 132 RX11 μX11_soon 3 := ⟨w_994, w_995, w_996, w_97, w_997, ⟨qcl_0.1, qcl_0.2, qde_18⟩, Nat.le_of_ble_eq_true rfl⟩
theorem k_X11_329 : CallV RX11 329 RX9 μX9_firstWith 3 := ⟨w_998, w_999, w_1000, w_105, w_1001, ⟨qcl_9.1, qcl_9.2, qde_18⟩, Nat.le_of_ble_eq_true rfl⟩
theorem k_L_136 : CallV RL 136 RX11 μX11_wins 3 := ⟨w_1002, w_1003, w_1004, w_97, w_1005, ⟨qcl_0.1, qcl_0.2, qde_18⟩, Nat.le_of_ble_eq_true rfl⟩
theorem k_X11_332 : CallV RX11 332 RX7 μX7_follow 5 := ⟨w_1006, w_1007, w_1008, w_107, w_1009, ⟨qcl_8.1, qcl_8.2, qde_36⟩, Nat.le_of_ble_eq_true rfl⟩
theorem k_X7_89 : CallV RX7 89 RX7 μX7_followGame 4 := ⟨w_1010, w_1012, w_32, w_107, w_1013, ⟨qcl_8.1, qcl_8.2, qde_37⟩, Nat.le_of_ble_eq_true rfl⟩
theorem k_X7_93 : CallV RX7 93 RX1 μX1_chance 3 := ⟨w_1014, w_830, w_831, w_99, w_832, ⟨qcl_6.1, qcl_6.2, qde_21⟩, Nat.le_of_ble_eq_true rfl⟩
theorem k_X11_343 : CallS RX11 343 μX11_allChances 1 := ⟨w_1015, w_1016, w_97, w_1017, ⟨qcl_0.1, qcl_0.2, qde_38⟩, Nat.le_of_ble_eq_true rfl⟩
theorem c_X11_353 : Cond.constantLong RX11 353 (100) ∈ TW := w_1018
theorem k_L_140 : CallV RL 140 RX11 μX11_hopes 1 := ⟨w_1019, w_1020, w_1021, w_97, w_1022, ⟨qcl_0.1, qcl_0.2, qde_0⟩, Nat.le_of_ble_eq_true rfl⟩
theorem k_X11_350 : MathOK RX11 350 Lib.Math.max.name Lib.Math.max.code := ⟨w_1023, w_660, w_111, w_661⟩
theorem k_L_144 : CallV RL 144 RX11 μX11_top 3 := ⟨w_1024, w_1025, w_1026, w_97, w_1027, ⟨qcl_0.1, qcl_0.2, qde_18⟩, Nat.le_of_ble_eq_true rfl⟩
theorem k_X11_355 : CallV RX11 355 RX6 μX6_explore 3 := ⟨w_1028, w_1029, w_1030, w_106, w_1031, ⟨qcl_10.1, qcl_10.2, qde_39⟩, Nat.le_of_ble_eq_true rfl⟩
theorem k_X6_41 : CallV RX6 41 RX8 μX8_copy 1 := ⟨w_1032, w_566, w_567, w_102, w_568, ⟨qcl_3.1, qcl_3.2, qde_4⟩, Nat.le_of_ble_eq_true rfl⟩
theorem k_X6_45 : CallV RX6 45 RX9 μX9_clear 0 := ⟨w_1033, w_950, w_951, w_105, w_952, ⟨qcl_9.1, qcl_9.2, qde_10⟩, Nat.le_of_ble_eq_true rfl⟩
theorem k_X6_48 : CallV RX6 48 RX9 μX9_putSkillsOf 1 := ⟨w_1034, w_954, w_955, w_105, w_956, ⟨qcl_9.1, qcl_9.2, qde_28⟩, Nat.le_of_ble_eq_true rfl⟩
theorem k_X6_55 : CallV RX6 55 RX6 μX6_expand 2 := ⟨w_1035, w_1037, w_33, w_106, w_1038, ⟨qcl_10.1, qcl_10.2, qde_40⟩, Nat.le_of_ble_eq_true rfl⟩
theorem k_X6_59 : CallV RX6 59 RX6 μX6_unpackAll 2 := ⟨w_1039, w_1041, w_34, w_106, w_1042, ⟨qcl_10.1, qcl_10.2, qde_41⟩, Nat.le_of_ble_eq_true rfl⟩
theorem k_X6_95 : CallV RX6 95 RX9 μX9_unpack 3 := ⟨w_1043, w_1044, w_1045, w_105, w_1046, ⟨qcl_9.1, qcl_9.2, qde_42⟩, Nat.le_of_ble_eq_true rfl⟩
theorem k_X9_59 : CallV RX9 59 RX8 μX8_putSkill 3 := ⟨w_1047, w_592, w_593, w_102, w_594, ⟨qcl_3.1, qcl_3.2, qde_8⟩, Nat.le_of_ble_eq_true rfl⟩
theorem k_X6_68 : CallV RX6 68 RX1 μX1_power 2 := ⟨w_1048, w_920, w_921, w_99, w_922, ⟨qcl_6.1, qcl_6.2, qde_31⟩, Nat.le_of_ble_eq_true rfl⟩
theorem k_X6_72 : CallV RX6 72 RX6 μX6_step 5 := ⟨w_1049, w_1051, w_35, w_106, w_1052, ⟨qcl_10.1, qcl_10.2, qde_43⟩, Nat.le_of_ble_eq_true rfl⟩
theorem k_X6_76 : CallV RX6 76 RX1 μX1_resultOf 1 := ⟨w_1053, w_795, w_796, w_99, w_797, ⟨qcl_6.1, qcl_6.2, qde_0⟩, Nat.le_of_ble_eq_true rfl⟩
theorem k_X6_80 : CallV RX6 80 RX1 μX1_settle 5 := ⟨w_1054, w_799, w_800, w_99, w_801, ⟨qcl_6.1, qcl_6.2, qde_23⟩, Nat.le_of_ble_eq_true rfl⟩
theorem k_X6_87 : CallV RX6 87 RX6 μX6_halfAfter 4 := ⟨w_1055, w_1057, w_36, w_106, w_1058, ⟨qcl_10.1, qcl_10.2, qde_44⟩, Nat.le_of_ble_eq_true rfl⟩
theorem k_X6_110 : CallS RX6 110 μX9_without 2 := ⟨w_1059, w_1060, w_105, w_1061, ⟨qcl_9.1, qcl_9.2, qde_45⟩, Nat.le_of_ble_eq_true rfl⟩
theorem c_X9_51 : Cond.constantLong RX9 51 (4095) ∈ TW := w_1062
theorem c_X9_53 : Cond.constantLong RX9 53 (-1) ∈ TW := w_1063
theorem k_X6_114 : CallS RX6 114 μX9_packed 2 := ⟨w_1064, w_958, w_105, w_959, ⟨qcl_9.1, qcl_9.2, qde_33⟩, Nat.le_of_ble_eq_true rfl⟩
theorem k_X6_91 : CallV RX6 91 RX9 μX9_put 2 := ⟨w_1065, w_962, w_963, w_105, w_964, ⟨qcl_9.1, qcl_9.2, qde_34⟩, Nat.le_of_ble_eq_true rfl⟩
theorem k_X11_360 : CallV RX11 360 RX11 μX11_tellWayTo 1 := ⟨w_1066, w_1068, w_37, w_97, w_1069, ⟨qcl_0.1, qcl_0.2, qde_0⟩, Nat.le_of_ble_eq_true rfl⟩
theorem k_X11_367 : CallV RX11 367 RX6 μX6_fillWay 2 := ⟨w_1070, w_1071, w_1072, w_106, w_1073, ⟨qcl_10.1, qcl_10.2, qde_46⟩, Nat.le_of_ble_eq_true rfl⟩
theorem k_L_148 : CallV RL 148 RX11 μX11_quick 1 := ⟨w_1074, w_1075, w_1076, w_97, w_1077, ⟨qcl_0.1, qcl_0.2, qde_0⟩, Nat.le_of_ble_eq_true rfl⟩
theorem k_X11_363 : CallV RX11 363 RX6 μX6_firstStrong 2 := ⟨w_1078, w_1079, w_1080, w_106, w_1081, ⟨qcl_10.1, qcl_10.2, qde_47⟩, Nat.le_of_ble_eq_true rfl⟩
theorem k_L_152 : CallV RL 152 RX11 μX11_best 2 := ⟨w_1082, w_1083, w_1084, w_97, w_1085, ⟨qcl_0.1, qcl_0.2, qde_16⟩, Nat.le_of_ble_eq_true rfl⟩
theorem k_X11_374 : CallV RX11 374 RX6 μX6_greatestPower 2 := ⟨w_1086, w_1087, w_1088, w_106, w_1089, ⟨qcl_10.1, qcl_10.2, qde_47⟩, Nat.le_of_ble_eq_true rfl⟩
theorem k_L_156 : CallV RL 156 RX11 μX11_even 1 := ⟨w_1090, w_1091, w_1092, w_97, w_1093, ⟨qcl_0.1, qcl_0.2, qde_0⟩, Nat.le_of_ble_eq_true rfl⟩
theorem k_X11_380 : CallV RX11 380 RX6 μX6_leastGap 1 := ⟨w_1094, w_1095, w_1096, w_106, w_1097, ⟨qcl_10.1, qcl_10.2, qde_48⟩, Nat.le_of_ble_eq_true rfl⟩
theorem k_X6_118 : CallV RX6 118 RX1 μX1_strongest 1 := ⟨w_1098, w_932, w_933, w_99, w_934, ⟨qcl_6.1, qcl_6.2, qde_28⟩, Nat.le_of_ble_eq_true rfl⟩
theorem k_X6_121 : CallV RX6 121 RX1 μX1_weakest 1 := ⟨w_1099, w_937, w_938, w_99, w_939, ⟨qcl_6.1, qcl_6.2, qde_28⟩, Nat.le_of_ble_eq_true rfl⟩
theorem k_L_160 : CallV RL 160 RX11 μX11_all 0 := ⟨w_1100, w_1101, w_1102, w_97, w_1103, ⟨qcl_0.1, qcl_0.2, qde_2⟩, Nat.le_of_ble_eq_true rfl⟩
theorem k_L_164 : CallV RL 164 RX11 μX11_next 1 := ⟨w_1104, w_1105, w_1106, w_97, w_1107, ⟨qcl_0.1, qcl_0.2, qde_0⟩, Nat.le_of_ble_eq_true rfl⟩
theorem k_X11_385 : CallV RX11 385 RX11 μX11_powerAfter 4 := ⟨w_1108, w_1110, w_38, w_97, w_1111, ⟨qcl_0.1, qcl_0.2, qde_49⟩, Nat.le_of_ble_eq_true rfl⟩
theorem k_X11_389 : CallV RX11 389 RX8 μX8_copySkills 2 := ⟨w_1112, w_1113, w_1114, w_102, w_1115, ⟨qcl_3.1, qcl_3.2, qde_50⟩, Nat.le_of_ble_eq_true rfl⟩
theorem k_X8_43 : CallV RX8 43 RX8 μX8_skillOf 2 := ⟨w_1116, w_713, w_714, w_102, w_715, ⟨qcl_3.1, qcl_3.2, qde_16⟩, Nat.le_of_ble_eq_true rfl⟩
theorem k_L_168 : CallV RL 168 RX11 μX11_seen 3 := ⟨w_1117, w_1118, w_1119, w_97, w_1120, ⟨qcl_0.1, qcl_0.2, qde_18⟩, Nat.le_of_ble_eq_true rfl⟩
theorem k_L_172 : CallV RL 172 RX11 μX11_found 0 := ⟨w_1121, w_1122, w_1123, w_97, w_1124, ⟨qcl_0.1, qcl_0.2, qde_2⟩, Nat.le_of_ble_eq_true rfl⟩
theorem k_X11_393 : CallV RX11 393 RX11 μX11_countThrowers 1 := ⟨w_1125, w_1127, w_39, w_97, w_1128, ⟨qcl_0.1, qcl_0.2, qde_7⟩, Nat.le_of_ble_eq_true rfl⟩
theorem k_X11_396 : CallS RX11 396 μJ6_bitCount 1 := ⟨w_1129, w_1130, w_116, w_1131, ⟨qcl_11.1, qcl_11.2, qde_0⟩, Nat.le_of_ble_eq_true rfl⟩
theorem c_J6_265 : Cond.constant "java/lang/Integer" 265 (1431655765) ∈ TW := w_1132
theorem c_J6_266 : Cond.constant "java/lang/Integer" 266 (858993459) ∈ TW := w_1133
theorem c_J6_267 : Cond.constant "java/lang/Integer" 267 (252645135) ∈ TW := w_1134
theorem c_X11_401 : Cond.constantLong RX11 401 (-1) ∈ TW := w_1135
theorem k_L_176 : CallV RL 176 RX11 μX11_prize 0 := ⟨w_1136, w_1137, w_1138, w_97, w_1139, ⟨qcl_0.1, qcl_0.2, qde_2⟩, Nat.le_of_ble_eq_true rfl⟩
theorem k_L_180 : CallV RL 180 RX11 μX11_pays 2 := ⟨w_1140, w_1141, w_1142, w_97, w_1143, ⟨qcl_0.1, qcl_0.2, qde_16⟩, Nat.le_of_ble_eq_true rfl⟩
theorem k_X11_403 : CallV RX11 403 RX11 μX11_playAhead 1 := ⟨w_1144, w_1146, w_40, w_97, w_1147, ⟨qcl_0.1, qcl_0.2, qde_7⟩, Nat.le_of_ble_eq_true rfl⟩
theorem k_L_184 : CallV RL 184 RX11 μX11_laws 1 := ⟨w_1148, w_1149, w_1150, w_97, w_1151, ⟨qcl_0.1, qcl_0.2, qde_0⟩, Nat.le_of_ble_eq_true rfl⟩
theorem k_L_188 : CallV RL 188 RX11 μX11_seed 1 := ⟨w_1152, w_1153, w_1154, w_97, w_1155, ⟨qcl_0.1, qcl_0.2, qde_0⟩, Nat.le_of_ble_eq_true rfl⟩
theorem k_L_192 : CallV RL 192 RX11 μX11_keep 1 := ⟨w_1156, w_1157, w_1158, w_97, w_1159, ⟨qcl_0.1, qcl_0.2, qde_1⟩, Nat.le_of_ble_eq_true rfl⟩
theorem k_X11_409 : CallV RX11 409 RX0 μX0_store 3 := ⟨w_1160, w_1161, w_1162, w_108, w_1163, ⟨qcl_12.1, qcl_12.2, qde_51⟩, Nat.le_of_ble_eq_true rfl⟩
theorem k_X0_33 : CallV RX0 33 RX8 μX8_copy 1 := ⟨w_1164, w_566, w_567, w_102, w_568, ⟨qcl_3.1, qcl_3.2, qde_4⟩, Nat.le_of_ble_eq_true rfl⟩
theorem k_X0_41 : CopyOK RX0 41 := ⟨w_1165, w_571, w_570, w_110⟩
theorem k_L_196 : CallV RL 196 RX11 μX11_again 1 := ⟨w_1166, w_1167, w_1168, w_97, w_1169, ⟨qcl_0.1, qcl_0.2, qde_1⟩, Nat.le_of_ble_eq_true rfl⟩
theorem k_X11_413 : CallV RX11 413 RX0 μX0_restore 2 := ⟨w_1170, w_1171, w_1172, w_108, w_1173, ⟨qcl_12.1, qcl_12.2, qde_9⟩, Nat.le_of_ble_eq_true rfl⟩
theorem k_L_200 : CallV RL 200 RX11 μX11_count 1 := ⟨w_1174, w_1175, w_1176, w_97, w_1177, ⟨qcl_0.1, qcl_0.2, qde_0⟩, Nat.le_of_ble_eq_true rfl⟩
theorem k_L_7 : CallV RL 7 RX11 μX11_of 2 := ⟨w_1182, w_1183, w_1184, w_97, w_1185, ⟨qcl_0.1, qcl_0.2, qde_16⟩, Nat.le_of_ble_eq_true rfl⟩
theorem k_X11_187 : CallV RX11 187 RX1 μX1_isIll 1 := ⟨w_1247, w_815, w_816, w_99, w_817, ⟨qcl_6.1, qcl_6.2, qde_1⟩, Nat.le_of_ble_eq_true rfl⟩
theorem k_L_15 : CallV RL 15 RX11 μX11_row 1 := ⟨w_1251, w_1252, w_1253, w_97, w_1254, ⟨qcl_0.1, qcl_0.2, qde_38⟩, Nat.le_of_ble_eq_true rfl⟩
theorem f_X12_9 : FldOK RX12 RX12 TX12 57 12 0 9 := ⟨tX12, rfl, by decide, rfl, w_1261⟩
theorem f_X12_116 : FldOK RX12 RX12 TX12 57 12 1 116 := ⟨tX12, rfl, by decide, rfl, w_1262⟩
theorem f_X12_13 : FldOK RX12 RX12 TX12 57 12 2 13 := ⟨tX12, rfl, by decide, rfl, w_1263⟩
theorem f_X12_17 : FldOK RX12 RX12 TX12 57 12 3 17 := ⟨tX12, rfl, by decide, rfl, w_1264⟩
theorem f_X12_21 : FldOK RX12 RX12 TX12 57 12 4 21 := ⟨tX12, rfl, by decide, rfl, w_1265⟩
theorem f_X12_24 : FldOK RX12 RX12 TX12 57 12 5 24 := ⟨tX12, rfl, by decide, rfl, w_1266⟩
theorem f_X12_27 : FldOK RX12 RX12 TX12 57 12 6 27 := ⟨tX12, rfl, by decide, rfl, w_1267⟩
theorem f_X12_30 : FldOK RX12 RX12 TX12 57 12 7 30 := ⟨tX12, rfl, by decide, rfl, w_1268⟩
theorem f_X12_33 : FldOK RX12 RX12 TX12 57 12 8 33 := ⟨tX12, rfl, by decide, rfl, w_1269⟩
theorem f_X12_36 : FldOK RX12 RX12 TX12 57 12 9 36 := ⟨tX12, rfl, by decide, rfl, w_1270⟩
theorem f_X12_181 : FldOK RX12 RX12 TX12 57 12 10 181 := ⟨tX12, rfl, by decide, rfl, w_1271⟩
theorem f_X12_184 : FldOK RX12 RX12 TX12 57 12 11 184 := ⟨tX12, rfl, by decide, rfl, w_1272⟩
theorem f_X12_187 : FldOK RX12 RX12 TX12 57 12 12 187 := ⟨tX12, rfl, by decide, rfl, w_1273⟩
theorem f_X12_39 : FldOK RX12 RX12 TX12 57 12 13 39 := ⟨tX12, rfl, by decide, rfl, w_1274⟩
theorem f_X12_135 : FldOK RX12 RX12 TX12 57 12 14 135 := ⟨tX12, rfl, by decide, rfl, w_1275⟩
theorem f_X12_43 : FldOK RX12 RX12 TX12 57 12 15 43 := ⟨tX12, rfl, by decide, rfl, w_1276⟩
theorem f_X12_113 : FldOK RX12 RX12 TX12 57 12 16 113 := ⟨tX12, rfl, by decide, rfl, w_1277⟩
theorem f_X12_110 : FldOK RX12 RX12 TX12 57 12 17 110 := ⟨tX12, rfl, by decide, rfl, w_1278⟩
theorem f_X12_138 : FldOK RX12 RX12 TX12 57 12 18 138 := ⟨tX12, rfl, by decide, rfl, w_1279⟩
theorem f_X12_141 : FldOK RX12 RX12 TX12 57 12 19 141 := ⟨tX12, rfl, by decide, rfl, w_1280⟩
theorem f_X12_144 : FldOK RX12 RX12 TX12 57 12 20 144 := ⟨tX12, rfl, by decide, rfl, w_1281⟩
theorem f_X12_147 : FldOK RX12 RX12 TX12 57 12 21 147 := ⟨tX12, rfl, by decide, rfl, w_1282⟩
theorem f_X12_150 : FldOK RX12 RX12 TX12 57 12 22 150 := ⟨tX12, rfl, by decide, rfl, w_1283⟩
theorem f_X12_47 : FldOK RX12 RX12 TX12 57 12 23 47 := ⟨tX12, rfl, by decide, rfl, w_1284⟩
theorem f_X12_50 : FldOK RX12 RX12 TX12 57 12 24 50 := ⟨tX12, rfl, by decide, rfl, w_1285⟩
theorem f_X12_53 : FldOK RX12 RX12 TX12 57 12 25 53 := ⟨tX12, rfl, by decide, rfl, w_1286⟩
theorem f_X12_56 : FldOK RX12 RX12 TX12 57 12 26 56 := ⟨tX12, rfl, by decide, rfl, w_1287⟩
theorem f_X12_247 : FldOK RX12 RX12 TX12 57 12 27 247 := ⟨tX12, rfl, by decide, rfl, w_1288⟩
theorem f_X12_59 : FldOK RX12 RX12 TX12 57 12 28 59 := ⟨tX12, rfl, by decide, rfl, w_1289⟩
theorem f_X12_62 : FldOK RX12 RX12 TX12 57 12 29 62 := ⟨tX12, rfl, by decide, rfl, w_1290⟩
theorem f_X12_196 : FldOK RX12 RX12 TX12 57 12 30 196 := ⟨tX12, rfl, by decide, rfl, w_1291⟩
theorem f_X12_65 : FldOK RX12 RX12 TX12 57 12 31 65 := ⟨tX12, rfl, by decide, rfl, w_1292⟩
theorem f_X12_308 : FldOK RX12 RX12 TX12 57 12 32 308 := ⟨tX12, rfl, by decide, rfl, w_1293⟩
theorem f_X12_311 : FldOK RX12 RX12 TX12 57 12 33 311 := ⟨tX12, rfl, by decide, rfl, w_1294⟩
theorem f_X12_323 : FldOK RX12 RX12 TX12 57 12 34 323 := ⟨tX12, rfl, by decide, rfl, w_1295⟩
theorem f_X12_326 : FldOK RX12 RX12 TX12 57 12 35 326 := ⟨tX12, rfl, by decide, rfl, w_1296⟩
theorem f_X12_68 : FldOK RX12 RX12 TX12 57 12 36 68 := ⟨tX12, rfl, by decide, rfl, w_1297⟩
theorem f_X12_71 : FldOK RX12 RX12 TX12 57 12 37 71 := ⟨tX12, rfl, by decide, rfl, w_1298⟩
theorem f_X12_74 : FldOK RX12 RX12 TX12 57 12 38 74 := ⟨tX12, rfl, by decide, rfl, w_1299⟩
theorem f_X12_77 : FldOK RX12 RX12 TX12 57 12 39 77 := ⟨tX12, rfl, by decide, rfl, w_1300⟩
theorem f_X12_80 : FldOK RX12 RX12 TX12 57 12 40 80 := ⟨tX12, rfl, by decide, rfl, w_1301⟩
theorem f_X12_83 : FldOK RX12 RX12 TX12 57 12 41 83 := ⟨tX12, rfl, by decide, rfl, w_1302⟩
theorem f_X12_86 : FldOK RX12 RX12 TX12 57 12 42 86 := ⟨tX12, rfl, by decide, rfl, w_1303⟩
theorem f_X12_341 : FldOK RX12 RX12 TX12 57 12 43 341 := ⟨tX12, rfl, by decide, rfl, w_1304⟩
theorem f_X12_89 : FldOK RX12 RX12 TX12 57 12 44 89 := ⟨tX12, rfl, by decide, rfl, w_1305⟩
theorem f_X12_365 : FldOK RX12 RX12 TX12 57 12 45 365 := ⟨tX12, rfl, by decide, rfl, w_1306⟩
theorem f_X12_368 : FldOK RX12 RX12 TX12 57 12 46 368 := ⟨tX12, rfl, by decide, rfl, w_1307⟩
theorem f_X12_92 : FldOK RX12 RX12 TX12 57 12 47 92 := ⟨tX12, rfl, by decide, rfl, w_1308⟩
theorem f_X12_397 : FldOK RX12 RX12 TX12 57 12 48 397 := ⟨tX12, rfl, by decide, rfl, w_1309⟩
theorem f_X12_400 : FldOK RX12 RX12 TX12 57 12 49 400 := ⟨tX12, rfl, by decide, rfl, w_1310⟩
theorem f_X12_95 : FldOK RX12 RX12 TX12 57 12 50 95 := ⟨tX12, rfl, by decide, rfl, w_1311⟩
theorem f_X12_98 : FldOK RX12 RX12 TX12 57 12 51 98 := ⟨tX12, rfl, by decide, rfl, w_1312⟩
theorem f_X12_190 : FldOK RX12 RX12 TX12 57 12 52 190 := ⟨tX12, rfl, by decide, rfl, w_1313⟩
theorem f_X12_193 : FldOK RX12 RX12 TX12 57 12 53 193 := ⟨tX12, rfl, by decide, rfl, w_1314⟩
theorem f_X12_101 : FldOK RX12 RX12 TX12 57 12 54 101 := ⟨tX12, rfl, by decide, rfl, w_1315⟩
theorem f_X12_104 : FldOK RX12 RX12 TX12 57 12 55 104 := ⟨tX12, rfl, by decide, rfl, w_1316⟩
theorem f_X12_107 : FldOK RX12 RX12 TX12 57 12 56 107 := ⟨tX12, rfl, by decide, rfl, w_1317⟩
theorem k_L_27 : CallV RL 27 RX12 μX12_sign 1 := ⟨w_1434, w_1435, w_1436, w_109, w_1437, ⟨qcl_13.1, qcl_13.2, qde_0⟩, Nat.le_of_ble_eq_true rfl⟩
theorem k_L_32 : CallV RL 32 RX12 μX12_end 1 := ⟨w_1438, w_1439, w_1440, w_109, w_1441, ⟨qcl_13.1, qcl_13.2, qde_1⟩, Nat.le_of_ble_eq_true rfl⟩
theorem k_X12_119 : CallS RX12 119 μX12_in 3 := ⟨w_1442, w_1443, w_109, w_1444, ⟨qcl_13.1, qcl_13.2, qde_52⟩, Nat.le_of_ble_eq_true rfl⟩
theorem k_L_37 : CallV RL 37 RX12 μX12_league 0 := ⟨w_1445, w_1446, w_1447, w_109, w_1448, ⟨qcl_13.1, qcl_13.2, qde_2⟩, Nat.le_of_ble_eq_true rfl⟩
theorem k_X12_173 : CallV RX12 173 RX12 μX12_begin 3 := ⟨w_1449, w_1451, w_42, w_109, w_1452, ⟨qcl_13.1, qcl_13.2, qde_53⟩, Nat.le_of_ble_eq_true rfl⟩
theorem k_X12_153 : CallV RX12 153 RX12 μX12_fine 0 := ⟨w_1453, w_1455, w_43, w_109, w_1456, ⟨qcl_13.1, qcl_13.2, qde_6⟩, Nat.le_of_ble_eq_true rfl⟩
theorem k_X12_161 : CallV RX12 161 RX12 μX12_passes 1 := ⟨w_1457, w_1459, w_44, w_109, w_1460, ⟨qcl_13.1, qcl_13.2, qde_5⟩, Nat.le_of_ble_eq_true rfl⟩
theorem k_X12_157 : CallV RX12 157 RX12 μX12_here 0 := ⟨w_1461, w_1463, w_45, w_109, w_1464, ⟨qcl_13.1, qcl_13.2, qde_2⟩, Nat.le_of_ble_eq_true rfl⟩
theorem k_X12_177 : CallV RX12 177 RX12 μX12_digit 2 := ⟨w_1465, w_1467, w_46, w_109, w_1468, ⟨qcl_13.1, qcl_13.2, qde_16⟩, Nat.le_of_ble_eq_true rfl⟩
theorem k_X12_165 : CallV RX12 165 RX12 μX12_fault 1 := ⟨w_1469, w_1471, w_47, w_109, w_1472, ⟨qcl_13.1, qcl_13.2, qde_7⟩, Nat.le_of_ble_eq_true rfl⟩
theorem k_L_45 : CallV RL 45 RX12 μX12_plan 0 := ⟨w_1473, w_1474, w_1475, w_109, w_1476, ⟨qcl_13.1, qcl_13.2, qde_2⟩, Nat.le_of_ble_eq_true rfl⟩
theorem k_X12_199 : CallV RX12 199 RX12 μX12_side 1 := ⟨w_1477, w_1479, w_48, w_109, w_1480, ⟨qcl_13.1, qcl_13.2, qde_0⟩, Nat.le_of_ble_eq_true rfl⟩
theorem k_X12_123 : CallV RX12 123 RX12 μX12_isSide 1 := ⟨w_1481, w_1483, w_49, w_109, w_1484, ⟨qcl_13.1, qcl_13.2, qde_1⟩, Nat.le_of_ble_eq_true rfl⟩
theorem k_X12_207 : CallS RX12 207 μX12_has 2 := ⟨w_1485, w_1486, w_109, w_1487, ⟨qcl_13.1, qcl_13.2, qde_14⟩, Nat.le_of_ble_eq_true rfl⟩
theorem k_X12_203 : CallV RX12 203 RX12 μX12_need 1 := ⟨w_1488, w_1490, w_50, w_109, w_1491, ⟨qcl_13.1, qcl_13.2, qde_54⟩, Nat.le_of_ble_eq_true rfl⟩
theorem k_L_41 : CallV RL 41 RX12 μX12_rule 0 := ⟨w_1492, w_1493, w_1494, w_109, w_1495, ⟨qcl_13.1, qcl_13.2, qde_2⟩, Nat.le_of_ble_eq_true rfl⟩
theorem k_X12_220 : CallV RX12 220 RX12 μX12_held 1 := ⟨w_1496, w_1498, w_51, w_109, w_1499, ⟨qcl_13.1, qcl_13.2, qde_0⟩, Nat.le_of_ble_eq_true rfl⟩
theorem k_X12_211 : CallV RX12 211 RX12 μX12_sum 1 := ⟨w_1500, w_1502, w_52, w_109, w_1503, ⟨qcl_13.1, qcl_13.2, qde_0⟩, Nat.le_of_ble_eq_true rfl⟩
theorem k_X12_214 : CallV RX12 214 RX12 μX12_product 1 := ⟨w_1504, w_1506, w_53, w_109, w_1507, ⟨qcl_13.1, qcl_13.2, qde_0⟩, Nat.le_of_ble_eq_true rfl⟩
theorem k_X12_217 : CallV RX12 217 RX12 μX12_thing 1 := ⟨w_1508, w_1510, w_54, w_109, w_1511, ⟨qcl_13.1, qcl_13.2, qde_0⟩, Nat.le_of_ble_eq_true rfl⟩
theorem c_X12_169 : Cond.constantLong RX12 169 (48) ∈ TW := w_1512
theorem c_X12_171 : Cond.constantLong RX12 171 (57) ∈ TW := w_1513
theorem k_X12_223 : CallV RX12 223 RX12 μX12_number 1 := ⟨w_1514, w_1516, w_55, w_109, w_1517, ⟨qcl_13.1, qcl_13.2, qde_0⟩, Nat.le_of_ble_eq_true rfl⟩
theorem c_X12_226 : Cond.constantLong RX12 226 (97) ∈ TW := w_1518
theorem c_X12_228 : Cond.constantLong RX12 228 (100) ∈ TW := w_1519
theorem k_X12_230 : CallV RX12 230 RX12 μX12_letter 1 := ⟨w_1520, w_1522, w_56, w_109, w_1523, ⟨qcl_13.1, qcl_13.2, qde_0⟩, Nat.le_of_ble_eq_true rfl⟩
theorem k_X12_233 : MathOK RX12 233 Lib.Math.max.name Lib.Math.max.code := ⟨w_1524, w_660, w_111, w_661⟩
theorem k_X12_238 : MathOK RX12 238 Lib.Math.min.name Lib.Math.min.code := ⟨w_1525, w_573, w_111, w_574⟩
theorem k_X12_241 : CallV RX12 241 RX12 μX12_sumOf 1 := ⟨w_1526, w_1528, w_57, w_109, w_1529, ⟨qcl_13.1, qcl_13.2, qde_0⟩, Nat.le_of_ble_eq_true rfl⟩
theorem k_X12_244 : CallV RX12 244 RX12 μX12_isArt 1 := ⟨w_1530, w_1532, w_58, w_109, w_1533, ⟨qcl_13.1, qcl_13.2, qde_1⟩, Nat.le_of_ble_eq_true rfl⟩
theorem k_L_49 : CallV RL 49 RX12 μX12_skill 2 := ⟨w_1534, w_1535, w_1536, w_109, w_1537, ⟨qcl_13.1, qcl_13.2, qde_16⟩, Nat.le_of_ble_eq_true rfl⟩
theorem k_L_55 : CallV RL 55 RX12 μX12_of 2 := ⟨w_1538, w_1539, w_1540, w_109, w_1541, ⟨qcl_13.1, qcl_13.2, qde_16⟩, Nat.le_of_ble_eq_true rfl⟩
theorem c_X12_250 : Cond.constantLong RX12 250 (4) ∈ TW := w_1542
theorem k_X12_252 : CallV RX12 252 RX12 μX12_lost 0 := ⟨w_1543, w_1545, w_59, w_109, w_1546, ⟨qcl_13.1, qcl_13.2, qde_2⟩, Nat.le_of_ble_eq_true rfl⟩
theorem k_X12_255 : CallV RX12 255 RX12 μX12_power 1 := ⟨w_1547, w_1549, w_60, w_109, w_1550, ⟨qcl_13.1, qcl_13.2, qde_0⟩, Nat.le_of_ble_eq_true rfl⟩
theorem k_L_59 : CallV RL 59 RX12 μX12_law 2 := ⟨w_1551, w_1552, w_1553, w_109, w_1554, ⟨qcl_13.1, qcl_13.2, qde_16⟩, Nat.le_of_ble_eq_true rfl⟩
theorem k_L_64 : CallV RL 64 RX12 μX12_sheet 5 := ⟨w_1555, w_1556, w_1557, w_109, w_1558, ⟨qcl_13.1, qcl_13.2, qde_17⟩, Nat.le_of_ble_eq_true rfl⟩
theorem c_X12_258 : Cond.constantLong RX12 258 (3) ∈ TW := w_1559
theorem k_L_69 : CallV RL 69 RX12 μX12_ill 2 := ⟨w_1560, w_1561, w_1562, w_109, w_1563, ⟨qcl_13.1, qcl_13.2, qde_19⟩, Nat.le_of_ble_eq_true rfl⟩
theorem k_L_83 : CallV RL 83 RX12 μX12_game 3 := ⟨w_1564, w_1565, w_1566, w_109, w_1567, ⟨qcl_13.1, qcl_13.2, qde_18⟩, Nat.le_of_ble_eq_true rfl⟩
theorem k_X12_267 : CallV RX12 267 RX12 μX12_areTwo 2 := ⟨w_1568, w_1570, w_61, w_109, w_1571, ⟨qcl_13.1, qcl_13.2, qde_14⟩, Nat.le_of_ble_eq_true rfl⟩
theorem k_X12_270 : CallS RX12 270 μX12_isThrown 1 := ⟨w_1572, w_1573, w_109, w_1574, ⟨qcl_13.1, qcl_13.2, qde_1⟩, Nat.le_of_ble_eq_true rfl⟩
theorem k_X12_273 : CallV RX12 273 RX12 μX12_winner 3 := ⟨w_1575, w_1577, w_62, w_109, w_1578, ⟨qcl_13.1, qcl_13.2, qde_18⟩, Nat.le_of_ble_eq_true rfl⟩
theorem k_X12_260 : CallV RX12 260 RX12 μX12_artOf 2 := ⟨w_1579, w_1581, w_63, w_109, w_1582, ⟨qcl_13.1, qcl_13.2, qde_16⟩, Nat.le_of_ble_eq_true rfl⟩
theorem k_X12_263 : CallV RX12 263 RX12 μX12_gainOf 3 := ⟨w_1583, w_1585, w_64, w_109, w_1586, ⟨qcl_13.1, qcl_13.2, qde_18⟩, Nat.le_of_ble_eq_true rfl⟩
theorem k_X12_131 : CallV RX12 131 RX12 μX12_tell 1 := ⟨w_1587, w_1589, w_65, w_109, w_1590, ⟨qcl_13.1, qcl_13.2, qde_29⟩, Nat.le_of_ble_eq_true rfl⟩
theorem k_L_87 : CallV RL 87 RX12 μX12_odds 2 := ⟨w_1591, w_1592, w_1593, w_109, w_1594, ⟨qcl_13.1, qcl_13.2, qde_16⟩, Nat.le_of_ble_eq_true rfl⟩
theorem k_X12_276 : CallV RX12 276 RX12 μX12_chanceOf 2 := ⟨w_1595, w_1597, w_66, w_109, w_1598, ⟨qcl_13.1, qcl_13.2, qde_16⟩, Nat.le_of_ble_eq_true rfl⟩
theorem k_L_91 : CallV RL 91 RX12 μX12_play 3 := ⟨w_1599, w_1600, w_1601, w_109, w_1602, ⟨qcl_13.1, qcl_13.2, qde_18⟩, Nat.le_of_ble_eq_true rfl⟩
theorem k_X12_295 : CallV RX12 295 RX12 μX12_remember 0 := ⟨w_1603, w_1605, w_67, w_109, w_1606, ⟨qcl_13.1, qcl_13.2, qde_10⟩, Nat.le_of_ble_eq_true rfl⟩
theorem k_X12_291 : CallV RX12 291 RX12 μX12_lay 2 := ⟨w_1607, w_1609, w_68, w_109, w_1610, ⟨qcl_13.1, qcl_13.2, qde_55⟩, Nat.le_of_ble_eq_true rfl⟩
theorem k_X12_298 : CallV RX12 298 RX12 μX12_goGame 4 := ⟨w_1611, w_1613, w_69, w_109, w_1614, ⟨qcl_13.1, qcl_13.2, qde_56⟩, Nat.le_of_ble_eq_true rfl⟩
theorem k_X12_284 : CallV RX12 284 RX12 μX12_drawHundred 0 := ⟨w_1615, w_1617, w_70, w_109, w_1618, ⟨qcl_13.1, qcl_13.2, qde_2⟩, Nat.le_of_ble_eq_true rfl⟩
theorem c_X12_283 : Cond.constant RX12 283 (1103515245) ∈ TW := w_1619
theorem k_X12_287 : CallV RX12 287 RX12 μX12_settle 4 := ⟨w_1620, w_1622, w_71, w_109, w_1623, ⟨qcl_13.1, qcl_13.2, qde_57⟩, Nat.le_of_ble_eq_true rfl⟩
theorem k_X12_279 : CallV RX12 279 RX12 μX12_teach 2 := ⟨w_1624, w_1626, w_72, w_109, w_1627, ⟨qcl_13.1, qcl_13.2, qde_58⟩, Nat.le_of_ble_eq_true rfl⟩
theorem k_L_95 : CallV RL 95 RX12 μX12_undo 0 := ⟨w_1628, w_1629, w_1630, w_109, w_1631, ⟨qcl_13.1, qcl_13.2, qde_2⟩, Nat.le_of_ble_eq_true rfl⟩
theorem k_X12_302 : CallV RX12 302 RX12 μX12_bring 2 := ⟨w_1632, w_1634, w_73, w_109, w_1635, ⟨qcl_13.1, qcl_13.2, qde_55⟩, Nat.le_of_ble_eq_true rfl⟩
theorem k_L_99 : CallV RL 99 RX12 μX12_judge 2 := ⟨w_1636, w_1637, w_1638, w_109, w_1639, ⟨qcl_13.1, qcl_13.2, qde_16⟩, Nat.le_of_ble_eq_true rfl⟩
theorem k_X12_305 : CallV RX12 305 RX12 μX12_sumOfAll 0 := ⟨w_1640, w_1642, w_74, w_109, w_1643, ⟨qcl_13.1, qcl_13.2, qde_2⟩, Nat.le_of_ble_eq_true rfl⟩
theorem k_L_103 : CallV RL 103 RX12 μX12_rounds 1 := ⟨w_1644, w_1645, w_1646, w_109, w_1647, ⟨qcl_13.1, qcl_13.2, qde_0⟩, Nat.le_of_ble_eq_true rfl⟩
theorem c_X12_314 : Cond.constantLong RX12 314 (200) ∈ TW := w_1648
theorem k_X12_316 : CallV RX12 316 RX12 μX12_goRounds 4 := ⟨w_1649, w_1651, w_75, w_109, w_1652, ⟨qcl_13.1, qcl_13.2, qde_59⟩, Nat.le_of_ble_eq_true rfl⟩
theorem k_L_119 : CallV RL 119 RX12 μX12_table 0 := ⟨w_1653, w_1654, w_1655, w_109, w_1656, ⟨qcl_13.1, qcl_13.2, qde_2⟩, Nat.le_of_ble_eq_true rfl⟩
theorem k_X12_320 : CallV RX12 320 RX12 μX12_isAhead 2 := ⟨w_1657, w_1659, w_76, w_109, w_1660, ⟨qcl_13.1, qcl_13.2, qde_14⟩, Nat.le_of_ble_eq_true rfl⟩
theorem k_L_123 : CallV RL 123 RX12 μX12_spread 0 := ⟨w_1661, w_1662, w_1663, w_109, w_1664, ⟨qcl_13.1, qcl_13.2, qde_2⟩, Nat.le_of_ble_eq_true rfl⟩
theorem k_X12_329 : CallV RX12 329 RX12 μX12_spreadNow 0 := ⟨w_1665, w_1667, w_77, w_109, w_1668, ⟨qcl_13.1, qcl_13.2, qde_2⟩, Nat.le_of_ble_eq_true rfl⟩
theorem k_L_74 : CallV RL 74 RX12 μX12_swap 2 := ⟨w_1669, w_1670, w_1671, w_109, w_1672, ⟨qcl_13.1, qcl_13.2, qde_14⟩, Nat.le_of_ble_eq_true rfl⟩
theorem k_L_78 : CallV RL 78 RX12 μX12_circle 0 := ⟨w_1673, w_1674, w_1675, w_109, w_1676, ⟨qcl_13.1, qcl_13.2, qde_2⟩, Nat.le_of_ble_eq_true rfl⟩
theorem k_L_107 : CallV RL 107 RX12 μX12_beats 1 := ⟨w_1677, w_1678, w_1679, w_109, w_1680, ⟨qcl_13.1, qcl_13.2, qde_0⟩, Nat.le_of_ble_eq_true rfl⟩
theorem k_X12_332 : CallV RX12 332 RX12 μX12_beatenBy 1 := ⟨w_1681, w_1683, w_78, w_109, w_1684, ⟨qcl_13.1, qcl_13.2, qde_0⟩, Nat.le_of_ble_eq_true rfl⟩
theorem k_L_111 : CallV RL 111 RX12 μX12_kings 0 := ⟨w_1685, w_1686, w_1687, w_109, w_1688, ⟨qcl_13.1, qcl_13.2, qde_2⟩, Nat.le_of_ble_eq_true rfl⟩
theorem k_L_115 : CallV RL 115 RX12 μX12_master 1 := ⟨w_1689, w_1690, w_1691, w_109, w_1692, ⟨qcl_13.1, qcl_13.2, qde_0⟩, Nat.le_of_ble_eq_true rfl⟩
theorem k_L_127 : CallV RL 127 RX12 μX12_rest 0 := ⟨w_1693, w_1694, w_1695, w_109, w_1696, ⟨qcl_13.1, qcl_13.2, qde_2⟩, Nat.le_of_ble_eq_true rfl⟩
theorem k_X12_371 : CallV RX12 371 RX12 μX12_findRest 0 := ⟨w_1697, w_1699, w_79, w_109, w_1700, ⟨qcl_13.1, qcl_13.2, qde_6⟩, Nat.le_of_ble_eq_true rfl⟩
theorem k_X12_356 : CallV RX12 356 RX12 μX12_clearStates 0 := ⟨w_1701, w_1703, w_80, w_109, w_1704, ⟨qcl_13.1, qcl_13.2, qde_10⟩, Nat.le_of_ble_eq_true rfl⟩
theorem k_X12_359 : CallV RX12 359 RX12 μX12_stateNow 3 := ⟨w_1705, w_1707, w_81, w_109, w_1708, ⟨qcl_13.1, qcl_13.2, qde_18⟩, Nat.le_of_ble_eq_true rfl⟩
theorem k_X12_344 : CallV RX12 344 RX12 μX12_half 1 := ⟨w_1709, w_1711, w_82, w_109, w_1712, ⟨qcl_13.1, qcl_13.2, qde_38⟩, Nat.le_of_ble_eq_true rfl⟩
theorem k_X12_348 : CallV RX12 348 RX12 μX12_slot 2 := ⟨w_1713, w_1715, w_83, w_109, w_1716, ⟨qcl_13.1, qcl_13.2, qde_34⟩, Nat.le_of_ble_eq_true rfl⟩
theorem c_X12_337 : Cond.constantLong RX12 337 (-7046029254386353131) ∈ TW := w_1717
theorem c_X12_339 : Cond.constantLong RX12 339 (-4417276706812531889) ∈ TW := w_1718
theorem k_X12_362 : CallV RX12 362 RX12 μX12_goTurn 0 := ⟨w_1719, w_1721, w_84, w_109, w_1722, ⟨qcl_13.1, qcl_13.2, qde_10⟩, Nat.le_of_ble_eq_true rfl⟩
theorem k_X12_352 : CallV RX12 352 RX12 μX12_goQuiet 3 := ⟨w_1723, w_1725, w_85, w_109, w_1726, ⟨qcl_13.1, qcl_13.2, qde_8⟩, Nat.le_of_ble_eq_true rfl⟩
theorem k_X12_374 : CallV RX12 374 RX12 μX12_load 1 := ⟨w_1727, w_1729, w_86, w_109, w_1730, ⟨qcl_13.1, qcl_13.2, qde_7⟩, Nat.le_of_ble_eq_true rfl⟩
theorem c_X12_335 : Cond.constantLong RX12 335 (7) ∈ TW := w_1731
theorem k_L_131 : CallV RL 131 RX12 μX12_mean 2 := ⟨w_1732, w_1733, w_1734, w_109, w_1735, ⟨qcl_13.1, qcl_13.2, qde_16⟩, Nat.le_of_ble_eq_true rfl⟩
theorem k_X12_377 : CallV RX12 377 RX12 μX12_skillIn 3 := ⟨w_1736, w_1738, w_87, w_109, w_1739, ⟨qcl_13.1, qcl_13.2, qde_18⟩, Nat.le_of_ble_eq_true rfl⟩
theorem k_X12_380 : CallV RX12 380 RX12 μX12_tellPart 2 := ⟨w_1740, w_1742, w_88, w_109, w_1743, ⟨qcl_13.1, qcl_13.2, qde_26⟩, Nat.le_of_ble_eq_true rfl⟩
theorem k_X12_127 : CallS RX12 127 μX12_common 2 := ⟨w_1744, w_1745, w_109, w_1746, ⟨qcl_13.1, qcl_13.2, qde_60⟩, Nat.le_of_ble_eq_true rfl⟩
theorem k_L_135 : CallV RL 135 RX12 μX12_soon 3 := ⟨w_1747, w_1748, w_1749, w_109, w_1750, ⟨qcl_13.1, qcl_13.2, qde_18⟩, Nat.le_of_ble_eq_true rfl⟩
theorem k_L_139 : CallV RL 139 RX12 μX12_wins 3 := ⟨w_1751, w_1752, w_1753, w_109, w_1754, ⟨qcl_13.1, qcl_13.2, qde_18⟩, Nat.le_of_ble_eq_true rfl⟩
theorem c_X12_392 : Cond.constantLong RX12 392 (6) ∈ TW := w_1755
theorem k_X12_388 : CallV RX12 388 RX12 μX12_chanceOfWins 4 := ⟨w_1756, w_1758, w_89, w_109, w_1759, ⟨qcl_13.1, qcl_13.2, qde_61⟩, Nat.le_of_ble_eq_true rfl⟩
theorem k_X12_384 : CallV RX12 384 RX12 μX12_chanceBehind 5 := ⟨w_1760, w_1762, w_90, w_109, w_1763, ⟨qcl_13.1, qcl_13.2, qde_62⟩, Nat.le_of_ble_eq_true rfl⟩
theorem k_X12_394 : CallS RX12 394 μX12_power100 1 := ⟨w_1764, w_1765, w_109, w_1766, ⟨qcl_13.1, qcl_13.2, qde_38⟩, Nat.le_of_ble_eq_true rfl⟩
theorem k_L_143 : CallV RL 143 RX12 μX12_hopes 1 := ⟨w_1767, w_1768, w_1769, w_109, w_1770, ⟨qcl_13.1, qcl_13.2, qde_0⟩, Nat.le_of_ble_eq_true rfl⟩
theorem k_X12_407 : CallV RX12 407 RX12 μX12_hopeOf 2 := ⟨w_1771, w_1773, w_91, w_109, w_1774, ⟨qcl_13.1, qcl_13.2, qde_63⟩, Nat.le_of_ble_eq_true rfl⟩
theorem k_X12_403 : CallV RX12 403 RX12 μX12_hopeBehind 3 := ⟨w_1775, w_1777, w_92, w_109, w_1778, ⟨qcl_13.1, qcl_13.2, qde_64⟩, Nat.le_of_ble_eq_true rfl⟩
theorem k_L_147 : CallV RL 147 RX12 μX12_top 3 := ⟨w_1779, w_1780, w_1781, w_109, w_1782, ⟨qcl_13.1, qcl_13.2, qde_18⟩, Nat.le_of_ble_eq_true rfl⟩
theorem k_X12_411 : CallV RX12 411 RX12 μX12_findStates 1 := ⟨w_1783, w_1785, w_93, w_109, w_1786, ⟨qcl_13.1, qcl_13.2, qde_1⟩, Nat.le_of_ble_eq_true rfl⟩
theorem k_X12_414 : CallV RX12 414 RX12 μX12_tellWay 1 := ⟨w_1787, w_1789, w_94, w_109, w_1790, ⟨qcl_13.1, qcl_13.2, qde_0⟩, Nat.le_of_ble_eq_true rfl⟩
theorem k_L_151 : CallV RL 151 RX12 μX12_quick 1 := ⟨w_1791, w_1792, w_1793, w_109, w_1794, ⟨qcl_13.1, qcl_13.2, qde_0⟩, Nat.le_of_ble_eq_true rfl⟩
theorem k_L_155 : CallV RL 155 RX12 μX12_best 2 := ⟨w_1795, w_1796, w_1797, w_109, w_1798, ⟨qcl_13.1, qcl_13.2, qde_16⟩, Nat.le_of_ble_eq_true rfl⟩
theorem c_X12_417 : Cond.constantLong RX12 417 (9) ∈ TW := w_1799
theorem k_L_159 : CallV RL 159 RX12 μX12_even 1 := ⟨w_1800, w_1801, w_1802, w_109, w_1803, ⟨qcl_13.1, qcl_13.2, qde_0⟩, Nat.le_of_ble_eq_true rfl⟩
theorem k_L_163 : CallV RL 163 RX12 μX12_all 0 := ⟨w_1804, w_1805, w_1806, w_109, w_1807, ⟨qcl_13.1, qcl_13.2, qde_2⟩, Nat.le_of_ble_eq_true rfl⟩
theorem k_L_167 : CallV RL 167 RX12 μX12_next 1 := ⟨w_1808, w_1809, w_1810, w_109, w_1811, ⟨qcl_13.1, qcl_13.2, qde_0⟩, Nat.le_of_ble_eq_true rfl⟩
theorem k_L_171 : CallV RL 171 RX12 μX12_seen 3 := ⟨w_1812, w_1813, w_1814, w_109, w_1815, ⟨qcl_13.1, qcl_13.2, qde_18⟩, Nat.le_of_ble_eq_true rfl⟩
theorem c_X12_419 : Cond.constantLong RX12 419 (2) ∈ TW := w_1816
theorem k_L_175 : CallV RL 175 RX12 μX12_found 0 := ⟨w_1817, w_1818, w_1819, w_109, w_1820, ⟨qcl_13.1, qcl_13.2, qde_2⟩, Nat.le_of_ble_eq_true rfl⟩
theorem k_X12_421 : CallS RX12 421 μJ6_bitCount 1 := ⟨w_1821, w_1130, w_116, w_1131, ⟨qcl_11.1, qcl_11.2, qde_0⟩, Nat.le_of_ble_eq_true rfl⟩
theorem k_L_179 : CallV RL 179 RX12 μX12_prize 0 := ⟨w_1822, w_1823, w_1824, w_109, w_1825, ⟨qcl_13.1, qcl_13.2, qde_2⟩, Nat.le_of_ble_eq_true rfl⟩
theorem k_L_183 : CallV RL 183 RX12 μX12_pays 2 := ⟨w_1826, w_1827, w_1828, w_109, w_1829, ⟨qcl_13.1, qcl_13.2, qde_16⟩, Nat.le_of_ble_eq_true rfl⟩
theorem c_X12_426 : Cond.constantLong RX12 426 (50) ∈ TW := w_1830
theorem k_X12_428 : CallV RX12 428 RX12 μX12_pointsBehind 2 := ⟨w_1831, w_1833, w_95, w_109, w_1834, ⟨qcl_13.1, qcl_13.2, qde_16⟩, Nat.le_of_ble_eq_true rfl⟩
theorem k_L_187 : CallV RL 187 RX12 μX12_laws 1 := ⟨w_1835, w_1836, w_1837, w_109, w_1838, ⟨qcl_13.1, qcl_13.2, qde_0⟩, Nat.le_of_ble_eq_true rfl⟩
theorem k_L_191 : CallV RL 191 RX12 μX12_seed 1 := ⟨w_1839, w_1840, w_1841, w_109, w_1842, ⟨qcl_13.1, qcl_13.2, qde_0⟩, Nat.le_of_ble_eq_true rfl⟩
theorem k_L_195 : CallV RL 195 RX12 μX12_keep 1 := ⟨w_1843, w_1844, w_1845, w_109, w_1846, ⟨qcl_13.1, qcl_13.2, qde_1⟩, Nat.le_of_ble_eq_true rfl⟩
theorem k_L_199 : CallV RL 199 RX12 μX12_again 1 := ⟨w_1847, w_1848, w_1849, w_109, w_1850, ⟨qcl_13.1, qcl_13.2, qde_1⟩, Nat.le_of_ble_eq_true rfl⟩
theorem k_L_203 : CallV RL 203 RX12 μX12_count 1 := ⟨w_1851, w_1852, w_1853, w_109, w_1854, ⟨qcl_13.1, qcl_13.2, qde_0⟩, Nat.le_of_ble_eq_true rfl⟩
theorem k_L_207 : CallV RL 207 RX12 μX12_row 1 := ⟨w_1855, w_1856, w_1857, w_109, w_1858, ⟨qcl_13.1, qcl_13.2, qde_38⟩, Nat.le_of_ble_eq_true rfl⟩
theorem ly_0 : LAY[0]? = some (.inl (11, [4, 6, 18, 24, 29, 34, 136, 159, 169, 2, 2, 0, 149, 150, 151, 0, 152, 153, 0])) := rfl
theorem ly_1 : LAY[1]? = some (.inl (10, [5, 0])) := rfl
theorem ly_2 : LAY[2]? = some (.inr (2, 80)) := rfl
theorem ly_3 : LAY[3]? = some (.inl (1, [7, 2, 2, 0, 0, 0, 0, 0])) := rfl
theorem ly_4 : LAY[4]? = some (.inr (0, 5)) := rfl
theorem ly_5 : LAY[5]? = some (.inl (5, [9, 10, 11, 12, 0, 0, 0, 0, 0])) := rfl
theorem ly_6 : LAY[6]? = some (.inr (0, 40)) := rfl
theorem ly_7 : LAY[7]? = some (.inr (0, 40)) := rfl
theorem ly_8 : LAY[8]? = some (.inr (0, 40)) := rfl
theorem ly_9 : LAY[9]? = some (.inr (3, 5)) := rfl
theorem ly_10 : LAY[10]? = some (.inl (5, [14, 15, 16, 17, 0, 0, 0, 0, 0])) := rfl
theorem ly_11 : LAY[11]? = some (.inr (0, 40)) := rfl
theorem ly_12 : LAY[12]? = some (.inr (0, 40)) := rfl
theorem ly_13 : LAY[13]? = some (.inr (0, 40)) := rfl
theorem ly_14 : LAY[14]? = some (.inr (3, 5)) := rfl
theorem ly_15 : LAY[15]? = some (.inl (4, [19, 0, 0, 0, 0, 0, 0, 0])) := rfl
theorem ly_16 : LAY[16]? = some (.inl (8, [20, 21, 22, 23, 0])) := rfl
theorem ly_17 : LAY[17]? = some (.inr (0, 32)) := rfl
theorem ly_18 : LAY[18]? = some (.inr (0, 8)) := rfl
theorem ly_19 : LAY[19]? = some (.inr (0, 8)) := rfl
theorem ly_20 : LAY[20]? = some (.inr (0, 8)) := rfl
theorem ly_21 : LAY[21]? = some (.inl (8, [25, 26, 27, 28, 0])) := rfl
theorem ly_22 : LAY[22]? = some (.inr (0, 32)) := rfl
theorem ly_23 : LAY[23]? = some (.inr (0, 8)) := rfl
theorem ly_24 : LAY[24]? = some (.inr (0, 8)) := rfl
theorem ly_25 : LAY[25]? = some (.inr (0, 8)) := rfl
theorem ly_26 : LAY[26]? = some (.inl (8, [30, 31, 32, 33, 0])) := rfl
theorem ly_27 : LAY[27]? = some (.inr (0, 32)) := rfl
theorem ly_28 : LAY[28]? = some (.inr (0, 8)) := rfl
theorem ly_29 : LAY[29]? = some (.inr (0, 8)) := rfl
theorem ly_30 : LAY[30]? = some (.inr (0, 8)) := rfl
theorem ly_31 : LAY[31]? = some (.inl (2, [35, 0, 0])) := rfl
theorem ly_32 : LAY[32]? = some (.inr (6, 20)) := rfl
theorem ly_33 : LAY[33]? = some (.inl (8, [37, 38, 39, 40, 0])) := rfl
theorem ly_34 : LAY[34]? = some (.inr (0, 32)) := rfl
theorem ly_35 : LAY[35]? = some (.inr (0, 8)) := rfl
theorem ly_36 : LAY[36]? = some (.inr (0, 8)) := rfl
theorem ly_37 : LAY[37]? = some (.inr (0, 8)) := rfl
theorem ly_38 : LAY[38]? = some (.inl (8, [42, 43, 44, 45, 0])) := rfl
theorem ly_39 : LAY[39]? = some (.inr (0, 32)) := rfl
theorem ly_40 : LAY[40]? = some (.inr (0, 8)) := rfl
theorem ly_41 : LAY[41]? = some (.inr (0, 8)) := rfl
theorem ly_42 : LAY[42]? = some (.inr (0, 8)) := rfl
theorem ly_43 : LAY[43]? = some (.inl (8, [47, 48, 49, 50, 0])) := rfl
theorem ly_44 : LAY[44]? = some (.inr (0, 32)) := rfl
theorem ly_45 : LAY[45]? = some (.inr (0, 8)) := rfl
theorem ly_46 : LAY[46]? = some (.inr (0, 8)) := rfl
theorem ly_47 : LAY[47]? = some (.inr (0, 8)) := rfl
theorem ly_48 : LAY[48]? = some (.inl (8, [52, 53, 54, 55, 0])) := rfl
theorem ly_49 : LAY[49]? = some (.inr (0, 32)) := rfl
theorem ly_50 : LAY[50]? = some (.inr (0, 8)) := rfl
theorem ly_51 : LAY[51]? = some (.inr (0, 8)) := rfl
theorem ly_52 : LAY[52]? = some (.inr (0, 8)) := rfl
theorem ly_53 : LAY[53]? = some (.inl (8, [57, 58, 59, 60, 0])) := rfl
theorem ly_54 : LAY[54]? = some (.inr (0, 32)) := rfl
theorem ly_55 : LAY[55]? = some (.inr (0, 8)) := rfl
theorem ly_56 : LAY[56]? = some (.inr (0, 8)) := rfl
theorem ly_57 : LAY[57]? = some (.inr (0, 8)) := rfl
theorem ly_58 : LAY[58]? = some (.inl (8, [62, 63, 64, 65, 0])) := rfl
theorem ly_59 : LAY[59]? = some (.inr (0, 32)) := rfl
theorem ly_60 : LAY[60]? = some (.inr (0, 8)) := rfl
theorem ly_61 : LAY[61]? = some (.inr (0, 8)) := rfl
theorem ly_62 : LAY[62]? = some (.inr (0, 8)) := rfl
theorem ly_63 : LAY[63]? = some (.inl (8, [67, 68, 69, 70, 0])) := rfl
theorem ly_64 : LAY[64]? = some (.inr (0, 32)) := rfl
theorem ly_65 : LAY[65]? = some (.inr (0, 8)) := rfl
theorem ly_66 : LAY[66]? = some (.inr (0, 8)) := rfl
theorem ly_67 : LAY[67]? = some (.inr (0, 8)) := rfl
theorem ly_68 : LAY[68]? = some (.inl (8, [72, 73, 74, 75, 0])) := rfl
theorem ly_69 : LAY[69]? = some (.inr (0, 32)) := rfl
theorem ly_70 : LAY[70]? = some (.inr (0, 8)) := rfl
theorem ly_71 : LAY[71]? = some (.inr (0, 8)) := rfl
theorem ly_72 : LAY[72]? = some (.inr (0, 8)) := rfl
theorem ly_73 : LAY[73]? = some (.inl (8, [77, 78, 79, 80, 0])) := rfl
theorem ly_74 : LAY[74]? = some (.inr (0, 32)) := rfl
theorem ly_75 : LAY[75]? = some (.inr (0, 8)) := rfl
theorem ly_76 : LAY[76]? = some (.inr (0, 8)) := rfl
theorem ly_77 : LAY[77]? = some (.inr (0, 8)) := rfl
theorem ly_78 : LAY[78]? = some (.inl (8, [82, 83, 84, 85, 0])) := rfl
theorem ly_79 : LAY[79]? = some (.inr (0, 32)) := rfl
theorem ly_80 : LAY[80]? = some (.inr (0, 8)) := rfl
theorem ly_81 : LAY[81]? = some (.inr (0, 8)) := rfl
theorem ly_82 : LAY[82]? = some (.inr (0, 8)) := rfl
theorem ly_83 : LAY[83]? = some (.inl (8, [87, 88, 89, 90, 0])) := rfl
theorem ly_84 : LAY[84]? = some (.inr (0, 32)) := rfl
theorem ly_85 : LAY[85]? = some (.inr (0, 8)) := rfl
theorem ly_86 : LAY[86]? = some (.inr (0, 8)) := rfl
theorem ly_87 : LAY[87]? = some (.inr (0, 8)) := rfl
theorem ly_88 : LAY[88]? = some (.inl (8, [92, 93, 94, 95, 0])) := rfl
theorem ly_89 : LAY[89]? = some (.inr (0, 32)) := rfl
theorem ly_90 : LAY[90]? = some (.inr (0, 8)) := rfl
theorem ly_91 : LAY[91]? = some (.inr (0, 8)) := rfl
theorem ly_92 : LAY[92]? = some (.inr (0, 8)) := rfl
theorem ly_93 : LAY[93]? = some (.inl (8, [97, 98, 99, 100, 0])) := rfl
theorem ly_94 : LAY[94]? = some (.inr (0, 32)) := rfl
theorem ly_95 : LAY[95]? = some (.inr (0, 8)) := rfl
theorem ly_96 : LAY[96]? = some (.inr (0, 8)) := rfl
theorem ly_97 : LAY[97]? = some (.inr (0, 8)) := rfl
theorem ly_98 : LAY[98]? = some (.inl (8, [102, 103, 104, 105, 0])) := rfl
theorem ly_99 : LAY[99]? = some (.inr (0, 32)) := rfl
theorem ly_100 : LAY[100]? = some (.inr (0, 8)) := rfl
theorem ly_101 : LAY[101]? = some (.inr (0, 8)) := rfl
theorem ly_102 : LAY[102]? = some (.inr (0, 8)) := rfl
theorem ly_103 : LAY[103]? = some (.inl (8, [107, 108, 109, 110, 0])) := rfl
theorem ly_104 : LAY[104]? = some (.inr (0, 32)) := rfl
theorem ly_105 : LAY[105]? = some (.inr (0, 8)) := rfl
theorem ly_106 : LAY[106]? = some (.inr (0, 8)) := rfl
theorem ly_107 : LAY[107]? = some (.inr (0, 8)) := rfl
theorem ly_108 : LAY[108]? = some (.inl (8, [112, 113, 114, 115, 0])) := rfl
theorem ly_109 : LAY[109]? = some (.inr (0, 32)) := rfl
theorem ly_110 : LAY[110]? = some (.inr (0, 8)) := rfl
theorem ly_111 : LAY[111]? = some (.inr (0, 8)) := rfl
theorem ly_112 : LAY[112]? = some (.inr (0, 8)) := rfl
theorem ly_113 : LAY[113]? = some (.inl (8, [117, 118, 119, 120, 0])) := rfl
theorem ly_114 : LAY[114]? = some (.inr (0, 32)) := rfl
theorem ly_115 : LAY[115]? = some (.inr (0, 8)) := rfl
theorem ly_116 : LAY[116]? = some (.inr (0, 8)) := rfl
theorem ly_117 : LAY[117]? = some (.inr (0, 8)) := rfl
theorem ly_118 : LAY[118]? = some (.inl (8, [122, 123, 124, 125, 0])) := rfl
theorem ly_119 : LAY[119]? = some (.inr (0, 32)) := rfl
theorem ly_120 : LAY[120]? = some (.inr (0, 8)) := rfl
theorem ly_121 : LAY[121]? = some (.inr (0, 8)) := rfl
theorem ly_122 : LAY[122]? = some (.inr (0, 8)) := rfl
theorem ly_123 : LAY[123]? = some (.inl (8, [127, 128, 129, 130, 0])) := rfl
theorem ly_124 : LAY[124]? = some (.inr (0, 32)) := rfl
theorem ly_125 : LAY[125]? = some (.inr (0, 8)) := rfl
theorem ly_126 : LAY[126]? = some (.inr (0, 8)) := rfl
theorem ly_127 : LAY[127]? = some (.inr (0, 8)) := rfl
theorem ly_128 : LAY[128]? = some (.inl (8, [132, 133, 134, 135, 0])) := rfl
theorem ly_129 : LAY[129]? = some (.inr (0, 32)) := rfl
theorem ly_130 : LAY[130]? = some (.inr (0, 8)) := rfl
theorem ly_131 : LAY[131]? = some (.inr (0, 8)) := rfl
theorem ly_132 : LAY[132]? = some (.inr (0, 8)) := rfl
theorem ly_133 : LAY[133]? = some (.inr (5, 2)) := rfl
theorem ly_134 : LAY[134]? = some (.inl (3, [138, 139, 140, 141, 142, 0, 0, 0, 0])) := rfl
theorem ly_135 : LAY[135]? = some (.inr (0, 48)) := rfl
theorem ly_136 : LAY[136]? = some (.inr (0, 48)) := rfl
theorem ly_137 : LAY[137]? = some (.inr (0, 48)) := rfl
theorem ly_138 : LAY[138]? = some (.inr (0, 13)) := rfl
theorem ly_139 : LAY[139]? = some (.inr (0, 8)) := rfl
theorem ly_140 : LAY[140]? = some (.inl (3, [144, 145, 146, 147, 148, 0, 0, 0, 0])) := rfl
theorem ly_141 : LAY[141]? = some (.inr (0, 48)) := rfl
theorem ly_142 : LAY[142]? = some (.inr (0, 48)) := rfl
theorem ly_143 : LAY[143]? = some (.inr (0, 48)) := rfl
theorem ly_144 : LAY[144]? = some (.inr (0, 13)) := rfl
theorem ly_145 : LAY[145]? = some (.inr (0, 8)) := rfl
theorem ly_146 : LAY[146]? = some (.inr (0, 12)) := rfl
theorem ly_147 : LAY[147]? = some (.inr (0, 12)) := rfl
theorem ly_148 : LAY[148]? = some (.inr (0, 12)) := rfl
theorem ly_149 : LAY[149]? = some (.inr (0, 8)) := rfl
theorem ly_150 : LAY[150]? = some (.inr (4, 10)) := rfl
theorem ly_151 : LAY[151]? = some (.inl (9, [155, 156, 157, 158, 0, 0])) := rfl
theorem ly_152 : LAY[152]? = some (.inr (4, 3000)) := rfl
theorem ly_153 : LAY[153]? = some (.inr (4, 3000)) := rfl
theorem ly_154 : LAY[154]? = some (.inr (0, 8192)) := rfl
theorem ly_155 : LAY[155]? = some (.inr (0, 3000)) := rfl
theorem ly_156 : LAY[156]? = some (.inl (6, [154, 160, 165, 166, 167, 168, 0])) := rfl
theorem ly_157 : LAY[157]? = some (.inl (8, [161, 162, 163, 164, 0])) := rfl
theorem ly_158 : LAY[158]? = some (.inr (0, 32)) := rfl
theorem ly_159 : LAY[159]? = some (.inr (0, 8)) := rfl
theorem ly_160 : LAY[160]? = some (.inr (0, 8)) := rfl
theorem ly_161 : LAY[161]? = some (.inr (0, 8)) := rfl
theorem ly_162 : LAY[162]? = some (.inr (0, 8)) := rfl
theorem ly_163 : LAY[163]? = some (.inr (0, 3000)) := rfl
theorem ly_164 : LAY[164]? = some (.inr (0, 3000)) := rfl
theorem ly_165 : LAY[165]? = some (.inr (0, 3000)) := rfl
theorem ly_166 : LAY[166]? = some (.inl (7, [154, 170, 175, 0, 0, 1])) := rfl
theorem ly_167 : LAY[167]? = some (.inl (8, [171, 172, 173, 174, 0])) := rfl
theorem ly_168 : LAY[168]? = some (.inr (0, 32)) := rfl
theorem ly_169 : LAY[169]? = some (.inr (0, 8)) := rfl
theorem ly_170 : LAY[170]? = some (.inr (0, 8)) := rfl
theorem ly_171 : LAY[171]? = some (.inr (0, 8)) := rfl
theorem ly_172 : LAY[172]? = some (.inr (0, 8)) := rfl
theorem ly_173 : LAY[173]? = some (.inl (0, [177, 182, 0, 0, 0])) := rfl
theorem ly_174 : LAY[174]? = some (.inl (8, [178, 179, 180, 181, 0])) := rfl
theorem ly_175 : LAY[175]? = some (.inr (0, 32)) := rfl
theorem ly_176 : LAY[176]? = some (.inr (0, 8)) := rfl
theorem ly_177 : LAY[177]? = some (.inr (0, 8)) := rfl
theorem ly_178 : LAY[178]? = some (.inr (0, 8)) := rfl
theorem ly_179 : LAY[179]? = some (.inr (0, 5)) := rfl
theorem ly_180 : LAY[180]? = some (.inl (0, [184, 189, 0, 0, 0])) := rfl
theorem ly_181 : LAY[181]? = some (.inl (8, [185, 186, 187, 188, 0])) := rfl
theorem ly_182 : LAY[182]? = some (.inr (0, 32)) := rfl
theorem ly_183 : LAY[183]? = some (.inr (0, 8)) := rfl
theorem ly_184 : LAY[184]? = some (.inr (0, 8)) := rfl
theorem ly_185 : LAY[185]? = some (.inr (0, 8)) := rfl
theorem ly_186 : LAY[186]? = some (.inr (0, 5)) := rfl
theorem ly_187 : LAY[187]? = some (.inl (12, [0, 0, 191, 192, 193, 194, 195, 196, 0, 197, 0, 0, 0, 198, 0, 199, 0, 0, 2, 0, 0, 0, 0, 200, 201, 202, 203, 0, 0, 204, 0, 205, 0, 0, 0, 0, 206, 207, 208, 209, 210, 211, 212, 0, 213, 0, 0, 214, 0, 0, 215, 216, 0, 0, 217, 218, 219])) := rfl
theorem ly_188 : LAY[188]? = some (.inr (0, 32)) := rfl
theorem ly_189 : LAY[189]? = some (.inr (3, 8)) := rfl
theorem ly_190 : LAY[190]? = some (.inr (0, 8)) := rfl
theorem ly_191 : LAY[191]? = some (.inr (0, 8)) := rfl
theorem ly_192 : LAY[192]? = some (.inr (0, 8)) := rfl
theorem ly_193 : LAY[193]? = some (.inr (0, 5)) := rfl
theorem ly_194 : LAY[194]? = some (.inr (0, 160)) := rfl
theorem ly_195 : LAY[195]? = some (.inr (1, 80)) := rfl
theorem ly_196 : LAY[196]? = some (.inr (4, 16)) := rfl
theorem ly_197 : LAY[197]? = some (.inr (0, 32)) := rfl
theorem ly_198 : LAY[198]? = some (.inr (3, 8)) := rfl
theorem ly_199 : LAY[199]? = some (.inr (0, 160)) := rfl
theorem ly_200 : LAY[200]? = some (.inr (1, 40)) := rfl
theorem ly_201 : LAY[201]? = some (.inr (0, 1140)) := rfl
theorem ly_202 : LAY[202]? = some (.inr (0, 57)) := rfl
theorem ly_203 : LAY[203]? = some (.inr (0, 9)) := rfl
theorem ly_204 : LAY[204]? = some (.inr (0, 57)) := rfl
theorem ly_205 : LAY[205]? = some (.inr (4, 3000)) := rfl
theorem ly_206 : LAY[206]? = some (.inr (4, 3000)) := rfl
theorem ly_207 : LAY[207]? = some (.inr (0, 3000)) := rfl
theorem ly_208 : LAY[208]? = some (.inr (0, 3000)) := rfl
theorem ly_209 : LAY[209]? = some (.inr (0, 3000)) := rfl
theorem ly_210 : LAY[210]? = some (.inr (0, 8192)) := rfl
theorem ly_211 : LAY[211]? = some (.inr (0, 399)) := rfl
theorem ly_212 : LAY[212]? = some (.inr (0, 3000)) := rfl
theorem ly_213 : LAY[213]? = some (.inr (0, 36)) := rfl
theorem ly_214 : LAY[214]? = some (.inr (0, 142)) := rfl
theorem ly_215 : LAY[215]? = some (.inr (3, 2)) := rfl
theorem ly_216 : LAY[216]? = some (.inr (0, 2)) := rfl
theorem ly_217 : LAY[217]? = some (.inr (4, 1)) := rfl
/-- the cells of one Standing, Rule, Plan, Kept: from its number on -/
def St (b : Nat) : Prop := LAY[b]? = some (.inl (8, [b + 1 + 3, b + 2 + 3, b + 3 + 3, b + 4 + 3, 0])) ∧ LAY[b + 1]? = some (.inr (0, 32)) ∧ LAY[b + 2]? = some (.inr (0, 8)) ∧ LAY[b + 3]? = some (.inr (0, 8)) ∧ LAY[b + 4]? = some (.inr (0, 8))
def Ru (b : Nat) : Prop := LAY[b]? = some (.inl (5, [b + 1 + 3, b + 2 + 3, b + 3 + 3, b + 4 + 3, 0, 0, 0, 0, 0])) ∧ LAY[b + 1]? = some (.inr (0, 40)) ∧ LAY[b + 2]? = some (.inr (0, 40)) ∧ LAY[b + 3]? = some (.inr (0, 40)) ∧ LAY[b + 4]? = some (.inr (3, 5))
def Pl (b : Nat) : Prop := LAY[b]? = some (.inl (3, [b + 1 + 3, b + 2 + 3, b + 3 + 3, b + 4 + 3, b + 5 + 3, 0, 0, 0, 0])) ∧ LAY[b + 1]? = some (.inr (0, 48)) ∧ LAY[b + 2]? = some (.inr (0, 48)) ∧ LAY[b + 3]? = some (.inr (0, 48)) ∧ LAY[b + 4]? = some (.inr (0, 13)) ∧ LAY[b + 5]? = some (.inr (0, 8))
def Ke (b : Nat) : Prop := LAY[b]? = some (.inl (0, [b + 1 + 3, b + 6 + 3, 0, 0, 0])) ∧ St (b + 1) ∧ LAY[b + 6]? = some (.inr (0, 5))
theorem St_16 : St 16 := ⟨rfl, rfl, rfl, rfl, rfl⟩
theorem St_21 : St 21 := ⟨rfl, rfl, rfl, rfl, rfl⟩
theorem St_26 : St 26 := ⟨rfl, rfl, rfl, rfl, rfl⟩
theorem St_33 : St 33 := ⟨rfl, rfl, rfl, rfl, rfl⟩
theorem St_38 : St 38 := ⟨rfl, rfl, rfl, rfl, rfl⟩
theorem St_43 : St 43 := ⟨rfl, rfl, rfl, rfl, rfl⟩
theorem St_48 : St 48 := ⟨rfl, rfl, rfl, rfl, rfl⟩
theorem St_53 : St 53 := ⟨rfl, rfl, rfl, rfl, rfl⟩
theorem St_58 : St 58 := ⟨rfl, rfl, rfl, rfl, rfl⟩
theorem St_63 : St 63 := ⟨rfl, rfl, rfl, rfl, rfl⟩
theorem St_68 : St 68 := ⟨rfl, rfl, rfl, rfl, rfl⟩
theorem St_73 : St 73 := ⟨rfl, rfl, rfl, rfl, rfl⟩
theorem St_78 : St 78 := ⟨rfl, rfl, rfl, rfl, rfl⟩
theorem St_83 : St 83 := ⟨rfl, rfl, rfl, rfl, rfl⟩
theorem St_88 : St 88 := ⟨rfl, rfl, rfl, rfl, rfl⟩
theorem St_93 : St 93 := ⟨rfl, rfl, rfl, rfl, rfl⟩
theorem St_98 : St 98 := ⟨rfl, rfl, rfl, rfl, rfl⟩
theorem St_103 : St 103 := ⟨rfl, rfl, rfl, rfl, rfl⟩
theorem St_108 : St 108 := ⟨rfl, rfl, rfl, rfl, rfl⟩
theorem St_113 : St 113 := ⟨rfl, rfl, rfl, rfl, rfl⟩
theorem St_118 : St 118 := ⟨rfl, rfl, rfl, rfl, rfl⟩
theorem St_123 : St 123 := ⟨rfl, rfl, rfl, rfl, rfl⟩
theorem St_128 : St 128 := ⟨rfl, rfl, rfl, rfl, rfl⟩
theorem St_157 : St 157 := ⟨rfl, rfl, rfl, rfl, rfl⟩
theorem St_167 : St 167 := ⟨rfl, rfl, rfl, rfl, rfl⟩
theorem St_174 : St 174 := ⟨rfl, rfl, rfl, rfl, rfl⟩
theorem St_181 : St 181 := ⟨rfl, rfl, rfl, rfl, rfl⟩
theorem Ru_5 : Ru 5 := ⟨rfl, rfl, rfl, rfl, rfl⟩
theorem Ru_10 : Ru 10 := ⟨rfl, rfl, rfl, rfl, rfl⟩
theorem Pl_134 : Pl 134 := ⟨rfl, rfl, rfl, rfl, rfl, rfl⟩
theorem Pl_140 : Pl 140 := ⟨rfl, rfl, rfl, rfl, rfl, rfl⟩
theorem Ke_173 : Ke 173 := ⟨rfl, ⟨rfl, rfl, rfl, rfl, rfl⟩, rfl⟩
theorem Ke_180 : Ke 180 := ⟨rfl, ⟨rfl, rfl, rfl, rfl, rfl⟩, rfl⟩
def bz (x : Int32) : Prop := x = 0 ∨ x = 1
theorem bz_0 : bz 0 := Or.inl rfl
theorem bz_1 : bz 1 := Or.inr rfl
theorem bz.n {x : Int32} (h : bz x) : narrow .boolean (.int x) = .int x := by rcases h with rfl | rfl <;> rfl
theorem bz.f {x : Int32} (h : bz x) : fits .boolean (.int x) = true := by rcases h with rfl | rfl <;> rfl
theorem i32_ne {x v : Int32} {n : Int} (h : ¬ x = v) (hv : v.toInt = n) : ¬ x.toInt = n := fun e => h (Int32.toInt_inj.mp (e.trans hv.symm))
