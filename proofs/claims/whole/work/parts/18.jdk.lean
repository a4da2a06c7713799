theorem hy_J0_coder_7d493 : yJ0_coder_7d493.cls ≠ "java/lang/invoke/MethodHandle" ∧ yJ0_coder_7d493.cls ≠ "java/lang/invoke/VarHandle" ∧ (parseMethodDescriptor yJ0_coder_7d493.desc).map (fun d => d.parameters.length) = some 0 := by decide +kernel
theorem hy_J3_checkIndex_8e157 : yJ3_checkIndex_8e157.cls ≠ "java/lang/invoke/MethodHandle" ∧ yJ3_checkIndex_8e157.cls ≠ "java/lang/invoke/VarHandle" ∧ (parseMethodDescriptor yJ3_checkIndex_8e157.desc).map (fun d => d.parameters.length) = some 3 := by decide +kernel
theorem hy_J0_checkIndex_df160 : yJ0_checkIndex_df160.cls ≠ "java/lang/invoke/MethodHandle" ∧ yJ0_checkIndex_df160.cls ≠ "java/lang/invoke/VarHandle" ∧ (parseMethodDescriptor yJ0_checkIndex_df160.desc).map (fun d => d.parameters.length) = some 2 := by decide +kernel
theorem hy_J0_isLatin1_aae02 : yJ0_isLatin1_aae02.cls ≠ "java/lang/invoke/MethodHandle" ∧ yJ0_isLatin1_aae02.cls ≠ "java/lang/invoke/VarHandle" ∧ (parseMethodDescriptor yJ0_isLatin1_aae02.desc).map (fun d => d.parameters.length) = some 0 := by decide +kernel
theorem hy_J1_charAt_3b067 : yJ1_charAt_3b067.cls ≠ "java/lang/invoke/MethodHandle" ∧ yJ1_charAt_3b067.cls ≠ "java/lang/invoke/VarHandle" ∧ (parseMethodDescriptor yJ1_charAt_3b067.desc).map (fun d => d.parameters.length) = some 2 := by decide +kernel
theorem hy_X9_copyRow : yX9_copyRow.cls ≠ "java/lang/invoke/MethodHandle" ∧ yX9_copyRow.cls ≠ "java/lang/invoke/VarHandle" ∧ (parseMethodDescriptor yX9_copyRow.desc).map (fun d => d.parameters.length) = some 4 := by decide +kernel
theorem hy_X9_in : yX9_in.cls ≠ "java/lang/invoke/MethodHandle" ∧ yX9_in.cls ≠ "java/lang/invoke/VarHandle" ∧ (parseMethodDescriptor yX9_in.desc).map (fun d => d.parameters.length) = some 3 := by decide +kernel
theorem hy_X9_four : yX9_four.cls ≠ "java/lang/invoke/MethodHandle" ∧ yX9_four.cls ≠ "java/lang/invoke/VarHandle" ∧ (parseMethodDescriptor yX9_four.desc).map (fun d => d.parameters.length) = some 1 := by decide +kernel
theorem hy_X9_see : yX9_see.cls ≠ "java/lang/invoke/MethodHandle" ∧ yX9_see.cls ≠ "java/lang/invoke/VarHandle" ∧ (parseMethodDescriptor yX9_see.desc).map (fun d => d.parameters.length) = some 0 := by decide +kernel
theorem hy_X9_token : yX9_token.cls ≠ "java/lang/invoke/MethodHandle" ∧ yX9_token.cls ≠ "java/lang/invoke/VarHandle" ∧ (parseMethodDescriptor yX9_token.desc).map (fun d => d.parameters.length) = some 0 := by decide +kernel
theorem hy_X9_later : yX9_later.cls ≠ "java/lang/invoke/MethodHandle" ∧ yX9_later.cls ≠ "java/lang/invoke/VarHandle" ∧ (parseMethodDescriptor yX9_later.desc).map (fun d => d.parameters.length) = some 2 := by decide +kernel
theorem hy_X9_stops : yX9_stops.cls ≠ "java/lang/invoke/MethodHandle" ∧ yX9_stops.cls ≠ "java/lang/invoke/VarHandle" ∧ (parseMethodDescriptor yX9_stops.desc).map (fun d => d.parameters.length) = some 0 := by decide +kernel
theorem hy_X9_take : yX9_take.cls ≠ "java/lang/invoke/MethodHandle" ∧ yX9_take.cls ≠ "java/lang/invoke/VarHandle" ∧ (parseMethodDescriptor yX9_take.desc).map (fun d => d.parameters.length) = some 4 := by decide +kernel
theorem hy_X9_lay4 : yX9_lay4.cls ≠ "java/lang/invoke/MethodHandle" ∧ yX9_lay4.cls ≠ "java/lang/invoke/VarHandle" ∧ (parseMethodDescriptor yX9_lay4.desc).map (fun d => d.parameters.length) = some 5 := by decide +kernel
theorem hy_X9_placed : yX9_placed.cls ≠ "java/lang/invoke/MethodHandle" ∧ yX9_placed.cls ≠ "java/lang/invoke/VarHandle" ∧ (parseMethodDescriptor yX9_placed.desc).map (fun d => d.parameters.length) = some 2 := by decide +kernel
theorem hy_X9_personLine : yX9_personLine.cls ≠ "java/lang/invoke/MethodHandle" ∧ yX9_personLine.cls ≠ "java/lang/invoke/VarHandle" ∧ (parseMethodDescriptor yX9_personLine.desc).map (fun d => d.parameters.length) = some 1 := by decide +kernel
theorem hy_X9_errandLine : yX9_errandLine.cls ≠ "java/lang/invoke/MethodHandle" ∧ yX9_errandLine.cls ≠ "java/lang/invoke/VarHandle" ∧ (parseMethodDescriptor yX9_errandLine.desc).map (fun d => d.parameters.length) = some 0 := by decide +kernel
theorem hy_X9_roadLine : yX9_roadLine.cls ≠ "java/lang/invoke/MethodHandle" ∧ yX9_roadLine.cls ≠ "java/lang/invoke/VarHandle" ∧ (parseMethodDescriptor yX9_roadLine.desc).map (fun d => d.parameters.length) = some 0 := by decide +kernel
theorem hy_X9_moveLine : yX9_moveLine.cls ≠ "java/lang/invoke/MethodHandle" ∧ yX9_moveLine.cls ≠ "java/lang/invoke/VarHandle" ∧ (parseMethodDescriptor yX9_moveLine.desc).map (fun d => d.parameters.length) = some 1 := by decide +kernel
theorem hy_X9_townLine : yX9_townLine.cls ≠ "java/lang/invoke/MethodHandle" ∧ yX9_townLine.cls ≠ "java/lang/invoke/VarHandle" ∧ (parseMethodDescriptor yX9_townLine.desc).map (fun d => d.parameters.length) = some 1 := by decide +kernel
theorem hy_X9_readText : yX9_readText.cls ≠ "java/lang/invoke/MethodHandle" ∧ yX9_readText.cls ≠ "java/lang/invoke/VarHandle" ∧ (parseMethodDescriptor yX9_readText.desc).map (fun d => d.parameters.length) = some 1 := by decide +kernel
theorem hy_X9_isTown : yX9_isTown.cls ≠ "java/lang/invoke/MethodHandle" ∧ yX9_isTown.cls ≠ "java/lang/invoke/VarHandle" ∧ (parseMethodDescriptor yX9_isTown.desc).map (fun d => d.parameters.length) = some 1 := by decide +kernel
theorem hy_X9_of : yX9_of.cls ≠ "java/lang/invoke/MethodHandle" ∧ yX9_of.cls ≠ "java/lang/invoke/VarHandle" ∧ (parseMethodDescriptor yX9_of.desc).map (fun d => d.parameters.length) = some 2 := by decide +kernel
theorem hy_X9_isDay : yX9_isDay.cls ≠ "java/lang/invoke/MethodHandle" ∧ yX9_isDay.cls ≠ "java/lang/invoke/VarHandle" ∧ (parseMethodDescriptor yX9_isDay.desc).map (fun d => d.parameters.length) = some 1 := by decide +kernel
theorem hy_X9_movesOf : yX9_movesOf.cls ≠ "java/lang/invoke/MethodHandle" ∧ yX9_movesOf.cls ≠ "java/lang/invoke/VarHandle" ∧ (parseMethodDescriptor yX9_movesOf.desc).map (fun d => d.parameters.length) = some 1 := by decide +kernel
theorem hy_X9_moveOf : yX9_moveOf.cls ≠ "java/lang/invoke/MethodHandle" ∧ yX9_moveOf.cls ≠ "java/lang/invoke/VarHandle" ∧ (parseMethodDescriptor yX9_moveOf.desc).map (fun d => d.parameters.length) = some 3 := by decide +kernel
theorem hy_X9_roadOf : yX9_roadOf.cls ≠ "java/lang/invoke/MethodHandle" ∧ yX9_roadOf.cls ≠ "java/lang/invoke/VarHandle" ∧ (parseMethodDescriptor yX9_roadOf.desc).map (fun d => d.parameters.length) = some 2 := by decide +kernel
theorem hy_X9_own : yX9_own.cls ≠ "java/lang/invoke/MethodHandle" ∧ yX9_own.cls ≠ "java/lang/invoke/VarHandle" ∧ (parseMethodDescriptor yX9_own.desc).map (fun d => d.parameters.length) = some 0 := by decide +kernel
theorem hy_X9_errandOf : yX9_errandOf.cls ≠ "java/lang/invoke/MethodHandle" ∧ yX9_errandOf.cls ≠ "java/lang/invoke/VarHandle" ∧ (parseMethodDescriptor yX9_errandOf.desc).map (fun d => d.parameters.length) = some 2 := by decide +kernel
theorem hy_X9_personOf : yX9_personOf.cls ≠ "java/lang/invoke/MethodHandle" ∧ yX9_personOf.cls ≠ "java/lang/invoke/VarHandle" ∧ (parseMethodDescriptor yX9_personOf.desc).map (fun d => d.parameters.length) = some 2 := by decide +kernel
theorem hy_X9_penny : yX9_penny.cls ≠ "java/lang/invoke/MethodHandle" ∧ yX9_penny.cls ≠ "java/lang/invoke/VarHandle" ∧ (parseMethodDescriptor yX9_penny.desc).map (fun d => d.parameters.length) = some 1 := by decide +kernel
theorem hy_X9_hand : yX9_hand.cls ≠ "java/lang/invoke/MethodHandle" ∧ yX9_hand.cls ≠ "java/lang/invoke/VarHandle" ∧ (parseMethodDescriptor yX9_hand.desc).map (fun d => d.parameters.length) = some 1 := by decide +kernel
theorem hy_X9_farEnd : yX9_farEnd.cls ≠ "java/lang/invoke/MethodHandle" ∧ yX9_farEnd.cls ≠ "java/lang/invoke/VarHandle" ∧ (parseMethodDescriptor yX9_farEnd.desc).map (fun d => d.parameters.length) = some 2 := by decide +kernel
theorem hy_X9_comes : yX9_comes.cls ≠ "java/lang/invoke/MethodHandle" ∧ yX9_comes.cls ≠ "java/lang/invoke/VarHandle" ∧ (parseMethodDescriptor yX9_comes.desc).map (fun d => d.parameters.length) = some 3 := by decide +kernel
theorem hy_X9_isPerson : yX9_isPerson.cls ≠ "java/lang/invoke/MethodHandle" ∧ yX9_isPerson.cls ≠ "java/lang/invoke/VarHandle" ∧ (parseMethodDescriptor yX9_isPerson.desc).map (fun d => d.parameters.length) = some 1 := by decide +kernel
theorem hy_X9_isRoad : yX9_isRoad.cls ≠ "java/lang/invoke/MethodHandle" ∧ yX9_isRoad.cls ≠ "java/lang/invoke/VarHandle" ∧ (parseMethodDescriptor yX9_isRoad.desc).map (fun d => d.parameters.length) = some 1 := by decide +kernel
theorem hy_X9_ends : yX9_ends.cls ≠ "java/lang/invoke/MethodHandle" ∧ yX9_ends.cls ≠ "java/lang/invoke/VarHandle" ∧ (parseMethodDescriptor yX9_ends.desc).map (fun d => d.parameters.length) = some 2 := by decide +kernel
theorem hy_X9_pays : yX9_pays.cls ≠ "java/lang/invoke/MethodHandle" ∧ yX9_pays.cls ≠ "java/lang/invoke/VarHandle" ∧ (parseMethodDescriptor yX9_pays.desc).map (fun d => d.parameters.length) = some 2 := by decide +kernel
theorem hy_X9_does : yX9_does.cls ≠ "java/lang/invoke/MethodHandle" ∧ yX9_does.cls ≠ "java/lang/invoke/VarHandle" ∧ (parseMethodDescriptor yX9_does.desc).map (fun d => d.parameters.length) = some 3 := by decide +kernel
theorem hy_X9_beginRun : yX9_beginRun.cls ≠ "java/lang/invoke/MethodHandle" ∧ yX9_beginRun.cls ≠ "java/lang/invoke/VarHandle" ∧ (parseMethodDescriptor yX9_beginRun.desc).map (fun d => d.parameters.length) = some 1 := by decide +kernel
theorem hy_X9_runTo : yX9_runTo.cls ≠ "java/lang/invoke/MethodHandle" ∧ yX9_runTo.cls ≠ "java/lang/invoke/VarHandle" ∧ (parseMethodDescriptor yX9_runTo.desc).map (fun d => d.parameters.length) = some 3 := by decide +kernel
theorem hy_X9_lay : yX9_lay.cls ≠ "java/lang/invoke/MethodHandle" ∧ yX9_lay.cls ≠ "java/lang/invoke/VarHandle" ∧ (parseMethodDescriptor yX9_lay.desc).map (fun d => d.parameters.length) = some 3 := by decide +kernel
theorem hy_X9_worthBy : yX9_worthBy.cls ≠ "java/lang/invoke/MethodHandle" ∧ yX9_worthBy.cls ≠ "java/lang/invoke/VarHandle" ∧ (parseMethodDescriptor yX9_worthBy.desc).map (fun d => d.parameters.length) = some 2 := by decide +kernel
theorem hy_X9_keep : yX9_keep.cls ≠ "java/lang/invoke/MethodHandle" ∧ yX9_keep.cls ≠ "java/lang/invoke/VarHandle" ∧ (parseMethodDescriptor yX9_keep.desc).map (fun d => d.parameters.length) = some 2 := by decide +kernel
theorem hy_X9_isOnStack : yX9_isOnStack.cls ≠ "java/lang/invoke/MethodHandle" ∧ yX9_isOnStack.cls ≠ "java/lang/invoke/VarHandle" ∧ (parseMethodDescriptor yX9_isOnStack.desc).map (fun d => d.parameters.length) = some 3 := by decide +kernel
theorem hy_X9_costOf : yX9_costOf.cls ≠ "java/lang/invoke/MethodHandle" ∧ yX9_costOf.cls ≠ "java/lang/invoke/VarHandle" ∧ (parseMethodDescriptor yX9_costOf.desc).map (fun d => d.parameters.length) = some 4 := by decide +kernel
theorem hy_X9_isPlace : yX9_isPlace.cls ≠ "java/lang/invoke/MethodHandle" ∧ yX9_isPlace.cls ≠ "java/lang/invoke/VarHandle" ∧ (parseMethodDescriptor yX9_isPlace.desc).map (fun d => d.parameters.length) = some 1 := by decide +kernel
theorem hy_X9_finds : yX9_finds.cls ≠ "java/lang/invoke/MethodHandle" ∧ yX9_finds.cls ≠ "java/lang/invoke/VarHandle" ∧ (parseMethodDescriptor yX9_finds.desc).map (fun d => d.parameters.length) = some 5 := by decide +kernel
theorem hy_X9_minutesOfBest : yX9_minutesOfBest.cls ≠ "java/lang/invoke/MethodHandle" ∧ yX9_minutesOfBest.cls ≠ "java/lang/invoke/VarHandle" ∧ (parseMethodDescriptor yX9_minutesOfBest.desc).map (fun d => d.parameters.length) = some 0 := by decide +kernel
theorem hy_X9_layWay : yX9_layWay.cls ≠ "java/lang/invoke/MethodHandle" ∧ yX9_layWay.cls ≠ "java/lang/invoke/VarHandle" ∧ (parseMethodDescriptor yX9_layWay.desc).map (fun d => d.parameters.length) = some 8 := by decide +kernel
theorem hy_X9_walk : yX9_walk.cls ≠ "java/lang/invoke/MethodHandle" ∧ yX9_walk.cls ≠ "java/lang/invoke/VarHandle" ∧ (parseMethodDescriptor yX9_walk.desc).map (fun d => d.parameters.length) = some 2 := by decide +kernel
theorem hy_X9_layRound : yX9_layRound.cls ≠ "java/lang/invoke/MethodHandle" ∧ yX9_layRound.cls ≠ "java/lang/invoke/VarHandle" ∧ (parseMethodDescriptor yX9_layRound.desc).map (fun d => d.parameters.length) = some 6 := by decide +kernel
theorem hy_X9_nearer : yX9_nearer.cls ≠ "java/lang/invoke/MethodHandle" ∧ yX9_nearer.cls ≠ "java/lang/invoke/VarHandle" ∧ (parseMethodDescriptor yX9_nearer.desc).map (fun d => d.parameters.length) = some 4 := by decide +kernel
theorem hy_X9_has : yX9_has.cls ≠ "java/lang/invoke/MethodHandle" ∧ yX9_has.cls ≠ "java/lang/invoke/VarHandle" ∧ (parseMethodDescriptor yX9_has.desc).map (fun d => d.parameters.length) = some 2 := by decide +kernel
theorem hy_X9_nextErrand : yX9_nextErrand.cls ≠ "java/lang/invoke/MethodHandle" ∧ yX9_nextErrand.cls ≠ "java/lang/invoke/VarHandle" ∧ (parseMethodDescriptor yX9_nextErrand.desc).map (fun d => d.parameters.length) = some 1 := by decide +kernel
theorem hy_X9_goOne : yX9_goOne.cls ≠ "java/lang/invoke/MethodHandle" ∧ yX9_goOne.cls ≠ "java/lang/invoke/VarHandle" ∧ (parseMethodDescriptor yX9_goOne.desc).map (fun d => d.parameters.length) = some 3 := by decide +kernel
theorem hy_X9_clearSums : yX9_clearSums.cls ≠ "java/lang/invoke/MethodHandle" ∧ yX9_clearSums.cls ≠ "java/lang/invoke/VarHandle" ∧ (parseMethodDescriptor yX9_clearSums.desc).map (fun d => d.parameters.length) = some 0 := by decide +kernel
theorem hy_X9_goAll : yX9_goAll.cls ≠ "java/lang/invoke/MethodHandle" ∧ yX9_goAll.cls ≠ "java/lang/invoke/VarHandle" ∧ (parseMethodDescriptor yX9_goAll.desc).map (fun d => d.parameters.length) = some 1 := by decide +kernel
theorem hy_X9_net : yX9_net.cls ≠ "java/lang/invoke/MethodHandle" ∧ yX9_net.cls ≠ "java/lang/invoke/VarHandle" ∧ (parseMethodDescriptor yX9_net.desc).map (fun d => d.parameters.length) = some 1 := by decide +kernel
theorem hy_X9_sumOf : yX9_sumOf.cls ≠ "java/lang/invoke/MethodHandle" ∧ yX9_sumOf.cls ≠ "java/lang/invoke/VarHandle" ∧ (parseMethodDescriptor yX9_sumOf.desc).map (fun d => d.parameters.length) = some 2 := by decide +kernel
theorem hy_X9_findFar : yX9_findFar.cls ≠ "java/lang/invoke/MethodHandle" ∧ yX9_findFar.cls ≠ "java/lang/invoke/VarHandle" ∧ (parseMethodDescriptor yX9_findFar.desc).map (fun d => d.parameters.length) = some 1 := by decide +kernel
theorem hy_X9_day : yX9_day.cls ≠ "java/lang/invoke/MethodHandle" ∧ yX9_day.cls ≠ "java/lang/invoke/VarHandle" ∧ (parseMethodDescriptor yX9_day.desc).map (fun d => d.parameters.length) = some 1 := by decide +kernel
theorem hy_X9_sums : yX9_sums.cls ≠ "java/lang/invoke/MethodHandle" ∧ yX9_sums.cls ≠ "java/lang/invoke/VarHandle" ∧ (parseMethodDescriptor yX9_sums.desc).map (fun d => d.parameters.length) = some 2 := by decide +kernel
theorem hy_X9_layErrands : yX9_layErrands.cls ≠ "java/lang/invoke/MethodHandle" ∧ yX9_layErrands.cls ≠ "java/lang/invoke/VarHandle" ∧ (parseMethodDescriptor yX9_layErrands.desc).map (fun d => d.parameters.length) = some 2 := by decide +kernel
theorem hy_X9_netAs : yX9_netAs.cls ≠ "java/lang/invoke/MethodHandle" ∧ yX9_netAs.cls ≠ "java/lang/invoke/VarHandle" ∧ (parseMethodDescriptor yX9_netAs.desc).map (fun d => d.parameters.length) = some 3 := by decide +kernel
theorem hy_X9_regretOf : yX9_regretOf.cls ≠ "java/lang/invoke/MethodHandle" ∧ yX9_regretOf.cls ≠ "java/lang/invoke/VarHandle" ∧ (parseMethodDescriptor yX9_regretOf.desc).map (fun d => d.parameters.length) = some 2 := by decide +kernel
theorem hy_X9_isSooner : yX9_isSooner.cls ≠ "java/lang/invoke/MethodHandle" ∧ yX9_isSooner.cls ≠ "java/lang/invoke/VarHandle" ∧ (parseMethodDescriptor yX9_isSooner.desc).map (fun d => d.parameters.length) = some 2 := by decide +kernel
theorem hy_X9_firstSooner : yX9_firstSooner.cls ≠ "java/lang/invoke/MethodHandle" ∧ yX9_firstSooner.cls ≠ "java/lang/invoke/VarHandle" ∧ (parseMethodDescriptor yX9_firstSooner.desc).map (fun d => d.parameters.length) = some 1 := by decide +kernel
theorem hy_X9_reached : yX9_reached.cls ≠ "java/lang/invoke/MethodHandle" ∧ yX9_reached.cls ≠ "java/lang/invoke/VarHandle" ∧ (parseMethodDescriptor yX9_reached.desc).map (fun d => d.parameters.length) = some 1 := by decide +kernel
theorem hy_X9_draw : yX9_draw.cls ≠ "java/lang/invoke/MethodHandle" ∧ yX9_draw.cls ≠ "java/lang/invoke/VarHandle" ∧ (parseMethodDescriptor yX9_draw.desc).map (fun d => d.parameters.length) = some 1 := by decide +kernel
theorem hy_X9_whichLaw : yX9_whichLaw.cls ≠ "java/lang/invoke/MethodHandle" ∧ yX9_whichLaw.cls ≠ "java/lang/invoke/VarHandle" ∧ (parseMethodDescriptor yX9_whichLaw.desc).map (fun d => d.parameters.length) = some 1 := by decide +kernel
theorem hy_X9_withoutHis : yX9_withoutHis.cls ≠ "java/lang/invoke/MethodHandle" ∧ yX9_withoutHis.cls ≠ "java/lang/invoke/VarHandle" ∧ (parseMethodDescriptor yX9_withoutHis.desc).map (fun d => d.parameters.length) = some 2 := by decide +kernel
theorem hy_X9_houseOf : yX9_houseOf.cls ≠ "java/lang/invoke/MethodHandle" ∧ yX9_houseOf.cls ≠ "java/lang/invoke/VarHandle" ∧ (parseMethodDescriptor yX9_houseOf.desc).map (fun d => d.parameters.length) = some 2 := by decide +kernel
theorem hy_X9_giftTo : yX9_giftTo.cls ≠ "java/lang/invoke/MethodHandle" ∧ yX9_giftTo.cls ≠ "java/lang/invoke/VarHandle" ∧ (parseMethodDescriptor yX9_giftTo.desc).map (fun d => d.parameters.length) = some 2 := by decide +kernel
theorem hy_X9_copyAll : yX9_copyAll.cls ≠ "java/lang/invoke/MethodHandle" ∧ yX9_copyAll.cls ≠ "java/lang/invoke/VarHandle" ∧ (parseMethodDescriptor yX9_copyAll.desc).map (fun d => d.parameters.length) = some 2 := by decide +kernel
theorem hy_X2_copyFrom : yX2_copyFrom.cls ≠ "java/lang/invoke/MethodHandle" ∧ yX2_copyFrom.cls ≠ "java/lang/invoke/VarHandle" ∧ (parseMethodDescriptor yX2_copyFrom.desc).map (fun d => d.parameters.length) = some 1 := by decide +kernel
theorem hy_X7_copyFrom : yX7_copyFrom.cls ≠ "java/lang/invoke/MethodHandle" ∧ yX7_copyFrom.cls ≠ "java/lang/invoke/VarHandle" ∧ (parseMethodDescriptor yX7_copyFrom.desc).map (fun d => d.parameters.length) = some 1 := by decide +kernel
theorem hy_X1_join : yX1_join.cls ≠ "java/lang/invoke/MethodHandle" ∧ yX1_join.cls ≠ "java/lang/invoke/VarHandle" ∧ (parseMethodDescriptor yX1_join.desc).map (fun d => d.parameters.length) = some 3 := by decide +kernel
theorem hy_J7_fill_53178 : yJ7_fill_53178.cls ≠ "java/lang/invoke/MethodHandle" ∧ yJ7_fill_53178.cls ≠ "java/lang/invoke/VarHandle" ∧ (parseMethodDescriptor yJ7_fill_53178.desc).map (fun d => d.parameters.length) = some 2 := by decide +kernel
theorem hy_X1_lower : yX1_lower.cls ≠ "java/lang/invoke/MethodHandle" ∧ yX1_lower.cls ≠ "java/lang/invoke/VarHandle" ∧ (parseMethodDescriptor yX1_lower.desc).map (fun d => d.parameters.length) = some 3 := by decide +kernel
theorem hy_X1_lowerAllOver : yX1_lowerAllOver.cls ≠ "java/lang/invoke/MethodHandle" ∧ yX1_lowerAllOver.cls ≠ "java/lang/invoke/VarHandle" ∧ (parseMethodDescriptor yX1_lowerAllOver.desc).map (fun d => d.parameters.length) = some 3 := by decide +kernel
theorem hy_X7_worthFrom : yX7_worthFrom.cls ≠ "java/lang/invoke/MethodHandle" ∧ yX7_worthFrom.cls ≠ "java/lang/invoke/VarHandle" ∧ (parseMethodDescriptor yX7_worthFrom.desc).map (fun d => d.parameters.length) = some 2 := by decide +kernel
theorem hy_X1_layRoads : yX1_layRoads.cls ≠ "java/lang/invoke/MethodHandle" ∧ yX1_layRoads.cls ≠ "java/lang/invoke/VarHandle" ∧ (parseMethodDescriptor yX1_layRoads.desc).map (fun d => d.parameters.length) = some 1 := by decide +kernel
theorem hy_X1_layMinutes : yX1_layMinutes.cls ≠ "java/lang/invoke/MethodHandle" ∧ yX1_layMinutes.cls ≠ "java/lang/invoke/VarHandle" ∧ (parseMethodDescriptor yX1_layMinutes.desc).map (fun d => d.parameters.length) = some 1 := by decide +kernel
theorem hy_X1_layWorths : yX1_layWorths.cls ≠ "java/lang/invoke/MethodHandle" ∧ yX1_layWorths.cls ≠ "java/lang/invoke/VarHandle" ∧ (parseMethodDescriptor yX1_layWorths.desc).map (fun d => d.parameters.length) = some 1 := by decide +kernel
theorem hy_X1_mostWorthBehind : yX1_mostWorthBehind.cls ≠ "java/lang/invoke/MethodHandle" ∧ yX1_mostWorthBehind.cls ≠ "java/lang/invoke/VarHandle" ∧ (parseMethodDescriptor yX1_mostWorthBehind.desc).map (fun d => d.parameters.length) = some 2 := by decide +kernel
theorem hy_X7_hisBefore : yX7_hisBefore.cls ≠ "java/lang/invoke/MethodHandle" ∧ yX7_hisBefore.cls ≠ "java/lang/invoke/VarHandle" ∧ (parseMethodDescriptor yX7_hisBefore.desc).map (fun d => d.parameters.length) = some 2 := by decide +kernel
theorem hy_X3_toll : yX3_toll.cls ≠ "java/lang/invoke/MethodHandle" ∧ yX3_toll.cls ≠ "java/lang/invoke/VarHandle" ∧ (parseMethodDescriptor yX3_toll.desc).map (fun d => d.parameters.length) = some 1 := by decide +kernel
theorem hy_X3_costOf : yX3_costOf.cls ≠ "java/lang/invoke/MethodHandle" ∧ yX3_costOf.cls ≠ "java/lang/invoke/VarHandle" ∧ (parseMethodDescriptor yX3_costOf.desc).map (fun d => d.parameters.length) = some 2 := by decide +kernel
theorem hy_X3_goOn : yX3_goOn.cls ≠ "java/lang/invoke/MethodHandle" ∧ yX3_goOn.cls ≠ "java/lang/invoke/VarHandle" ∧ (parseMethodDescriptor yX3_goOn.desc).map (fun d => d.parameters.length) = some 6 := by decide +kernel
theorem hy_X3_offer : yX3_offer.cls ≠ "java/lang/invoke/MethodHandle" ∧ yX3_offer.cls ≠ "java/lang/invoke/VarHandle" ∧ (parseMethodDescriptor yX3_offer.desc).map (fun d => d.parameters.length) = some 3 := by decide +kernel
theorem hy_X3_weigh : yX3_weigh.cls ≠ "java/lang/invoke/MethodHandle" ∧ yX3_weigh.cls ≠ "java/lang/invoke/VarHandle" ∧ (parseMethodDescriptor yX3_weigh.desc).map (fun d => d.parameters.length) = some 1 := by decide +kernel
theorem hy_X3_goAround : yX3_goAround.cls ≠ "java/lang/invoke/MethodHandle" ∧ yX3_goAround.cls ≠ "java/lang/invoke/VarHandle" ∧ (parseMethodDescriptor yX3_goAround.desc).map (fun d => d.parameters.length) = some 6 := by decide +kernel
theorem hy_X3_meetRound : yX3_meetRound.cls ≠ "java/lang/invoke/MethodHandle" ∧ yX3_meetRound.cls ≠ "java/lang/invoke/VarHandle" ∧ (parseMethodDescriptor yX3_meetRound.desc).map (fun d => d.parameters.length) = some 3 := by decide +kernel
theorem hy_X7_ownerBehind : yX7_ownerBehind.cls ≠ "java/lang/invoke/MethodHandle" ∧ yX7_ownerBehind.cls ≠ "java/lang/invoke/VarHandle" ∧ (parseMethodDescriptor yX7_ownerBehind.desc).map (fun d => d.parameters.length) = some 3 := by decide +kernel
theorem hy_X7_putFirstOwners : yX7_putFirstOwners.cls ≠ "java/lang/invoke/MethodHandle" ∧ yX7_putFirstOwners.cls ≠ "java/lang/invoke/VarHandle" ∧ (parseMethodDescriptor yX7_putFirstOwners.desc).map (fun d => d.parameters.length) = some 1 := by decide +kernel
theorem hy_X4_payForWay : yX4_payForWay.cls ≠ "java/lang/invoke/MethodHandle" ∧ yX4_payForWay.cls ≠ "java/lang/invoke/VarHandle" ∧ (parseMethodDescriptor yX4_payForWay.desc).map (fun d => d.parameters.length) = some 1 := by decide +kernel
theorem hy_X3_takeRoadsOfBest : yX3_takeRoadsOfBest.cls ≠ "java/lang/invoke/MethodHandle" ∧ yX3_takeRoadsOfBest.cls ≠ "java/lang/invoke/VarHandle" ∧ (parseMethodDescriptor yX3_takeRoadsOfBest.desc).map (fun d => d.parameters.length) = some 1 := by decide +kernel
theorem hy_X3_take : yX3_take.cls ≠ "java/lang/invoke/MethodHandle" ∧ yX3_take.cls ≠ "java/lang/invoke/VarHandle" ∧ (parseMethodDescriptor yX3_take.desc).map (fun d => d.parameters.length) = some 4 := by decide +kernel
theorem hy_X3_seekWay : yX3_seekWay.cls ≠ "java/lang/invoke/MethodHandle" ∧ yX3_seekWay.cls ≠ "java/lang/invoke/VarHandle" ∧ (parseMethodDescriptor yX3_seekWay.desc).map (fun d => d.parameters.length) = some 3 := by decide +kernel
theorem hy_X4_walkBest : yX4_walkBest.cls ≠ "java/lang/invoke/MethodHandle" ∧ yX4_walkBest.cls ≠ "java/lang/invoke/VarHandle" ∧ (parseMethodDescriptor yX4_walkBest.desc).map (fun d => d.parameters.length) = some 3 := by decide +kernel
theorem hy_X4_putInOrder : yX4_putInOrder.cls ≠ "java/lang/invoke/MethodHandle" ∧ yX4_putInOrder.cls ≠ "java/lang/invoke/VarHandle" ∧ (parseMethodDescriptor yX4_putInOrder.desc).map (fun d => d.parameters.length) = some 2 := by decide +kernel
theorem hy_X4_begin : yX4_begin.cls ≠ "java/lang/invoke/MethodHandle" ∧ yX4_begin.cls ≠ "java/lang/invoke/VarHandle" ∧ (parseMethodDescriptor yX4_begin.desc).map (fun d => d.parameters.length) = some 1 := by decide +kernel
theorem hy_X4_goDay : yX4_goDay.cls ≠ "java/lang/invoke/MethodHandle" ∧ yX4_goDay.cls ≠ "java/lang/invoke/VarHandle" ∧ (parseMethodDescriptor yX4_goDay.desc).map (fun d => d.parameters.length) = some 2 := by decide +kernel
theorem hy_X4_figure : yX4_figure.cls ≠ "java/lang/invoke/MethodHandle" ∧ yX4_figure.cls ≠ "java/lang/invoke/VarHandle" ∧ (parseMethodDescriptor yX4_figure.desc).map (fun d => d.parameters.length) = some 3 := by decide +kernel
theorem hy_X5_isLetter : yX5_isLetter.cls ≠ "java/lang/invoke/MethodHandle" ∧ yX5_isLetter.cls ≠ "java/lang/invoke/VarHandle" ∧ (parseMethodDescriptor yX5_isLetter.desc).map (fun d => d.parameters.length) = some 1 := by decide +kernel
theorem hy_X5_isDigit : yX5_isDigit.cls ≠ "java/lang/invoke/MethodHandle" ∧ yX5_isDigit.cls ≠ "java/lang/invoke/VarHandle" ∧ (parseMethodDescriptor yX5_isDigit.desc).map (fun d => d.parameters.length) = some 1 := by decide +kernel
theorem hy_X5_nextNumber : yX5_nextNumber.cls ≠ "java/lang/invoke/MethodHandle" ∧ yX5_nextNumber.cls ≠ "java/lang/invoke/VarHandle" ∧ (parseMethodDescriptor yX5_nextNumber.desc).map (fun d => d.parameters.length) = some 0 := by decide +kernel
theorem hy_X5_nextWord : yX5_nextWord.cls ≠ "java/lang/invoke/MethodHandle" ∧ yX5_nextWord.cls ≠ "java/lang/invoke/VarHandle" ∧ (parseMethodDescriptor yX5_nextWord.desc).map (fun d => d.parameters.length) = some 0 := by decide +kernel
theorem hy_X5_isBlank : yX5_isBlank.cls ≠ "java/lang/invoke/MethodHandle" ∧ yX5_isBlank.cls ≠ "java/lang/invoke/VarHandle" ∧ (parseMethodDescriptor yX5_isBlank.desc).map (fun d => d.parameters.length) = some 1 := by decide +kernel
theorem hy_J0_length_8abf5 : yJ0_length_8abf5.cls ≠ "java/lang/invoke/MethodHandle" ∧ yJ0_length_8abf5.cls ≠ "java/lang/invoke/VarHandle" ∧ (parseMethodDescriptor yJ0_length_8abf5.desc).map (fun d => d.parameters.length) = some 0 := by decide +kernel
theorem hy_J0_charAt_5068e : yJ0_charAt_5068e.cls ≠ "java/lang/invoke/MethodHandle" ∧ yJ0_charAt_5068e.cls ≠ "java/lang/invoke/VarHandle" ∧ (parseMethodDescriptor yJ0_charAt_5068e.desc).map (fun d => d.parameters.length) = some 1 := by decide +kernel
theorem hy_X5_wordOf : yX5_wordOf.cls ≠ "java/lang/invoke/MethodHandle" ∧ yX5_wordOf.cls ≠ "java/lang/invoke/VarHandle" ∧ (parseMethodDescriptor yX5_wordOf.desc).map (fun d => d.parameters.length) = some 1 := by decide +kernel
theorem hy_X5_isWord : yX5_isWord.cls ≠ "java/lang/invoke/MethodHandle" ∧ yX5_isWord.cls ≠ "java/lang/invoke/VarHandle" ∧ (parseMethodDescriptor yX5_isWord.desc).map (fun d => d.parameters.length) = some 1 := by decide +kernel
theorem hy_X5_next : yX5_next.cls ≠ "java/lang/invoke/MethodHandle" ∧ yX5_next.cls ≠ "java/lang/invoke/VarHandle" ∧ (parseMethodDescriptor yX5_next.desc).map (fun d => d.parameters.length) = some 0 := by decide +kernel
theorem hy_X5_canBe : yX5_canBe.cls ≠ "java/lang/invoke/MethodHandle" ∧ yX5_canBe.cls ≠ "java/lang/invoke/VarHandle" ∧ (parseMethodDescriptor yX5_canBe.desc).map (fun d => d.parameters.length) = some 2 := by decide +kernel
theorem hy_X5_putFault : yX5_putFault.cls ≠ "java/lang/invoke/MethodHandle" ∧ yX5_putFault.cls ≠ "java/lang/invoke/VarHandle" ∧ (parseMethodDescriptor yX5_putFault.desc).map (fun d => d.parameters.length) = some 2 := by decide +kernel
theorem hy_X5_isFull : yX5_isFull.cls ≠ "java/lang/invoke/MethodHandle" ∧ yX5_isFull.cls ≠ "java/lang/invoke/VarHandle" ∧ (parseMethodDescriptor yX5_isFull.desc).map (fun d => d.parameters.length) = some 1 := by decide +kernel
theorem hy_X5_addPerson : yX5_addPerson.cls ≠ "java/lang/invoke/MethodHandle" ∧ yX5_addPerson.cls ≠ "java/lang/invoke/VarHandle" ∧ (parseMethodDescriptor yX5_addPerson.desc).map (fun d => d.parameters.length) = some 1 := by decide +kernel
theorem hy_X2_add : yX2_add.cls ≠ "java/lang/invoke/MethodHandle" ∧ yX2_add.cls ≠ "java/lang/invoke/VarHandle" ∧ (parseMethodDescriptor yX2_add.desc).map (fun d => d.parameters.length) = some 2 := by decide +kernel
theorem hy_X5_addRoad : yX5_addRoad.cls ≠ "java/lang/invoke/MethodHandle" ∧ yX5_addRoad.cls ≠ "java/lang/invoke/VarHandle" ∧ (parseMethodDescriptor yX5_addRoad.desc).map (fun d => d.parameters.length) = some 0 := by decide +kernel
theorem hy_X5_addErrand : yX5_addErrand.cls ≠ "java/lang/invoke/MethodHandle" ∧ yX5_addErrand.cls ≠ "java/lang/invoke/VarHandle" ∧ (parseMethodDescriptor yX5_addErrand.desc).map (fun d => d.parameters.length) = some 0 := by decide +kernel
theorem hy_X5_takeLine : yX5_takeLine.cls ≠ "java/lang/invoke/MethodHandle" ∧ yX5_takeLine.cls ≠ "java/lang/invoke/VarHandle" ∧ (parseMethodDescriptor yX5_takeLine.desc).map (fun d => d.parameters.length) = some 1 := by decide +kernel
theorem hy_X5_lineOfWord : yX5_lineOfWord.cls ≠ "java/lang/invoke/MethodHandle" ∧ yX5_lineOfWord.cls ≠ "java/lang/invoke/VarHandle" ∧ (parseMethodDescriptor yX5_lineOfWord.desc).map (fun d => d.parameters.length) = some 2 := by decide +kernel
theorem hy_X5_readNumbers : yX5_readNumbers.cls ≠ "java/lang/invoke/MethodHandle" ∧ yX5_readNumbers.cls ≠ "java/lang/invoke/VarHandle" ∧ (parseMethodDescriptor yX5_readNumbers.desc).map (fun d => d.parameters.length) = some 1 := by decide +kernel
theorem hy_X5_checkLine : yX5_checkLine.cls ≠ "java/lang/invoke/MethodHandle" ∧ yX5_checkLine.cls ≠ "java/lang/invoke/VarHandle" ∧ (parseMethodDescriptor yX5_checkLine.desc).map (fun d => d.parameters.length) = some 1 := by decide +kernel
theorem hy_X5_open : yX5_open.cls ≠ "java/lang/invoke/MethodHandle" ∧ yX5_open.cls ≠ "java/lang/invoke/VarHandle" ∧ (parseMethodDescriptor yX5_open.desc).map (fun d => d.parameters.length) = some 2 := by decide +kernel
theorem hy_X7_clear : yX7_clear.cls ≠ "java/lang/invoke/MethodHandle" ∧ yX7_clear.cls ≠ "java/lang/invoke/VarHandle" ∧ (parseMethodDescriptor yX7_clear.desc).map (fun d => d.parameters.length) = some 0 := by decide +kernel
theorem hy_X5_readLines : yX5_readLines.cls ≠ "java/lang/invoke/MethodHandle" ∧ yX5_readLines.cls ≠ "java/lang/invoke/VarHandle" ∧ (parseMethodDescriptor yX5_readLines.desc).map (fun d => d.parameters.length) = some 2 := by decide +kernel
theorem hy_X5_placesFit : yX5_placesFit.cls ≠ "java/lang/invoke/MethodHandle" ∧ yX5_placesFit.cls ≠ "java/lang/invoke/VarHandle" ∧ (parseMethodDescriptor yX5_placesFit.desc).map (fun d => d.parameters.length) = some 0 := by decide +kernel
theorem hy_X6_payFor : yX6_payFor.cls ≠ "java/lang/invoke/MethodHandle" ∧ yX6_payFor.cls ≠ "java/lang/invoke/VarHandle" ∧ (parseMethodDescriptor yX6_payFor.desc).map (fun d => d.parameters.length) = some 3 := by decide +kernel
theorem hy_X7_hasPerson : yX7_hasPerson.cls ≠ "java/lang/invoke/MethodHandle" ∧ yX7_hasPerson.cls ≠ "java/lang/invoke/VarHandle" ∧ (parseMethodDescriptor yX7_hasPerson.desc).map (fun d => d.parameters.length) = some 1 := by decide +kernel
theorem hy_X7_hasRoad : yX7_hasRoad.cls ≠ "java/lang/invoke/MethodHandle" ∧ yX7_hasRoad.cls ≠ "java/lang/invoke/VarHandle" ∧ (parseMethodDescriptor yX7_hasRoad.desc).map (fun d => d.parameters.length) = some 1 := by decide +kernel
theorem hy_X7_farEnd : yX7_farEnd.cls ≠ "java/lang/invoke/MethodHandle" ∧ yX7_farEnd.cls ≠ "java/lang/invoke/VarHandle" ∧ (parseMethodDescriptor yX7_farEnd.desc).map (fun d => d.parameters.length) = some 2 := by decide +kernel
theorem hy_X6_isWalkedByAnother : yX6_isWalkedByAnother.cls ≠ "java/lang/invoke/MethodHandle" ∧ yX6_isWalkedByAnother.cls ≠ "java/lang/invoke/VarHandle" ∧ (parseMethodDescriptor yX6_isWalkedByAnother.desc).map (fun d => d.parameters.length) = some 3 := by decide +kernel
theorem hy_X6_step : yX6_step.cls ≠ "java/lang/invoke/MethodHandle" ∧ yX6_step.cls ≠ "java/lang/invoke/VarHandle" ∧ (parseMethodDescriptor yX6_step.desc).map (fun d => d.parameters.length) = some 3 := by decide +kernel
theorem hy_X6_begin : yX6_begin.cls ≠ "java/lang/invoke/MethodHandle" ∧ yX6_begin.cls ≠ "java/lang/invoke/VarHandle" ∧ (parseMethodDescriptor yX6_begin.desc).map (fun d => d.parameters.length) = some 1 := by decide +kernel
theorem hy_X0_push : yX0_push.cls ≠ "java/lang/invoke/MethodHandle" ∧ yX0_push.cls ≠ "java/lang/invoke/VarHandle" ∧ (parseMethodDescriptor yX0_push.desc).map (fun d => d.parameters.length) = some 1 := by decide +kernel
theorem hy_X8_placeFor : yX8_placeFor.cls ≠ "java/lang/invoke/MethodHandle" ∧ yX8_placeFor.cls ≠ "java/lang/invoke/VarHandle" ∧ (parseMethodDescriptor yX8_placeFor.desc).map (fun d => d.parameters.length) = some 3 := by decide +kernel
theorem hy_X5_readTown : yX5_readTown.cls ≠ "java/lang/invoke/MethodHandle" ∧ yX5_readTown.cls ≠ "java/lang/invoke/VarHandle" ∧ (parseMethodDescriptor yX5_readTown.desc).map (fun d => d.parameters.length) = some 2 := by decide +kernel
theorem hy_X8_keepFault : yX8_keepFault.cls ≠ "java/lang/invoke/MethodHandle" ∧ yX8_keepFault.cls ≠ "java/lang/invoke/VarHandle" ∧ (parseMethodDescriptor yX8_keepFault.desc).map (fun d => d.parameters.length) = some 0 := by decide +kernel
theorem hy_X5_readDay : yX5_readDay.cls ≠ "java/lang/invoke/MethodHandle" ∧ yX5_readDay.cls ≠ "java/lang/invoke/VarHandle" ∧ (parseMethodDescriptor yX5_readDay.desc).map (fun d => d.parameters.length) = some 2 := by decide +kernel
theorem hy_X8_takeDay : yX8_takeDay.cls ≠ "java/lang/invoke/MethodHandle" ∧ yX8_takeDay.cls ≠ "java/lang/invoke/VarHandle" ∧ (parseMethodDescriptor yX8_takeDay.desc).map (fun d => d.parameters.length) = some 2 := by decide +kernel
theorem hy_X8_takeTown : yX8_takeTown.cls ≠ "java/lang/invoke/MethodHandle" ∧ yX8_takeTown.cls ≠ "java/lang/invoke/VarHandle" ∧ (parseMethodDescriptor yX8_takeTown.desc).map (fun d => d.parameters.length) = some 2 := by decide +kernel
theorem hy_X0_townAt : yX0_townAt.cls ≠ "java/lang/invoke/MethodHandle" ∧ yX0_townAt.cls ≠ "java/lang/invoke/VarHandle" ∧ (parseMethodDescriptor yX0_townAt.desc).map (fun d => d.parameters.length) = some 1 := by decide +kernel
theorem hy_X7_hasErrand : yX7_hasErrand.cls ≠ "java/lang/invoke/MethodHandle" ∧ yX7_hasErrand.cls ≠ "java/lang/invoke/VarHandle" ∧ (parseMethodDescriptor yX7_hasErrand.desc).map (fun d => d.parameters.length) = some 1 := by decide +kernel
theorem hy_X0_dayAt : yX0_dayAt.cls ≠ "java/lang/invoke/MethodHandle" ∧ yX0_dayAt.cls ≠ "java/lang/invoke/VarHandle" ∧ (parseMethodDescriptor yX0_dayAt.desc).map (fun d => d.parameters.length) = some 1 := by decide +kernel
theorem hy_X0_copyFrom : yX0_copyFrom.cls ≠ "java/lang/invoke/MethodHandle" ∧ yX0_copyFrom.cls ≠ "java/lang/invoke/VarHandle" ∧ (parseMethodDescriptor yX0_copyFrom.desc).map (fun d => d.parameters.length) = some 1 := by decide +kernel
theorem hy_X6_play : yX6_play.cls ≠ "java/lang/invoke/MethodHandle" ∧ yX6_play.cls ≠ "java/lang/invoke/VarHandle" ∧ (parseMethodDescriptor yX6_play.desc).map (fun d => d.parameters.length) = some 3 := by decide +kernel
theorem hy_X8_townOfState : yX8_townOfState.cls ≠ "java/lang/invoke/MethodHandle" ∧ yX8_townOfState.cls ≠ "java/lang/invoke/VarHandle" ∧ (parseMethodDescriptor yX8_townOfState.desc).map (fun d => d.parameters.length) = some 3 := by decide +kernel
theorem hy_X6_broughtFrom : yX6_broughtFrom.cls ≠ "java/lang/invoke/MethodHandle" ∧ yX6_broughtFrom.cls ≠ "java/lang/invoke/VarHandle" ∧ (parseMethodDescriptor yX6_broughtFrom.desc).map (fun d => d.parameters.length) = some 4 := by decide +kernel
theorem hy_X8_isMinute : yX8_isMinute.cls ≠ "java/lang/invoke/MethodHandle" ∧ yX8_isMinute.cls ≠ "java/lang/invoke/VarHandle" ∧ (parseMethodDescriptor yX8_isMinute.desc).map (fun d => d.parameters.length) = some 1 := by decide +kernel
theorem hy_X7_hasPlace : yX7_hasPlace.cls ≠ "java/lang/invoke/MethodHandle" ∧ yX7_hasPlace.cls ≠ "java/lang/invoke/VarHandle" ∧ (parseMethodDescriptor yX7_hasPlace.desc).map (fun d => d.parameters.length) = some 1 := by decide +kernel
theorem hy_X1_layOut : yX1_layOut.cls ≠ "java/lang/invoke/MethodHandle" ∧ yX1_layOut.cls ≠ "java/lang/invoke/VarHandle" ∧ (parseMethodDescriptor yX1_layOut.desc).map (fun d => d.parameters.length) = some 1 := by decide +kernel
theorem hy_X8_findWay : yX8_findWay.cls ≠ "java/lang/invoke/MethodHandle" ∧ yX8_findWay.cls ≠ "java/lang/invoke/VarHandle" ∧ (parseMethodDescriptor yX8_findWay.desc).map (fun d => d.parameters.length) = some 6 := by decide +kernel
theorem hy_X3_tellRow : yX3_tellRow.cls ≠ "java/lang/invoke/MethodHandle" ∧ yX3_tellRow.cls ≠ "java/lang/invoke/VarHandle" ∧ (parseMethodDescriptor yX3_tellRow.desc).map (fun d => d.parameters.length) = some 2 := by decide +kernel
theorem hy_X3_tollOfBest : yX3_tollOfBest.cls ≠ "java/lang/invoke/MethodHandle" ∧ yX3_tollOfBest.cls ≠ "java/lang/invoke/VarHandle" ∧ (parseMethodDescriptor yX3_tollOfBest.desc).map (fun d => d.parameters.length) = some 0 := by decide +kernel
theorem hy_X3_seekRounds : yX3_seekRounds.cls ≠ "java/lang/invoke/MethodHandle" ∧ yX3_seekRounds.cls ≠ "java/lang/invoke/VarHandle" ∧ (parseMethodDescriptor yX3_seekRounds.desc).map (fun d => d.parameters.length) = some 3 := by decide +kernel
theorem hy_X8_findRounds : yX8_findRounds.cls ≠ "java/lang/invoke/MethodHandle" ∧ yX8_findRounds.cls ≠ "java/lang/invoke/VarHandle" ∧ (parseMethodDescriptor yX8_findRounds.desc).map (fun d => d.parameters.length) = some 5 := by decide +kernel
theorem hy_X4_goAll : yX4_goAll.cls ≠ "java/lang/invoke/MethodHandle" ∧ yX4_goAll.cls ≠ "java/lang/invoke/VarHandle" ∧ (parseMethodDescriptor yX4_goAll.desc).map (fun d => d.parameters.length) = some 2 := by decide +kernel
theorem hy_X4_sumOf : yX4_sumOf.cls ≠ "java/lang/invoke/MethodHandle" ∧ yX4_sumOf.cls ≠ "java/lang/invoke/VarHandle" ∧ (parseMethodDescriptor yX4_sumOf.desc).map (fun d => d.parameters.length) = some 2 := by decide +kernel
theorem hy_X8_planFor : yX8_planFor.cls ≠ "java/lang/invoke/MethodHandle" ∧ yX8_planFor.cls ≠ "java/lang/invoke/VarHandle" ∧ (parseMethodDescriptor yX8_planFor.desc).map (fun d => d.parameters.length) = some 2 := by decide +kernel
theorem hy_X4_roadsOf : yX4_roadsOf.cls ≠ "java/lang/invoke/MethodHandle" ∧ yX4_roadsOf.cls ≠ "java/lang/invoke/VarHandle" ∧ (parseMethodDescriptor yX4_roadsOf.desc).map (fun d => d.parameters.length) = some 2 := by decide +kernel
theorem hy_X8_sumByLaw : yX8_sumByLaw.cls ≠ "java/lang/invoke/MethodHandle" ∧ yX8_sumByLaw.cls ≠ "java/lang/invoke/VarHandle" ∧ (parseMethodDescriptor yX8_sumByLaw.desc).map (fun d => d.parameters.length) = some 4 := by decide +kernel
theorem hy_X8_netByKind : yX8_netByKind.cls ≠ "java/lang/invoke/MethodHandle" ∧ yX8_netByKind.cls ≠ "java/lang/invoke/VarHandle" ∧ (parseMethodDescriptor yX8_netByKind.desc).map (fun d => d.parameters.length) = some 4 := by decide +kernel
theorem hy_X8_bestKind : yX8_bestKind.cls ≠ "java/lang/invoke/MethodHandle" ∧ yX8_bestKind.cls ≠ "java/lang/invoke/VarHandle" ∧ (parseMethodDescriptor yX8_bestKind.desc).map (fun d => d.parameters.length) = some 3 := by decide +kernel
theorem hy_X7_errandsOf : yX7_errandsOf.cls ≠ "java/lang/invoke/MethodHandle" ∧ yX7_errandsOf.cls ≠ "java/lang/invoke/VarHandle" ∧ (parseMethodDescriptor yX7_errandsOf.desc).map (fun d => d.parameters.length) = some 1 := by decide +kernel
theorem hy_X8_wouldChange : yX8_wouldChange.cls ≠ "java/lang/invoke/MethodHandle" ∧ yX8_wouldChange.cls ≠ "java/lang/invoke/VarHandle" ∧ (parseMethodDescriptor yX8_wouldChange.desc).map (fun d => d.parameters.length) = some 3 := by decide +kernel
theorem hy_X7_kindsByThree : yX7_kindsByThree.cls ≠ "java/lang/invoke/MethodHandle" ∧ yX7_kindsByThree.cls ≠ "java/lang/invoke/VarHandle" ∧ (parseMethodDescriptor yX7_kindsByThree.desc).map (fun d => d.parameters.length) = some 0 := by decide +kernel
theorem hy_X8_walkedIfFree : yX8_walkedIfFree.cls ≠ "java/lang/invoke/MethodHandle" ∧ yX8_walkedIfFree.cls ≠ "java/lang/invoke/VarHandle" ∧ (parseMethodDescriptor yX8_walkedIfFree.desc).map (fun d => d.parameters.length) = some 3 := by decide +kernel
theorem hy_X4_idleRoads : yX4_idleRoads.cls ≠ "java/lang/invoke/MethodHandle" ∧ yX4_idleRoads.cls ≠ "java/lang/invoke/VarHandle" ∧ (parseMethodDescriptor yX4_idleRoads.desc).map (fun d => d.parameters.length) = some 1 := by decide +kernel
theorem hy_X8_bestLaw : yX8_bestLaw.cls ≠ "java/lang/invoke/MethodHandle" ∧ yX8_bestLaw.cls ≠ "java/lang/invoke/VarHandle" ∧ (parseMethodDescriptor yX8_bestLaw.desc).map (fun d => d.parameters.length) = some 2 := by decide +kernel
theorem hy_X8_netOf : yX8_netOf.cls ≠ "java/lang/invoke/MethodHandle" ∧ yX8_netOf.cls ≠ "java/lang/invoke/VarHandle" ∧ (parseMethodDescriptor yX8_netOf.desc).map (fun d => d.parameters.length) = some 3 := by decide +kernel
theorem hy_X8_bestHouse : yX8_bestHouse.cls ≠ "java/lang/invoke/MethodHandle" ∧ yX8_bestHouse.cls ≠ "java/lang/invoke/VarHandle" ∧ (parseMethodDescriptor yX8_bestHouse.desc).map (fun d => d.parameters.length) = some 3 := by decide +kernel
theorem hy_X8_bestGift : yX8_bestGift.cls ≠ "java/lang/invoke/MethodHandle" ∧ yX8_bestGift.cls ≠ "java/lang/invoke/VarHandle" ∧ (parseMethodDescriptor yX8_bestGift.desc).map (fun d => d.parameters.length) = some 3 := by decide +kernel
theorem hy_X8_walkedByOthers : yX8_walkedByOthers.cls ≠ "java/lang/invoke/MethodHandle" ∧ yX8_walkedByOthers.cls ≠ "java/lang/invoke/VarHandle" ∧ (parseMethodDescriptor yX8_walkedByOthers.desc).map (fun d => d.parameters.length) = some 3 := by decide +kernel
theorem hy_X4_goDays : yX4_goDays.cls ≠ "java/lang/invoke/MethodHandle" ∧ yX4_goDays.cls ≠ "java/lang/invoke/VarHandle" ∧ (parseMethodDescriptor yX4_goDays.desc).map (fun d => d.parameters.length) = some 3 := by decide +kernel
theorem hy_X7_reachedFrom : yX7_reachedFrom.cls ≠ "java/lang/invoke/MethodHandle" ∧ yX7_reachedFrom.cls ≠ "java/lang/invoke/VarHandle" ∧ (parseMethodDescriptor yX7_reachedFrom.desc).map (fun d => d.parameters.length) = some 2 := by decide +kernel
theorem hy_X8_errandsThatNeed : yX8_errandsThatNeed.cls ≠ "java/lang/invoke/MethodHandle" ∧ yX8_errandsThatNeed.cls ≠ "java/lang/invoke/VarHandle" ∧ (parseMethodDescriptor yX8_errandsThatNeed.desc).map (fun d => d.parameters.length) = some 2 := by decide +kernel
theorem hy_X8_minutesToErrands : yX8_minutesToErrands.cls ≠ "java/lang/invoke/MethodHandle" ∧ yX8_minutesToErrands.cls ≠ "java/lang/invoke/VarHandle" ∧ (parseMethodDescriptor yX8_minutesToErrands.desc).map (fun d => d.parameters.length) = some 3 := by decide +kernel
theorem hy_J6_bitCount_0f7a4 : yJ6_bitCount_0f7a4.cls ≠ "java/lang/invoke/MethodHandle" ∧ yJ6_bitCount_0f7a4.cls ≠ "java/lang/invoke/VarHandle" ∧ (parseMethodDescriptor yJ6_bitCount_0f7a4.desc).map (fun d => d.parameters.length) = some 1 := by decide +kernel
theorem hy_X2_init : yX2_init.cls ≠ "java/lang/invoke/MethodHandle" ∧ yX2_init.cls ≠ "java/lang/invoke/VarHandle" ∧ (parseMethodDescriptor yX2_init.desc).map (fun d => d.parameters.length) = some 0 := by decide +kernel
theorem hy_X7_init : yX7_init.cls ≠ "java/lang/invoke/MethodHandle" ∧ yX7_init.cls ≠ "java/lang/invoke/VarHandle" ∧ (parseMethodDescriptor yX7_init.desc).map (fun d => d.parameters.length) = some 0 := by decide +kernel
theorem hy_X1_init : yX1_init.cls ≠ "java/lang/invoke/MethodHandle" ∧ yX1_init.cls ≠ "java/lang/invoke/VarHandle" ∧ (parseMethodDescriptor yX1_init.desc).map (fun d => d.parameters.length) = some 0 := by decide +kernel
theorem hy_X5_init : yX5_init.cls ≠ "java/lang/invoke/MethodHandle" ∧ yX5_init.cls ≠ "java/lang/invoke/VarHandle" ∧ (parseMethodDescriptor yX5_init.desc).map (fun d => d.parameters.length) = some 0 := by decide +kernel
theorem hy_X6_init : yX6_init.cls ≠ "java/lang/invoke/MethodHandle" ∧ yX6_init.cls ≠ "java/lang/invoke/VarHandle" ∧ (parseMethodDescriptor yX6_init.desc).map (fun d => d.parameters.length) = some 0 := by decide +kernel
theorem hy_X3_init : yX3_init.cls ≠ "java/lang/invoke/MethodHandle" ∧ yX3_init.cls ≠ "java/lang/invoke/VarHandle" ∧ (parseMethodDescriptor yX3_init.desc).map (fun d => d.parameters.length) = some 0 := by decide +kernel
theorem hy_X4_init : yX4_init.cls ≠ "java/lang/invoke/MethodHandle" ∧ yX4_init.cls ≠ "java/lang/invoke/VarHandle" ∧ (parseMethodDescriptor yX4_init.desc).map (fun d => d.parameters.length) = some 1 := by decide +kernel
theorem hy_X0_init : yX0_init.cls ≠ "java/lang/invoke/MethodHandle" ∧ yX0_init.cls ≠ "java/lang/invoke/VarHandle" ∧ (parseMethodDescriptor yX0_init.desc).map (fun d => d.parameters.length) = some 0 := by decide +kernel
theorem hy_X8_feed : yX8_feed.cls ≠ "java/lang/invoke/MethodHandle" ∧ yX8_feed.cls ≠ "java/lang/invoke/VarHandle" ∧ (parseMethodDescriptor yX8_feed.desc).map (fun d => d.parameters.length) = some 5 := by decide +kernel
theorem hy_X9_feed : yX9_feed.cls ≠ "java/lang/invoke/MethodHandle" ∧ yX9_feed.cls ≠ "java/lang/invoke/VarHandle" ∧ (parseMethodDescriptor yX9_feed.desc).map (fun d => d.parameters.length) = some 5 := by decide +kernel
theorem hy_X8_end : yX8_end.cls ≠ "java/lang/invoke/MethodHandle" ∧ yX8_end.cls ≠ "java/lang/invoke/VarHandle" ∧ (parseMethodDescriptor yX8_end.desc).map (fun d => d.parameters.length) = some 1 := by decide +kernel
theorem hy_X9_end : yX9_end.cls ≠ "java/lang/invoke/MethodHandle" ∧ yX9_end.cls ≠ "java/lang/invoke/VarHandle" ∧ (parseMethodDescriptor yX9_end.desc).map (fun d => d.parameters.length) = some 1 := by decide +kernel
theorem hy_X8_text : yX8_text.cls ≠ "java/lang/invoke/MethodHandle" ∧ yX8_text.cls ≠ "java/lang/invoke/VarHandle" ∧ (parseMethodDescriptor yX8_text.desc).map (fun d => d.parameters.length) = some 2 := by decide +kernel
theorem hy_X9_text : yX9_text.cls ≠ "java/lang/invoke/MethodHandle" ∧ yX9_text.cls ≠ "java/lang/invoke/VarHandle" ∧ (parseMethodDescriptor yX9_text.desc).map (fun d => d.parameters.length) = some 2 := by decide +kernel
theorem hy_X8_fault : yX8_fault.cls ≠ "java/lang/invoke/MethodHandle" ∧ yX8_fault.cls ≠ "java/lang/invoke/VarHandle" ∧ (parseMethodDescriptor yX8_fault.desc).map (fun d => d.parameters.length) = some 1 := by decide +kernel
theorem hy_X9_fault : yX9_fault.cls ≠ "java/lang/invoke/MethodHandle" ∧ yX9_fault.cls ≠ "java/lang/invoke/VarHandle" ∧ (parseMethodDescriptor yX9_fault.desc).map (fun d => d.parameters.length) = some 1 := by decide +kernel
theorem hy_X8_town : yX8_town.cls ≠ "java/lang/invoke/MethodHandle" ∧ yX8_town.cls ≠ "java/lang/invoke/VarHandle" ∧ (parseMethodDescriptor yX8_town.desc).map (fun d => d.parameters.length) = some 2 := by decide +kernel
theorem hy_X9_town : yX9_town.cls ≠ "java/lang/invoke/MethodHandle" ∧ yX9_town.cls ≠ "java/lang/invoke/VarHandle" ∧ (parseMethodDescriptor yX9_town.desc).map (fun d => d.parameters.length) = some 2 := by decide +kernel
theorem hy_X8_road : yX8_road.cls ≠ "java/lang/invoke/MethodHandle" ∧ yX8_road.cls ≠ "java/lang/invoke/VarHandle" ∧ (parseMethodDescriptor yX8_road.desc).map (fun d => d.parameters.length) = some 3 := by decide +kernel
theorem hy_X9_road : yX9_road.cls ≠ "java/lang/invoke/MethodHandle" ∧ yX9_road.cls ≠ "java/lang/invoke/VarHandle" ∧ (parseMethodDescriptor yX9_road.desc).map (fun d => d.parameters.length) = some 3 := by decide +kernel
theorem hy_X8_person : yX8_person.cls ≠ "java/lang/invoke/MethodHandle" ∧ yX8_person.cls ≠ "java/lang/invoke/VarHandle" ∧ (parseMethodDescriptor yX8_person.desc).map (fun d => d.parameters.length) = some 3 := by decide +kernel
theorem hy_X9_person : yX9_person.cls ≠ "java/lang/invoke/MethodHandle" ∧ yX9_person.cls ≠ "java/lang/invoke/VarHandle" ∧ (parseMethodDescriptor yX9_person.desc).map (fun d => d.parameters.length) = some 3 := by decide +kernel
theorem hy_X8_errand : yX8_errand.cls ≠ "java/lang/invoke/MethodHandle" ∧ yX8_errand.cls ≠ "java/lang/invoke/VarHandle" ∧ (parseMethodDescriptor yX8_errand.desc).map (fun d => d.parameters.length) = some 3 := by decide +kernel
theorem hy_X9_errand : yX9_errand.cls ≠ "java/lang/invoke/MethodHandle" ∧ yX9_errand.cls ≠ "java/lang/invoke/VarHandle" ∧ (parseMethodDescriptor yX9_errand.desc).map (fun d => d.parameters.length) = some 3 := by decide +kernel
theorem hy_X8_move : yX8_move.cls ≠ "java/lang/invoke/MethodHandle" ∧ yX8_move.cls ≠ "java/lang/invoke/VarHandle" ∧ (parseMethodDescriptor yX8_move.desc).map (fun d => d.parameters.length) = some 3 := by decide +kernel
theorem hy_X9_move : yX9_move.cls ≠ "java/lang/invoke/MethodHandle" ∧ yX9_move.cls ≠ "java/lang/invoke/VarHandle" ∧ (parseMethodDescriptor yX9_move.desc).map (fun d => d.parameters.length) = some 3 := by decide +kernel
theorem hy_X8_run : yX8_run.cls ≠ "java/lang/invoke/MethodHandle" ∧ yX8_run.cls ≠ "java/lang/invoke/VarHandle" ∧ (parseMethodDescriptor yX8_run.desc).map (fun d => d.parameters.length) = some 3 := by decide +kernel
theorem hy_X9_run : yX9_run.cls ≠ "java/lang/invoke/MethodHandle" ∧ yX9_run.cls ≠ "java/lang/invoke/VarHandle" ∧ (parseMethodDescriptor yX9_run.desc).map (fun d => d.parameters.length) = some 3 := by decide +kernel
theorem hy_X8_state : yX8_state.cls ≠ "java/lang/invoke/MethodHandle" ∧ yX8_state.cls ≠ "java/lang/invoke/VarHandle" ∧ (parseMethodDescriptor yX8_state.desc).map (fun d => d.parameters.length) = some 4 := by decide +kernel
theorem hy_X9_state : yX9_state.cls ≠ "java/lang/invoke/MethodHandle" ∧ yX9_state.cls ≠ "java/lang/invoke/VarHandle" ∧ (parseMethodDescriptor yX9_state.desc).map (fun d => d.parameters.length) = some 4 := by decide +kernel
theorem hy_X8_paid : yX8_paid.cls ≠ "java/lang/invoke/MethodHandle" ∧ yX8_paid.cls ≠ "java/lang/invoke/VarHandle" ∧ (parseMethodDescriptor yX8_paid.desc).map (fun d => d.parameters.length) = some 5 := by decide +kernel
theorem hy_X9_paid : yX9_paid.cls ≠ "java/lang/invoke/MethodHandle" ∧ yX9_paid.cls ≠ "java/lang/invoke/VarHandle" ∧ (parseMethodDescriptor yX9_paid.desc).map (fun d => d.parameters.length) = some 5 := by decide +kernel
theorem hy_X8_brings : yX8_brings.cls ≠ "java/lang/invoke/MethodHandle" ∧ yX8_brings.cls ≠ "java/lang/invoke/VarHandle" ∧ (parseMethodDescriptor yX8_brings.desc).map (fun d => d.parameters.length) = some 4 := by decide +kernel
theorem hy_X9_brings : yX9_brings.cls ≠ "java/lang/invoke/MethodHandle" ∧ yX9_brings.cls ≠ "java/lang/invoke/VarHandle" ∧ (parseMethodDescriptor yX9_brings.desc).map (fun d => d.parameters.length) = some 4 := by decide +kernel
theorem hy_X8_worth : yX8_worth.cls ≠ "java/lang/invoke/MethodHandle" ∧ yX8_worth.cls ≠ "java/lang/invoke/VarHandle" ∧ (parseMethodDescriptor yX8_worth.desc).map (fun d => d.parameters.length) = some 3 := by decide +kernel
theorem hy_X9_worth : yX9_worth.cls ≠ "java/lang/invoke/MethodHandle" ∧ yX9_worth.cls ≠ "java/lang/invoke/VarHandle" ∧ (parseMethodDescriptor yX9_worth.desc).map (fun d => d.parameters.length) = some 3 := by decide +kernel
theorem hy_X8_way : yX8_way.cls ≠ "java/lang/invoke/MethodHandle" ∧ yX8_way.cls ≠ "java/lang/invoke/VarHandle" ∧ (parseMethodDescriptor yX8_way.desc).map (fun d => d.parameters.length) = some 9 := by decide +kernel
theorem hy_X9_way : yX9_way.cls ≠ "java/lang/invoke/MethodHandle" ∧ yX9_way.cls ≠ "java/lang/invoke/VarHandle" ∧ (parseMethodDescriptor yX9_way.desc).map (fun d => d.parameters.length) = some 9 := by decide +kernel
theorem hy_X9_cost : yX9_cost.cls ≠ "java/lang/invoke/MethodHandle" ∧ yX9_cost.cls ≠ "java/lang/invoke/VarHandle" ∧ (parseMethodDescriptor yX9_cost.desc).map (fun d => d.parameters.length) = some 9 := by decide +kernel
theorem hy_X8_cost : yX8_cost.cls ≠ "java/lang/invoke/MethodHandle" ∧ yX8_cost.cls ≠ "java/lang/invoke/VarHandle" ∧ (parseMethodDescriptor yX8_cost.desc).map (fun d => d.parameters.length) = some 9 := by decide +kernel
theorem hy_X8_round : yX8_round.cls ≠ "java/lang/invoke/MethodHandle" ∧ yX8_round.cls ≠ "java/lang/invoke/VarHandle" ∧ (parseMethodDescriptor yX8_round.desc).map (fun d => d.parameters.length) = some 7 := by decide +kernel
theorem hy_X9_round : yX9_round.cls ≠ "java/lang/invoke/MethodHandle" ∧ yX9_round.cls ≠ "java/lang/invoke/VarHandle" ∧ (parseMethodDescriptor yX9_round.desc).map (fun d => d.parameters.length) = some 7 := by decide +kernel
theorem hy_X8_gain : yX8_gain.cls ≠ "java/lang/invoke/MethodHandle" ∧ yX8_gain.cls ≠ "java/lang/invoke/VarHandle" ∧ (parseMethodDescriptor yX8_gain.desc).map (fun d => d.parameters.length) = some 6 := by decide +kernel
theorem hy_X9_gain : yX9_gain.cls ≠ "java/lang/invoke/MethodHandle" ∧ yX9_gain.cls ≠ "java/lang/invoke/VarHandle" ∧ (parseMethodDescriptor yX9_gain.desc).map (fun d => d.parameters.length) = some 6 := by decide +kernel
theorem hy_X8_all : yX8_all.cls ≠ "java/lang/invoke/MethodHandle" ∧ yX8_all.cls ≠ "java/lang/invoke/VarHandle" ∧ (parseMethodDescriptor yX8_all.desc).map (fun d => d.parameters.length) = some 4 := by decide +kernel
theorem hy_X9_all : yX9_all.cls ≠ "java/lang/invoke/MethodHandle" ∧ yX9_all.cls ≠ "java/lang/invoke/VarHandle" ∧ (parseMethodDescriptor yX9_all.desc).map (fun d => d.parameters.length) = some 4 := by decide +kernel
theorem hy_X8_night : yX8_night.cls ≠ "java/lang/invoke/MethodHandle" ∧ yX8_night.cls ≠ "java/lang/invoke/VarHandle" ∧ (parseMethodDescriptor yX8_night.desc).map (fun d => d.parameters.length) = some 4 := by decide +kernel
theorem hy_X9_night : yX9_night.cls ≠ "java/lang/invoke/MethodHandle" ∧ yX9_night.cls ≠ "java/lang/invoke/VarHandle" ∧ (parseMethodDescriptor yX9_night.desc).map (fun d => d.parameters.length) = some 4 := by decide +kernel
theorem hy_X8_other : yX8_other.cls ≠ "java/lang/invoke/MethodHandle" ∧ yX8_other.cls ≠ "java/lang/invoke/VarHandle" ∧ (parseMethodDescriptor yX8_other.desc).map (fun d => d.parameters.length) = some 4 := by decide +kernel
theorem hy_X9_other : yX9_other.cls ≠ "java/lang/invoke/MethodHandle" ∧ yX9_other.cls ≠ "java/lang/invoke/VarHandle" ∧ (parseMethodDescriptor yX9_other.desc).map (fun d => d.parameters.length) = some 4 := by decide +kernel
theorem hy_X8_turned : yX8_turned.cls ≠ "java/lang/invoke/MethodHandle" ∧ yX8_turned.cls ≠ "java/lang/invoke/VarHandle" ∧ (parseMethodDescriptor yX8_turned.desc).map (fun d => d.parameters.length) = some 4 := by decide +kernel
theorem hy_X9_turned : yX9_turned.cls ≠ "java/lang/invoke/MethodHandle" ∧ yX9_turned.cls ≠ "java/lang/invoke/VarHandle" ∧ (parseMethodDescriptor yX9_turned.desc).map (fun d => d.parameters.length) = some 4 := by decide +kernel
theorem hy_X8_regret : yX8_regret.cls ≠ "java/lang/invoke/MethodHandle" ∧ yX8_regret.cls ≠ "java/lang/invoke/VarHandle" ∧ (parseMethodDescriptor yX8_regret.desc).map (fun d => d.parameters.length) = some 3 := by decide +kernel
theorem hy_X9_regret : yX9_regret.cls ≠ "java/lang/invoke/MethodHandle" ∧ yX9_regret.cls ≠ "java/lang/invoke/VarHandle" ∧ (parseMethodDescriptor yX9_regret.desc).map (fun d => d.parameters.length) = some 3 := by decide +kernel
theorem hy_X8_sooner : yX8_sooner.cls ≠ "java/lang/invoke/MethodHandle" ∧ yX8_sooner.cls ≠ "java/lang/invoke/VarHandle" ∧ (parseMethodDescriptor yX8_sooner.desc).map (fun d => d.parameters.length) = some 2 := by decide +kernel
theorem hy_X9_sooner : yX9_sooner.cls ≠ "java/lang/invoke/MethodHandle" ∧ yX9_sooner.cls ≠ "java/lang/invoke/VarHandle" ∧ (parseMethodDescriptor yX9_sooner.desc).map (fun d => d.parameters.length) = some 2 := by decide +kernel
theorem hy_X9_rests : yX9_rests.cls ≠ "java/lang/invoke/MethodHandle" ∧ yX9_rests.cls ≠ "java/lang/invoke/VarHandle" ∧ (parseMethodDescriptor yX9_rests.desc).map (fun d => d.parameters.length) = some 3 := by decide +kernel
theorem hy_X8_rests : yX8_rests.cls ≠ "java/lang/invoke/MethodHandle" ∧ yX8_rests.cls ≠ "java/lang/invoke/VarHandle" ∧ (parseMethodDescriptor yX8_rests.desc).map (fun d => d.parameters.length) = some 3 := by decide +kernel
theorem hy_X8_free : yX8_free.cls ≠ "java/lang/invoke/MethodHandle" ∧ yX8_free.cls ≠ "java/lang/invoke/VarHandle" ∧ (parseMethodDescriptor yX8_free.desc).map (fun d => d.parameters.length) = some 2 := by decide +kernel
theorem hy_X9_free : yX9_free.cls ≠ "java/lang/invoke/MethodHandle" ∧ yX9_free.cls ≠ "java/lang/invoke/VarHandle" ∧ (parseMethodDescriptor yX9_free.desc).map (fun d => d.parameters.length) = some 2 := by decide +kernel
theorem hy_X8_needs : yX8_needs.cls ≠ "java/lang/invoke/MethodHandle" ∧ yX8_needs.cls ≠ "java/lang/invoke/VarHandle" ∧ (parseMethodDescriptor yX8_needs.desc).map (fun d => d.parameters.length) = some 2 := by decide +kernel
theorem hy_X9_needs : yX9_needs.cls ≠ "java/lang/invoke/MethodHandle" ∧ yX9_needs.cls ≠ "java/lang/invoke/VarHandle" ∧ (parseMethodDescriptor yX9_needs.desc).map (fun d => d.parameters.length) = some 2 := by decide +kernel
theorem hy_X9_live : yX9_live.cls ≠ "java/lang/invoke/MethodHandle" ∧ yX9_live.cls ≠ "java/lang/invoke/VarHandle" ∧ (parseMethodDescriptor yX9_live.desc).map (fun d => d.parameters.length) = some 3 := by decide +kernel
theorem hy_X8_live : yX8_live.cls ≠ "java/lang/invoke/MethodHandle" ∧ yX8_live.cls ≠ "java/lang/invoke/VarHandle" ∧ (parseMethodDescriptor yX8_live.desc).map (fun d => d.parameters.length) = some 3 := by decide +kernel
theorem hy_X8_left : yX8_left.cls ≠ "java/lang/invoke/MethodHandle" ∧ yX8_left.cls ≠ "java/lang/invoke/VarHandle" ∧ (parseMethodDescriptor yX8_left.desc).map (fun d => d.parameters.length) = some 2 := by decide +kernel
theorem hy_X9_left : yX9_left.cls ≠ "java/lang/invoke/MethodHandle" ∧ yX9_left.cls ≠ "java/lang/invoke/VarHandle" ∧ (parseMethodDescriptor yX9_left.desc).map (fun d => d.parameters.length) = some 2 := by decide +kernel
theorem hy_X8_minutes : yX8_minutes.cls ≠ "java/lang/invoke/MethodHandle" ∧ yX8_minutes.cls ≠ "java/lang/invoke/VarHandle" ∧ (parseMethodDescriptor yX8_minutes.desc).map (fun d => d.parameters.length) = some 3 := by decide +kernel
theorem hy_X9_minutes : yX9_minutes.cls ≠ "java/lang/invoke/MethodHandle" ∧ yX9_minutes.cls ≠ "java/lang/invoke/VarHandle" ∧ (parseMethodDescriptor yX9_minutes.desc).map (fun d => d.parameters.length) = some 3 := by decide +kernel
theorem hy_X8_days : yX8_days.cls ≠ "java/lang/invoke/MethodHandle" ∧ yX8_days.cls ≠ "java/lang/invoke/VarHandle" ∧ (parseMethodDescriptor yX8_days.desc).map (fun d => d.parameters.length) = some 4 := by decide +kernel
theorem hy_X9_days : yX9_days.cls ≠ "java/lang/invoke/MethodHandle" ∧ yX9_days.cls ≠ "java/lang/invoke/VarHandle" ∧ (parseMethodDescriptor yX9_days.desc).map (fun d => d.parameters.length) = some 4 := by decide +kernel
theorem hy_X9_visits : yX9_visits.cls ≠ "java/lang/invoke/MethodHandle" ∧ yX9_visits.cls ≠ "java/lang/invoke/VarHandle" ∧ (parseMethodDescriptor yX9_visits.desc).map (fun d => d.parameters.length) = some 4 := by decide +kernel
theorem hy_X8_visits : yX8_visits.cls ≠ "java/lang/invoke/MethodHandle" ∧ yX8_visits.cls ≠ "java/lang/invoke/VarHandle" ∧ (parseMethodDescriptor yX8_visits.desc).map (fun d => d.parameters.length) = some 4 := by decide +kernel
theorem hy_X8_whole : yX8_whole.cls ≠ "java/lang/invoke/MethodHandle" ∧ yX8_whole.cls ≠ "java/lang/invoke/VarHandle" ∧ (parseMethodDescriptor yX8_whole.desc).map (fun d => d.parameters.length) = some 3 := by decide +kernel
theorem hy_X9_whole : yX9_whole.cls ≠ "java/lang/invoke/MethodHandle" ∧ yX9_whole.cls ≠ "java/lang/invoke/VarHandle" ∧ (parseMethodDescriptor yX9_whole.desc).map (fun d => d.parameters.length) = some 3 := by decide +kernel
theorem hy_X8_still : yX8_still.cls ≠ "java/lang/invoke/MethodHandle" ∧ yX8_still.cls ≠ "java/lang/invoke/VarHandle" ∧ (parseMethodDescriptor yX8_still.desc).map (fun d => d.parameters.length) = some 3 := by decide +kernel
theorem hy_X9_still : yX9_still.cls ≠ "java/lang/invoke/MethodHandle" ∧ yX9_still.cls ≠ "java/lang/invoke/VarHandle" ∧ (parseMethodDescriptor yX9_still.desc).map (fun d => d.parameters.length) = some 3 := by decide +kernel
theorem hy_X9_house : yX9_house.cls ≠ "java/lang/invoke/MethodHandle" ∧ yX9_house.cls ≠ "java/lang/invoke/VarHandle" ∧ (parseMethodDescriptor yX9_house.desc).map (fun d => d.parameters.length) = some 4 := by decide +kernel
theorem hy_X8_house : yX8_house.cls ≠ "java/lang/invoke/MethodHandle" ∧ yX8_house.cls ≠ "java/lang/invoke/VarHandle" ∧ (parseMethodDescriptor yX8_house.desc).map (fun d => d.parameters.length) = some 4 := by decide +kernel
theorem hy_X8_moved : yX8_moved.cls ≠ "java/lang/invoke/MethodHandle" ∧ yX8_moved.cls ≠ "java/lang/invoke/VarHandle" ∧ (parseMethodDescriptor yX8_moved.desc).map (fun d => d.parameters.length) = some 4 := by decide +kernel
theorem hy_X9_moved : yX9_moved.cls ≠ "java/lang/invoke/MethodHandle" ∧ yX9_moved.cls ≠ "java/lang/invoke/VarHandle" ∧ (parseMethodDescriptor yX9_moved.desc).map (fun d => d.parameters.length) = some 4 := by decide +kernel
theorem hy_X8_without : yX8_without.cls ≠ "java/lang/invoke/MethodHandle" ∧ yX8_without.cls ≠ "java/lang/invoke/VarHandle" ∧ (parseMethodDescriptor yX8_without.desc).map (fun d => d.parameters.length) = some 3 := by decide +kernel
theorem hy_X9_without : yX9_without.cls ≠ "java/lang/invoke/MethodHandle" ∧ yX9_without.cls ≠ "java/lang/invoke/VarHandle" ∧ (parseMethodDescriptor yX9_without.desc).map (fun d => d.parameters.length) = some 3 := by decide +kernel
theorem hy_X8_rounds : yX8_rounds.cls ≠ "java/lang/invoke/MethodHandle" ∧ yX8_rounds.cls ≠ "java/lang/invoke/VarHandle" ∧ (parseMethodDescriptor yX8_rounds.desc).map (fun d => d.parameters.length) = some 6 := by decide +kernel
theorem hy_X9_rounds : yX9_rounds.cls ≠ "java/lang/invoke/MethodHandle" ∧ yX9_rounds.cls ≠ "java/lang/invoke/VarHandle" ∧ (parseMethodDescriptor yX9_rounds.desc).map (fun d => d.parameters.length) = some 6 := by decide +kernel
theorem hy_X8_count : yX8_count.cls ≠ "java/lang/invoke/MethodHandle" ∧ yX8_count.cls ≠ "java/lang/invoke/VarHandle" ∧ (parseMethodDescriptor yX8_count.desc).map (fun d => d.parameters.length) = some 1 := by decide +kernel
theorem hy_X9_count : yX9_count.cls ≠ "java/lang/invoke/MethodHandle" ∧ yX9_count.cls ≠ "java/lang/invoke/VarHandle" ∧ (parseMethodDescriptor yX9_count.desc).map (fun d => d.parameters.length) = some 1 := by decide +kernel
theorem hy_X8_image : yX8_image.cls ≠ "java/lang/invoke/MethodHandle" ∧ yX8_image.cls ≠ "java/lang/invoke/VarHandle" ∧ (parseMethodDescriptor yX8_image.desc).map (fun d => d.parameters.length) = some 1 := by decide +kernel
theorem hy_X9_image : yX9_image.cls ≠ "java/lang/invoke/MethodHandle" ∧ yX9_image.cls ≠ "java/lang/invoke/VarHandle" ∧ (parseMethodDescriptor yX9_image.desc).map (fun d => d.parameters.length) = some 1 := by decide +kernel
theorem hy_X8_again : yX8_again.cls ≠ "java/lang/invoke/MethodHandle" ∧ yX8_again.cls ≠ "java/lang/invoke/VarHandle" ∧ (parseMethodDescriptor yX8_again.desc).map (fun d => d.parameters.length) = some 1 := by decide +kernel
theorem hy_X9_again : yX9_again.cls ≠ "java/lang/invoke/MethodHandle" ∧ yX9_again.cls ≠ "java/lang/invoke/VarHandle" ∧ (parseMethodDescriptor yX9_again.desc).map (fun d => d.parameters.length) = some 1 := by decide +kernel
theorem hy_X8_init : yX8_init.cls ≠ "java/lang/invoke/MethodHandle" ∧ yX8_init.cls ≠ "java/lang/invoke/VarHandle" ∧ (parseMethodDescriptor yX8_init.desc).map (fun d => d.parameters.length) = some 0 := by decide +kernel
theorem hy_X9_init : yX9_init.cls ≠ "java/lang/invoke/MethodHandle" ∧ yX9_init.cls ≠ "java/lang/invoke/VarHandle" ∧ (parseMethodDescriptor yX9_init.desc).map (fun d => d.parameters.length) = some 0 := by decide +kernel
/-! java/lang/Integer.bitCount(I)I -/
theorem dJ6_bitCount_0f7a4_0 : decode cJ6_bitCount_0f7a4 0 = .ok (.iload_n 0, 1) := by decide +kernel
theorem dJ6_bitCount_0f7a4_1 : decode cJ6_bitCount_0f7a4 1 = .ok (.iload_n 0, 1) := by decide +kernel
theorem dJ6_bitCount_0f7a4_2 : decode cJ6_bitCount_0f7a4 2 = .ok (.iconst 1, 1) := by decide +kernel
theorem dJ6_bitCount_0f7a4_3 : decode cJ6_bitCount_0f7a4 3 = .ok (.iushr, 1) := by decide +kernel
theorem dJ6_bitCount_0f7a4_4 : decode cJ6_bitCount_0f7a4 4 = .ok (.ldc_w 265, 3) := by decide +kernel
theorem dJ6_bitCount_0f7a4_7 : decode cJ6_bitCount_0f7a4 7 = .ok (.iand, 1) := by decide +kernel
theorem dJ6_bitCount_0f7a4_8 : decode cJ6_bitCount_0f7a4 8 = .ok (.isub, 1) := by decide +kernel
theorem dJ6_bitCount_0f7a4_9 : decode cJ6_bitCount_0f7a4 9 = .ok (.istore_n 0, 1) := by decide +kernel
theorem dJ6_bitCount_0f7a4_10 : decode cJ6_bitCount_0f7a4 10 = .ok (.iload_n 0, 1) := by decide +kernel
theorem dJ6_bitCount_0f7a4_11 : decode cJ6_bitCount_0f7a4 11 = .ok (.ldc_w 266, 3) := by decide +kernel
theorem dJ6_bitCount_0f7a4_14 : decode cJ6_bitCount_0f7a4 14 = .ok (.iand, 1) := by decide +kernel
theorem dJ6_bitCount_0f7a4_15 : decode cJ6_bitCount_0f7a4 15 = .ok (.iload_n 0, 1) := by decide +kernel
theorem dJ6_bitCount_0f7a4_16 : decode cJ6_bitCount_0f7a4 16 = .ok (.iconst 2, 1) := by decide +kernel
theorem dJ6_bitCount_0f7a4_17 : decode cJ6_bitCount_0f7a4 17 = .ok (.iushr, 1) := by decide +kernel
theorem dJ6_bitCount_0f7a4_18 : decode cJ6_bitCount_0f7a4 18 = .ok (.ldc_w 266, 3) := by decide +kernel
theorem dJ6_bitCount_0f7a4_21 : decode cJ6_bitCount_0f7a4 21 = .ok (.iand, 1) := by decide +kernel
theorem dJ6_bitCount_0f7a4_22 : decode cJ6_bitCount_0f7a4 22 = .ok (.iadd, 1) := by decide +kernel
theorem dJ6_bitCount_0f7a4_23 : decode cJ6_bitCount_0f7a4 23 = .ok (.istore_n 0, 1) := by decide +kernel
theorem dJ6_bitCount_0f7a4_24 : decode cJ6_bitCount_0f7a4 24 = .ok (.iload_n 0, 1) := by decide +kernel
theorem dJ6_bitCount_0f7a4_25 : decode cJ6_bitCount_0f7a4 25 = .ok (.iload_n 0, 1) := by decide +kernel
theorem dJ6_bitCount_0f7a4_26 : decode cJ6_bitCount_0f7a4 26 = .ok (.iconst 4, 1) := by decide +kernel
theorem dJ6_bitCount_0f7a4_27 : decode cJ6_bitCount_0f7a4 27 = .ok (.iushr, 1) := by decide +kernel
theorem dJ6_bitCount_0f7a4_28 : decode cJ6_bitCount_0f7a4 28 = .ok (.iadd, 1) := by decide +kernel
theorem dJ6_bitCount_0f7a4_29 : decode cJ6_bitCount_0f7a4 29 = .ok (.ldc_w 267, 3) := by decide +kernel
theorem dJ6_bitCount_0f7a4_32 : decode cJ6_bitCount_0f7a4 32 = .ok (.iand, 1) := by decide +kernel
theorem dJ6_bitCount_0f7a4_33 : decode cJ6_bitCount_0f7a4 33 = .ok (.istore_n 0, 1) := by decide +kernel
theorem dJ6_bitCount_0f7a4_34 : decode cJ6_bitCount_0f7a4 34 = .ok (.iload_n 0, 1) := by decide +kernel
theorem dJ6_bitCount_0f7a4_35 : decode cJ6_bitCount_0f7a4 35 = .ok (.iload_n 0, 1) := by decide +kernel
theorem dJ6_bitCount_0f7a4_36 : decode cJ6_bitCount_0f7a4 36 = .ok (.bipush 8, 2) := by decide +kernel
theorem dJ6_bitCount_0f7a4_38 : decode cJ6_bitCount_0f7a4 38 = .ok (.iushr, 1) := by decide +kernel
theorem dJ6_bitCount_0f7a4_39 : decode cJ6_bitCount_0f7a4 39 = .ok (.iadd, 1) := by decide +kernel
theorem dJ6_bitCount_0f7a4_40 : decode cJ6_bitCount_0f7a4 40 = .ok (.istore_n 0, 1) := by decide +kernel
theorem dJ6_bitCount_0f7a4_41 : decode cJ6_bitCount_0f7a4 41 = .ok (.iload_n 0, 1) := by decide +kernel
theorem dJ6_bitCount_0f7a4_42 : decode cJ6_bitCount_0f7a4 42 = .ok (.iload_n 0, 1) := by decide +kernel
theorem dJ6_bitCount_0f7a4_43 : decode cJ6_bitCount_0f7a4 43 = .ok (.bipush 16, 2) := by decide +kernel
theorem dJ6_bitCount_0f7a4_45 : decode cJ6_bitCount_0f7a4 45 = .ok (.iushr, 1) := by decide +kernel
theorem dJ6_bitCount_0f7a4_46 : decode cJ6_bitCount_0f7a4 46 = .ok (.iadd, 1) := by decide +kernel
theorem dJ6_bitCount_0f7a4_47 : decode cJ6_bitCount_0f7a4 47 = .ok (.istore_n 0, 1) := by decide +kernel
theorem dJ6_bitCount_0f7a4_48 : decode cJ6_bitCount_0f7a4 48 = .ok (.iload_n 0, 1) := by decide +kernel
theorem dJ6_bitCount_0f7a4_49 : decode cJ6_bitCount_0f7a4 49 = .ok (.bipush 63, 2) := by decide +kernel
theorem dJ6_bitCount_0f7a4_51 : decode cJ6_bitCount_0f7a4 51 = .ok (.iand, 1) := by decide +kernel
theorem dJ6_bitCount_0f7a4_52 : decode cJ6_bitCount_0f7a4 52 = .ok (.ireturn, 1) := by decide +kernel
noncomputable def k_J6_bitCount_0f7a4 (F : Nat) : AK := ak_iload 0 (ak_iload 0 (ak_push (vI 1) (ak_iushr (ak_push (vI 1431655765) (ak_iand (ak_isub (ak_istore 0 (ak_iload 0 (ak_push (vI 858993459) (ak_iand (ak_iload 0 (ak_push (vI 2) (ak_iushr (ak_push (vI 858993459) (ak_iand (ak_iadd (ak_istore 0 (ak_iload 0 (ak_iload 0 (ak_push (vI 4) (ak_iushr (ak_iadd (ak_push (vI 252645135) (ak_iand (ak_istore 0 (ak_iload 0 (ak_iload 0 (ak_push (vI 8) (ak_iushr (ak_iadd (ak_istore 0 (ak_iload 0 (ak_iload 0 (ak_push (vI 16) (ak_iushr (ak_iadd (ak_istore 0 (ak_iload 0 (ak_push (vI 63) (ak_iand ak_ireturn))))))))))))))))))))))))))))))))))))))))
noncomputable def m_J6_bitCount_0f7a4 (F : Nat) : AF := mkF 1 1 (k_J6_bitCount_0f7a4 F)
set_option maxRecDepth 20000 in
theorem s_J6_bitCount_0f7a4 (F : Nat) : MA yJ6_bitCount_0f7a4 cJ6_bitCount_0f7a4 1 (some .int) 0 (m_J6_bitCount_0f7a4 F) := met_of (Or.inr (Or.inl ⟨rfl, rfl⟩)) (by decide) (by
  unfold k_J6_bitCount_0f7a4
  exact snd_iload_n (pc := 0) (i := 0) dJ6_bitCount_0f7a4_0 (snd_iload_n (pc := 1) (i := 0) dJ6_bitCount_0f7a4_1 (snd_iconst (pc := 2) dJ6_bitCount_0f7a4_2 (snd_iushr (pc := 3) dJ6_bitCount_0f7a4_3 (snd_ldcw (pc := 4) (z := (1431655765)) (by decide) wd_1290 dJ6_bitCount_0f7a4_4 (snd_iand (pc := 7) dJ6_bitCount_0f7a4_7 (snd_isub (pc := 8) dJ6_bitCount_0f7a4_8 (snd_istore_n (pc := 9) (i := 0) (by decide) dJ6_bitCount_0f7a4_9 (snd_iload_n (pc := 10) (i := 0) dJ6_bitCount_0f7a4_10 (snd_ldcw (pc := 11) (z := (858993459)) (by decide) wd_1291 dJ6_bitCount_0f7a4_11 (snd_iand (pc := 14) dJ6_bitCount_0f7a4_14 (snd_iload_n (pc := 15) (i := 0) dJ6_bitCount_0f7a4_15 (snd_iconst (pc := 16) dJ6_bitCount_0f7a4_16 (snd_iushr (pc := 17) dJ6_bitCount_0f7a4_17 (snd_ldcw (pc := 18) (z := (858993459)) (by decide) wd_1291 dJ6_bitCount_0f7a4_18 (snd_iand (pc := 21) dJ6_bitCount_0f7a4_21 (snd_iadd (pc := 22) dJ6_bitCount_0f7a4_22 (snd_istore_n (pc := 23) (i := 0) (by decide) dJ6_bitCount_0f7a4_23 (snd_iload_n (pc := 24) (i := 0) dJ6_bitCount_0f7a4_24 (snd_iload_n (pc := 25) (i := 0) dJ6_bitCount_0f7a4_25 (snd_iconst (pc := 26) dJ6_bitCount_0f7a4_26 (snd_iushr (pc := 27) dJ6_bitCount_0f7a4_27 (snd_iadd (pc := 28) dJ6_bitCount_0f7a4_28 (snd_ldcw (pc := 29) (z := (252645135)) (by decide) wd_1292 dJ6_bitCount_0f7a4_29 (snd_iand (pc := 32) dJ6_bitCount_0f7a4_32 (snd_istore_n (pc := 33) (i := 0) (by decide) dJ6_bitCount_0f7a4_33 (snd_iload_n (pc := 34) (i := 0) dJ6_bitCount_0f7a4_34 (snd_iload_n (pc := 35) (i := 0) dJ6_bitCount_0f7a4_35 (snd_bipush (pc := 36) (by decide) dJ6_bitCount_0f7a4_36 (snd_iushr (pc := 38) dJ6_bitCount_0f7a4_38 (snd_iadd (pc := 39) dJ6_bitCount_0f7a4_39 (snd_istore_n (pc := 40) (i := 0) (by decide) dJ6_bitCount_0f7a4_40 (snd_iload_n (pc := 41) (i := 0) dJ6_bitCount_0f7a4_41 (snd_iload_n (pc := 42) (i := 0) dJ6_bitCount_0f7a4_42 (snd_bipush (pc := 43) (by decide) dJ6_bitCount_0f7a4_43 (snd_iushr (pc := 45) dJ6_bitCount_0f7a4_45 (snd_iadd (pc := 46) dJ6_bitCount_0f7a4_46 (snd_istore_n (pc := 47) (i := 0) (by decide) dJ6_bitCount_0f7a4_47 (snd_iload_n (pc := 48) (i := 0) dJ6_bitCount_0f7a4_48 (snd_bipush (pc := 49) (by decide) dJ6_bitCount_0f7a4_49 (snd_iand (pc := 51) dJ6_bitCount_0f7a4_51 (snd_ireturn dJ6_bitCount_0f7a4_52))))))))))))))))))))))))))))))))))))))))))

/-! java/util/Arrays.fill([II)V -/
theorem dJ7_fill_53178_0 : decode cJ7_fill_53178 0 = .ok (.iconst 0, 1) := by decide +kernel
theorem dJ7_fill_53178_1 : decode cJ7_fill_53178 1 = .ok (.istore_n 2, 1) := by decide +kernel
theorem dJ7_fill_53178_2 : decode cJ7_fill_53178 2 = .ok (.aload_n 0, 1) := by decide +kernel
theorem dJ7_fill_53178_3 : decode cJ7_fill_53178 3 = .ok (.arraylength, 1) := by decide +kernel
theorem dJ7_fill_53178_4 : decode cJ7_fill_53178 4 = .ok (.istore_n 3, 1) := by decide +kernel
theorem dJ7_fill_53178_5 : decode cJ7_fill_53178 5 = .ok (.iload_n 2, 1) := by decide +kernel
theorem dJ7_fill_53178_6 : decode cJ7_fill_53178 6 = .ok (.iload_n 3, 1) := by decide +kernel
theorem dJ7_fill_53178_7 : decode cJ7_fill_53178 7 = .ok (.if_icmp .ge 13, 3) := by decide +kernel
theorem dJ7_fill_53178_10 : decode cJ7_fill_53178 10 = .ok (.aload_n 0, 1) := by decide +kernel
theorem dJ7_fill_53178_11 : decode cJ7_fill_53178 11 = .ok (.iload_n 2, 1) := by decide +kernel
theorem dJ7_fill_53178_12 : decode cJ7_fill_53178 12 = .ok (.iload_n 1, 1) := by decide +kernel
theorem dJ7_fill_53178_13 : decode cJ7_fill_53178 13 = .ok (.iastore, 1) := by decide +kernel
theorem dJ7_fill_53178_14 : decode cJ7_fill_53178 14 = .ok (.iinc 2 1, 3) := by decide +kernel
theorem dJ7_fill_53178_17 : decode cJ7_fill_53178 17 = .ok (.goto (-12), 3) := by decide +kernel
theorem dJ7_fill_53178_20 : decode cJ7_fill_53178 20 = .ok (.return_, 1) := by decide +kernel
noncomputable def kb_J7_fill_53178_5 (F : Nat) (self : AK) : AK := ak_iload 2 (ak_iload 3 (ak_cmplt (ak_aload 0 (ak_iload 2 (ak_iload 1 (ak_iast (ak_iinc 2 1 self))))) (ak_return)))
noncomputable def k_J7_fill_53178_5 (F : Nat) (n : Nat) : AK := Nat.rec (motive := fun _ => AK) ak_none (fun _ self => kb_J7_fill_53178_5 F self) n
set_option maxRecDepth 20000 in
theorem sk_J7_fill_53178_5 (F : Nat) : ∀ n, Snd X0 RJ7 cJ7_fill_53178 4 0 5 (k_J7_fill_53178_5 F n) := by
  intro n
  induction n with
  | zero => exact snd_none
  | succ n ih =>
    show Snd X0 RJ7 cJ7_fill_53178 4 0 5 (kb_J7_fill_53178_5 F (k_J7_fill_53178_5 F n))
    unfold kb_J7_fill_53178_5
    exact snd_iload_n (pc := 5) (i := 2) dJ7_fill_53178_5 (snd_iload_n (pc := 6) (i := 3) dJ7_fill_53178_6 (snd_icmpge (pc := 7) (off := 13) (tgt := 20) (by decide) dJ7_fill_53178_7 (snd_return dJ7_fill_53178_20) (snd_aload_n (pc := 10) (i := 0) dJ7_fill_53178_10 (snd_iload_n (pc := 11) (i := 2) dJ7_fill_53178_11 (snd_iload_n (pc := 12) (i := 1) dJ7_fill_53178_12 (snd_iast (pc := 13) dJ7_fill_53178_13 (snd_iinc (pc := 14) (i := 2) (n := 1) (by decide) dJ7_fill_53178_14 (snd_goto (pc := 17) (off := (-12)) (tgt := 5) (by decide) dJ7_fill_53178_17 (ih)))))))))
noncomputable def k_J7_fill_53178 (F : Nat) : AK := ak_push (vI 0) (ak_istore 2 (ak_aload 0 (ak_alen (ak_istore 3 ((k_J7_fill_53178_5 F F))))))
noncomputable def m_J7_fill_53178 (F : Nat) : AF := mkF 0 4 (k_J7_fill_53178 F)
set_option maxRecDepth 20000 in
theorem s_J7_fill_53178 (F : Nat) : MA yJ7_fill_53178 cJ7_fill_53178 4 none 0 (m_J7_fill_53178 F) := met_of (Or.inl ⟨rfl, rfl⟩) (by decide) (by
  unfold k_J7_fill_53178
  exact snd_iconst (pc := 0) dJ7_fill_53178_0 (snd_istore_n (pc := 1) (i := 2) (by decide) dJ7_fill_53178_1 (snd_aload_n (pc := 2) (i := 0) dJ7_fill_53178_2 (snd_alen (pc := 3) dJ7_fill_53178_3 (snd_istore_n (pc := 4) (i := 3) (by decide) dJ7_fill_53178_4 ((sk_J7_fill_53178_5 F F)))))))

/-! java/lang/String.coder()B -/
theorem dJ0_coder_7d493_0 : decode cJ0_coder_7d493 0 = .ok (.getstatic 38, 3) := by decide +kernel
theorem dJ0_coder_7d493_3 : decode cJ0_coder_7d493 3 = .ok (.ifCond .eq 10, 3) := by decide +kernel
theorem dJ0_coder_7d493_6 : decode cJ0_coder_7d493 6 = .ok (.aload_n 0, 1) := by decide +kernel
theorem dJ0_coder_7d493_7 : decode cJ0_coder_7d493 7 = .ok (.getfield 15, 3) := by decide +kernel
theorem dJ0_coder_7d493_10 : decode cJ0_coder_7d493 10 = .ok (.goto 4, 3) := by decide +kernel
theorem dJ0_coder_7d493_13 : decode cJ0_coder_7d493 13 = .ok (.iconst 1, 1) := by decide +kernel
theorem dJ0_coder_7d493_14 : decode cJ0_coder_7d493 14 = .ok (.ireturn, 1) := by decide +kernel
noncomputable def k_J0_coder_7d493 (F : Nat) : AK := ak_push (vI 1) (ak_ifeq (ak_push (vI 1) ak_ireturn) (ak_aload 0 (ak_scod ak_ireturn)))
noncomputable def m_J0_coder_7d493 (F : Nat) : AF := mkF 3 1 (k_J0_coder_7d493 F)
set_option maxRecDepth 20000 in
theorem s_J0_coder_7d493 (F : Nat) : MA yJ0_coder_7d493 cJ0_coder_7d493 1 (some .byte) 0 (m_J0_coder_7d493 F) := met_of (Or.inr (Or.inr (Or.inr (Or.inl ⟨rfl, by decide⟩)))) (by decide) (by
  unfold k_J0_coder_7d493
  exact snd_getc (pc := 0) wd_709 dJ0_coder_7d493_0 (snd_ifeq (pc := 3) (off := 10) (tgt := 13) (by decide) dJ0_coder_7d493_3 (snd_iconst (pc := 13) dJ0_coder_7d493_13 (snd_ireturn dJ0_coder_7d493_14)) (snd_aload_n (pc := 6) (i := 0) dJ0_coder_7d493_6 (snd_scod (pc := 7) wd_1960 dJ0_coder_7d493_7 (snd_goto (pc := 10) (off := 4) (tgt := 14) (by decide) dJ0_coder_7d493_10 (snd_ireturn dJ0_coder_7d493_14))))))

/-! java/lang/String.length()I -/
theorem dJ0_length_8abf5_0 : decode cJ0_length_8abf5 0 = .ok (.aload_n 0, 1) := by decide +kernel
theorem dJ0_length_8abf5_1 : decode cJ0_length_8abf5 1 = .ok (.getfield 9, 3) := by decide +kernel
theorem dJ0_length_8abf5_4 : decode cJ0_length_8abf5 4 = .ok (.arraylength, 1) := by decide +kernel
theorem dJ0_length_8abf5_5 : decode cJ0_length_8abf5 5 = .ok (.aload_n 0, 1) := by decide +kernel
theorem dJ0_length_8abf5_6 : decode cJ0_length_8abf5 6 = .ok (.invokevirtual 335, 3) := by decide +kernel
theorem dJ0_length_8abf5_9 : decode cJ0_length_8abf5 9 = .ok (.ishr, 1) := by decide +kernel
theorem dJ0_length_8abf5_10 : decode cJ0_length_8abf5 10 = .ok (.ireturn, 1) := by decide +kernel
noncomputable def k_J0_length_8abf5 (F : Nat) : AK := ak_aload 0 (ak_sval (ak_alen (ak_aload 0 (ak_callx 0 (m_J0_coder_7d493 F) (ak_ishr ak_ireturn)))))
noncomputable def m_J0_length_8abf5 (F : Nat) : AF := mkF 1 1 (k_J0_length_8abf5 F)
set_option maxRecDepth 20000 in
theorem s_J0_length_8abf5 (F : Nat) : MA yJ0_length_8abf5 cJ0_length_8abf5 1 (some .int) 1 (m_J0_length_8abf5 F) := met_of (Or.inr (Or.inl ⟨rfl, rfl⟩)) (by decide) (by
  unfold k_J0_length_8abf5
  exact snd_aload_n (pc := 0) (i := 0) dJ0_length_8abf5_0 (snd_sval (pc := 1) wd_1959 dJ0_length_8abf5_1 (snd_alen (pc := 4) dJ0_length_8abf5_4 (snd_aload_n (pc := 5) (i := 0) dJ0_length_8abf5_5 (snd_callX (pc := 6) (n := 0) (s_J0_coder_7d493 F) (by decide) (by decide) wd_708 wd_705 wd_706 wd_707 wd_132 hy_J0_coder_7d493 dJ0_length_8abf5_6 (snd_ishr (pc := 9) dJ0_length_8abf5_9 (snd_ireturn dJ0_length_8abf5_10)))))))

/-! java/lang/String.isLatin1()Z -/
theorem dJ0_isLatin1_aae02_0 : decode cJ0_isLatin1_aae02 0 = .ok (.getstatic 38, 3) := by decide +kernel
theorem dJ0_isLatin1_aae02_3 : decode cJ0_isLatin1_aae02 3 = .ok (.ifCond .eq 14, 3) := by decide +kernel
theorem dJ0_isLatin1_aae02_6 : decode cJ0_isLatin1_aae02 6 = .ok (.aload_n 0, 1) := by decide +kernel
theorem dJ0_isLatin1_aae02_7 : decode cJ0_isLatin1_aae02 7 = .ok (.getfield 15, 3) := by decide +kernel
theorem dJ0_isLatin1_aae02_10 : decode cJ0_isLatin1_aae02 10 = .ok (.ifCond .ne 7, 3) := by decide +kernel
theorem dJ0_isLatin1_aae02_13 : decode cJ0_isLatin1_aae02 13 = .ok (.iconst 1, 1) := by decide +kernel
theorem dJ0_isLatin1_aae02_14 : decode cJ0_isLatin1_aae02 14 = .ok (.goto 4, 3) := by decide +kernel
theorem dJ0_isLatin1_aae02_17 : decode cJ0_isLatin1_aae02 17 = .ok (.iconst 0, 1) := by decide +kernel
theorem dJ0_isLatin1_aae02_18 : decode cJ0_isLatin1_aae02 18 = .ok (.ireturn, 1) := by decide +kernel
noncomputable def k_J0_isLatin1_aae02 (F : Nat) : AK := ak_push (vI 1) (ak_ifeq (ak_push (vI 0) ak_ireturn) (ak_aload 0 (ak_scod (ak_ifeq (ak_push (vI 1) ak_ireturn) (ak_push (vI 0) ak_ireturn)))))
noncomputable def m_J0_isLatin1_aae02 (F : Nat) : AF := mkF 2 1 (k_J0_isLatin1_aae02 F)
set_option maxRecDepth 20000 in
theorem s_J0_isLatin1_aae02 (F : Nat) : MA yJ0_isLatin1_aae02 cJ0_isLatin1_aae02 1 (some .boolean) 0 (m_J0_isLatin1_aae02 F) := met_of (Or.inr (Or.inr (Or.inl ⟨rfl, rfl⟩))) (by decide) (by
  unfold k_J0_isLatin1_aae02
  exact snd_getc (pc := 0) wd_709 dJ0_isLatin1_aae02_0 (snd_ifeq (pc := 3) (off := 14) (tgt := 17) (by decide) dJ0_isLatin1_aae02_3 (snd_iconst (pc := 17) dJ0_isLatin1_aae02_17 (snd_ireturn dJ0_isLatin1_aae02_18)) (snd_aload_n (pc := 6) (i := 0) dJ0_isLatin1_aae02_6 (snd_scod (pc := 7) wd_1960 dJ0_isLatin1_aae02_7 (snd_ifne (pc := 10) (off := 7) (tgt := 17) (by decide) dJ0_isLatin1_aae02_10 (snd_iconst (pc := 17) dJ0_isLatin1_aae02_17 (snd_ireturn dJ0_isLatin1_aae02_18)) (snd_iconst (pc := 13) dJ0_isLatin1_aae02_13 (snd_goto (pc := 14) (off := 4) (tgt := 18) (by decide) dJ0_isLatin1_aae02_14 (snd_ireturn dJ0_isLatin1_aae02_18))))))))

/-! jdk/internal/util/Preconditions.checkIndex(IILjava/util/function/BiFunction;)I -/
theorem dJ3_checkIndex_8e157_0 : decode cJ3_checkIndex_8e157 0 = .ok (.iload_n 0, 1) := by decide +kernel
theorem dJ3_checkIndex_8e157_1 : decode cJ3_checkIndex_8e157 1 = .ok (.ifCond .lt 8, 3) := by decide +kernel
theorem dJ3_checkIndex_8e157_4 : decode cJ3_checkIndex_8e157 4 = .ok (.iload_n 0, 1) := by decide +kernel
theorem dJ3_checkIndex_8e157_5 : decode cJ3_checkIndex_8e157 5 = .ok (.iload_n 1, 1) := by decide +kernel
theorem dJ3_checkIndex_8e157_6 : decode cJ3_checkIndex_8e157 6 = .ok (.if_icmp .lt 10, 3) := by decide +kernel
theorem dJ3_checkIndex_8e157_9 : decode cJ3_checkIndex_8e157 9 = .ok (.aload_n 2, 1) := by decide +kernel
theorem dJ3_checkIndex_8e157_10 : decode cJ3_checkIndex_8e157 10 = .ok (.iload_n 0, 1) := by decide +kernel
theorem dJ3_checkIndex_8e157_11 : decode cJ3_checkIndex_8e157 11 = .ok (.iload_n 1, 1) := by decide +kernel
theorem dJ3_checkIndex_8e157_12 : decode cJ3_checkIndex_8e157 12 = .ok (.invokestatic 95, 3) := by decide +kernel
theorem dJ3_checkIndex_8e157_15 : decode cJ3_checkIndex_8e157 15 = .ok (.athrow, 1) := by decide +kernel
theorem dJ3_checkIndex_8e157_16 : decode cJ3_checkIndex_8e157 16 = .ok (.iload_n 0, 1) := by decide +kernel
theorem dJ3_checkIndex_8e157_17 : decode cJ3_checkIndex_8e157 17 = .ok (.ireturn, 1) := by decide +kernel
noncomputable def k_J3_checkIndex_8e157_9 (F : Nat) : AK := ak_aload 2 (ak_iload 0 (ak_iload 1 ak_none))
set_option maxRecDepth 20000 in
theorem sk_J3_checkIndex_8e157_9 (F : Nat) : Snd X0 RJ3 cJ3_checkIndex_8e157 3 0 9 (k_J3_checkIndex_8e157_9 F) := by
  unfold k_J3_checkIndex_8e157_9
  exact snd_aload_n (pc := 9) (i := 2) dJ3_checkIndex_8e157_9 (snd_iload_n (pc := 10) (i := 0) dJ3_checkIndex_8e157_10 (snd_iload_n (pc := 11) (i := 1) dJ3_checkIndex_8e157_11 snd_none))
noncomputable def k_J3_checkIndex_8e157 (F : Nat) : AK := ak_iload 0 (ak_iflt ((k_J3_checkIndex_8e157_9 F)) (ak_iload 0 (ak_iload 1 (ak_cmplt (ak_iload 0 ak_ireturn) ((k_J3_checkIndex_8e157_9 F))))))
noncomputable def m_J3_checkIndex_8e157 (F : Nat) : AF := mkF 1 3 (k_J3_checkIndex_8e157 F)
set_option maxRecDepth 20000 in
theorem s_J3_checkIndex_8e157 (F : Nat) : MA yJ3_checkIndex_8e157 cJ3_checkIndex_8e157 3 (some .int) 0 (m_J3_checkIndex_8e157 F) := met_of (Or.inr (Or.inl ⟨rfl, rfl⟩)) (by decide) (by
  unfold k_J3_checkIndex_8e157
  exact snd_iload_n (pc := 0) (i := 0) dJ3_checkIndex_8e157_0 (snd_iflt (pc := 1) (off := 8) (tgt := 9) (by decide) dJ3_checkIndex_8e157_1 ((sk_J3_checkIndex_8e157_9 F)) (snd_iload_n (pc := 4) (i := 0) dJ3_checkIndex_8e157_4 (snd_iload_n (pc := 5) (i := 1) dJ3_checkIndex_8e157_5 (snd_icmplt (pc := 6) (off := 10) (tgt := 16) (by decide) dJ3_checkIndex_8e157_6 (snd_iload_n (pc := 16) (i := 0) dJ3_checkIndex_8e157_16 (snd_ireturn dJ3_checkIndex_8e157_17)) ((sk_J3_checkIndex_8e157_9 F)))))))

theorem J3_same (F : Nat) : ∀ (lo st : List AV) (w : AW), ak_call 3 (m_J3_checkIndex_8e157 F) (ak_pop ak_return) lo (vR 399 :: st) w = ak_call 3 (m_J3_checkIndex_8e157 F) (ak_pop ak_return) lo (vN :: st) w := by
  intro lo st w
  rcases st with _ | ⟨a, _ | ⟨b, r⟩⟩
  · rfl
  · rfl
  · have key : m_J3_checkIndex_8e157 F [b, a, vR 399] w = m_J3_checkIndex_8e157 F [b, a, vN] w := by
      rcases b with x | x | x <;> rcases a with y | y | y <;> rfl
    show (bif Nat.ble 3 (r.length + 2 + 1) && Nat.ble (csum r) 8 then (match m_J3_checkIndex_8e157 F [b, a, vR 399] w with
      | some o => (ak_pop ak_return) lo (o.1.toList ++ r) o.2
      | none => none) else none) = _
    rw [key]
    rfl

/-! java/lang/String.checkIndex(II)V -/
theorem dJ0_checkIndex_df160_0 : decode cJ0_checkIndex_df160 0 = .ok (.iload_n 0, 1) := by decide +kernel
theorem dJ0_checkIndex_df160_1 : decode cJ0_checkIndex_df160 1 = .ok (.iload_n 1, 1) := by decide +kernel
theorem dJ0_checkIndex_df160_2 : decode cJ0_checkIndex_df160 2 = .ok (.getstatic 1053, 3) := by decide +kernel
theorem dJ0_checkIndex_df160_5 : decode cJ0_checkIndex_df160 5 = .ok (.invokestatic 1059, 3) := by decide +kernel
theorem dJ0_checkIndex_df160_8 : decode cJ0_checkIndex_df160 8 = .ok (.pop, 1) := by decide +kernel
theorem dJ0_checkIndex_df160_9 : decode cJ0_checkIndex_df160 9 = .ok (.return_, 1) := by decide +kernel
noncomputable def k_J0_checkIndex_df160 (F : Nat) : AK := ak_iload 0 (ak_iload 1 (ak_getq (ak_call 3 (m_J3_checkIndex_8e157 F) (ak_pop ak_return))))
noncomputable def m_J0_checkIndex_df160 (F : Nat) : AF := mkF 0 2 (k_J0_checkIndex_df160 F)
set_option maxRecDepth 20000 in
theorem s_J0_checkIndex_df160 (F : Nat) : MA yJ0_checkIndex_df160 cJ0_checkIndex_df160 2 none 1 (m_J0_checkIndex_df160 F) := met_of (Or.inl ⟨rfl, rfl⟩) (by decide) (by
  unfold k_J0_checkIndex_df160
  exact snd_iload_n (pc := 0) (i := 0) dJ0_checkIndex_df160_0 (snd_iload_n (pc := 1) (i := 1) dJ0_checkIndex_df160_1 (snd_getq (pc := 2) (J3_same F) wd_725 dJ0_checkIndex_df160_2 (snd_callS (pc := 5) (n := 3) (s_J3_checkIndex_8e157 F) (by decide) (by decide) wd_729 wd_727 wd_728 wd_134 hy_J3_checkIndex_8e157 dJ0_checkIndex_df160_5 (snd_pop (pc := 8) dJ0_checkIndex_df160_8 (snd_return dJ0_checkIndex_df160_9))))))

/-! java/lang/StringLatin1.charAt([BI)C -/
theorem dJ1_charAt_3b067_0 : decode cJ1_charAt_3b067 0 = .ok (.iload_n 1, 1) := by decide +kernel
theorem dJ1_charAt_3b067_1 : decode cJ1_charAt_3b067 1 = .ok (.aload_n 0, 1) := by decide +kernel
theorem dJ1_charAt_3b067_2 : decode cJ1_charAt_3b067 2 = .ok (.arraylength, 1) := by decide +kernel
theorem dJ1_charAt_3b067_3 : decode cJ1_charAt_3b067 3 = .ok (.invokestatic 9, 3) := by decide +kernel
theorem dJ1_charAt_3b067_6 : decode cJ1_charAt_3b067 6 = .ok (.aload_n 0, 1) := by decide +kernel
theorem dJ1_charAt_3b067_7 : decode cJ1_charAt_3b067 7 = .ok (.iload_n 1, 1) := by decide +kernel
theorem dJ1_charAt_3b067_8 : decode cJ1_charAt_3b067 8 = .ok (.baload, 1) := by decide +kernel
theorem dJ1_charAt_3b067_9 : decode cJ1_charAt_3b067 9 = .ok (.sipush 255, 3) := by decide +kernel
theorem dJ1_charAt_3b067_12 : decode cJ1_charAt_3b067 12 = .ok (.iand, 1) := by decide +kernel
theorem dJ1_charAt_3b067_13 : decode cJ1_charAt_3b067 13 = .ok (.i2c, 1) := by decide +kernel
theorem dJ1_charAt_3b067_14 : decode cJ1_charAt_3b067 14 = .ok (.ireturn, 1) := by decide +kernel
noncomputable def k_J1_charAt_3b067 (F : Nat) : AK := ak_iload 1 (ak_aload 0 (ak_alen (ak_call 2 (m_J0_checkIndex_df160 F) (ak_aload 0 (ak_iload 1 (ak_bald (ak_push (vI 255) (ak_iand (ak_i2c ak_ireturn)))))))))
noncomputable def m_J1_charAt_3b067 (F : Nat) : AF := mkF 3 2 (k_J1_charAt_3b067 F)
set_option maxRecDepth 20000 in
theorem s_J1_charAt_3b067 (F : Nat) : MA yJ1_charAt_3b067 cJ1_charAt_3b067 2 (some .char) 2 (m_J1_charAt_3b067 F) := met_of (Or.inr (Or.inr (Or.inr (Or.inl ⟨rfl, by decide⟩)))) (by decide) (by
  unfold k_J1_charAt_3b067
  exact snd_iload_n (pc := 0) (i := 1) dJ1_charAt_3b067_0 (snd_aload_n (pc := 1) (i := 0) dJ1_charAt_3b067_1 (snd_alen (pc := 2) dJ1_charAt_3b067_2 (snd_callS (pc := 3) (n := 2) (s_J0_checkIndex_df160 F) (by decide) (by decide) wd_724 wd_722 wd_723 wd_132 hy_J0_checkIndex_df160 dJ1_charAt_3b067_3 (snd_aload_n (pc := 6) (i := 0) dJ1_charAt_3b067_6 (snd_iload_n (pc := 7) (i := 1) dJ1_charAt_3b067_7 (snd_bald (pc := 8) dJ1_charAt_3b067_8 (snd_sipush (pc := 9) (by decide) dJ1_charAt_3b067_9 (snd_iand (pc := 12) dJ1_charAt_3b067_12 (snd_i2c (pc := 13) dJ1_charAt_3b067_13 (snd_ireturn dJ1_charAt_3b067_14)))))))))))

/-! java/lang/String.charAt(I)C -/
theorem dJ0_charAt_5068e_0 : decode cJ0_charAt_5068e 0 = .ok (.aload_n 0, 1) := by decide +kernel
theorem dJ0_charAt_5068e_1 : decode cJ0_charAt_5068e 1 = .ok (.invokevirtual 492, 3) := by decide +kernel
theorem dJ0_charAt_5068e_4 : decode cJ0_charAt_5068e 4 = .ok (.ifCond .eq 12, 3) := by decide +kernel
theorem dJ0_charAt_5068e_7 : decode cJ0_charAt_5068e 7 = .ok (.aload_n 0, 1) := by decide +kernel
theorem dJ0_charAt_5068e_8 : decode cJ0_charAt_5068e 8 = .ok (.getfield 9, 3) := by decide +kernel
theorem dJ0_charAt_5068e_11 : decode cJ0_charAt_5068e 11 = .ok (.iload_n 1, 1) := by decide +kernel
theorem dJ0_charAt_5068e_12 : decode cJ0_charAt_5068e 12 = .ok (.invokestatic 495, 3) := by decide +kernel
theorem dJ0_charAt_5068e_15 : decode cJ0_charAt_5068e 15 = .ok (.ireturn, 1) := by decide +kernel
theorem dJ0_charAt_5068e_16 : decode cJ0_charAt_5068e 16 = .ok (.aload_n 0, 1) := by decide +kernel
theorem dJ0_charAt_5068e_17 : decode cJ0_charAt_5068e 17 = .ok (.getfield 9, 3) := by decide +kernel
theorem dJ0_charAt_5068e_20 : decode cJ0_charAt_5068e 20 = .ok (.iload_n 1, 1) := by decide +kernel
theorem dJ0_charAt_5068e_21 : decode cJ0_charAt_5068e 21 = .ok (.invokestatic 498, 3) := by decide +kernel
theorem dJ0_charAt_5068e_24 : decode cJ0_charAt_5068e 24 = .ok (.ireturn, 1) := by decide +kernel
noncomputable def k_J0_charAt_5068e (F : Nat) : AK := ak_aload 0 (ak_callx 0 (m_J0_isLatin1_aae02 F) (ak_ifeq (ak_aload 0 (ak_sval (ak_iload 1 ak_none))) (ak_aload 0 (ak_sval (ak_iload 1 (ak_call 2 (m_J1_charAt_3b067 F) ak_ireturn))))))
noncomputable def m_J0_charAt_5068e (F : Nat) : AF := mkF 3 2 (k_J0_charAt_5068e F)
set_option maxRecDepth 20000 in
theorem s_J0_charAt_5068e (F : Nat) : MA yJ0_charAt_5068e cJ0_charAt_5068e 2 (some .char) 3 (m_J0_charAt_5068e F) := met_of (Or.inr (Or.inr (Or.inr (Or.inl ⟨rfl, by decide⟩)))) (by decide) (by
  unfold k_J0_charAt_5068e
  exact snd_aload_n (pc := 0) (i := 0) dJ0_charAt_5068e_0 (snd_callX (pc := 1) (n := 0) (s_J0_isLatin1_aae02 F) (by decide) (by decide) wd_718 wd_715 wd_716 wd_717 wd_132 hy_J0_isLatin1_aae02 dJ0_charAt_5068e_1 (snd_ifeq (pc := 4) (off := 12) (tgt := 16) (by decide) dJ0_charAt_5068e_4 (snd_aload_n (pc := 16) (i := 0) dJ0_charAt_5068e_16 (snd_sval (pc := 17) wd_1959 dJ0_charAt_5068e_17 (snd_iload_n (pc := 20) (i := 1) dJ0_charAt_5068e_20 snd_none))) (snd_aload_n (pc := 7) (i := 0) dJ0_charAt_5068e_7 (snd_sval (pc := 8) wd_1959 dJ0_charAt_5068e_8 (snd_iload_n (pc := 11) (i := 1) dJ0_charAt_5068e_11 (snd_callS (pc := 12) (n := 2) (s_J1_charAt_3b067 F) (by decide) (by decide) wd_721 wd_719 wd_720 wd_133 hy_J1_charAt_3b067 dJ0_charAt_5068e_12 (snd_ireturn dJ0_charAt_5068e_15))))))))
