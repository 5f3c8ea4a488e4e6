def xsGt : List Cond := lw_tbl.filter goodWord
theorem xsGood : ∀ w ∈ xsGt, goodWord w = true := fun _ h => (List.mem_filter.mp h).2
theorem xsGoodIn : GoodIn xsGt xsGt := fun w h => ⟨h, good_of_word (xsGood w h)⟩
theorem xsT0 : ∀ w ∈ k2_sels lw_privs, w ∈ lw_tbl := fun w h => List.mem_append_left _ h
theorem xsT1 : ∀ w ∈ tables_1_1, w ∈ lw_tbl := fun w h => List.mem_append_right _ (List.mem_append_left _ h)
theorem xsT2 : ∀ w ∈ tables_1_2, w ∈ lw_tbl := fun w h => List.mem_append_right _ (List.mem_append_right _ (List.mem_append_left _ h))
theorem xsT3 : ∀ w ∈ tables_1_3, w ∈ lw_tbl := fun w h => List.mem_append_right _ (List.mem_append_right _ (List.mem_append_right _ (List.mem_append_left _ h)))
theorem xsT4 : ∀ w ∈ tables_1_4, w ∈ lw_tbl := fun w h => List.mem_append_right _ (List.mem_append_right _ (List.mem_append_right _ (List.mem_append_right _ (List.mem_append_left _ h))))
theorem xsT5 : ∀ w ∈ tables_1_5, w ∈ lw_tbl := fun w h => List.mem_append_right _ (List.mem_append_right _ (List.mem_append_right _ (List.mem_append_right _ (List.mem_append_right _ (List.mem_append_left _ h)))))
theorem xsT6 : ∀ w ∈ tables_1_6, w ∈ lw_tbl := fun w h => List.mem_append_right _ (List.mem_append_right _ (List.mem_append_right _ (List.mem_append_right _ (List.mem_append_right _ (List.mem_append_right _ (List.mem_append_left _ h))))))
theorem xsT7 : ∀ w ∈ tables_1_7, w ∈ lw_tbl := fun w h => List.mem_append_right _ (List.mem_append_right _ (List.mem_append_right _ (List.mem_append_right _ (List.mem_append_right _ (List.mem_append_right _ (List.mem_append_right _ (List.mem_append_left _ h)))))))
theorem xsT8 : ∀ w ∈ tables_1_8, w ∈ lw_tbl := fun w h => List.mem_append_right _ (List.mem_append_right _ (List.mem_append_right _ (List.mem_append_right _ (List.mem_append_right _ (List.mem_append_right _ (List.mem_append_right _ (List.mem_append_right _ (h))))))))
theorem xs_w {w : Cond} (hm : w ∈ lw_tbl) (hg : goodWord w = true) : w ∈ xsGt := List.mem_filter.mpr ⟨hm, hg⟩
theorem w_0 : Cond.selects yX10_remember.cls yX10_remember yX10_remember ∈ xsGt := xs_w (xsT0 _ (List.mem_of_getElem? (i := 0) rfl)) rfl
theorem w_1 : Cond.selects yX7_copyOne.cls yX7_copyOne yX7_copyOne ∈ xsGt := xs_w (xsT0 _ (List.mem_of_getElem? (i := 1) rfl)) rfl
theorem w_2 : Cond.selects yX10_drawn.cls yX10_drawn yX10_drawn ∈ xsGt := xs_w (xsT0 _ (List.mem_of_getElem? (i := 2) rfl)) rfl
theorem w_3 : Cond.selects yX1_placeOf.cls yX1_placeOf yX1_placeOf ∈ xsGt := xs_w (xsT0 _ (List.mem_of_getElem? (i := 3) rfl)) rfl
theorem w_4 : Cond.selects yX1_compare.cls yX1_compare yX1_compare ∈ xsGt := xs_w (xsT0 _ (List.mem_of_getElem? (i := 4) rfl)) rfl
theorem w_5 : Cond.selects yX0_studyAlike.cls yX0_studyAlike yX0_studyAlike ∈ xsGt := xs_w (xsT0 _ (List.mem_of_getElem? (i := 5) rfl)) rfl
theorem w_6 : Cond.selects yX1_bundleOf.cls yX1_bundleOf yX1_bundleOf ∈ xsGt := xs_w (xsT0 _ (List.mem_of_getElem? (i := 6) rfl)) rfl
theorem w_7 : Cond.selects yX2_drawPieces.cls yX2_drawPieces yX2_drawPieces ∈ xsGt := xs_w (xsT0 _ (List.mem_of_getElem? (i := 7) rfl)) rfl
theorem w_8 : Cond.selects yX10_become.cls yX10_become yX10_become ∈ xsGt := xs_w (xsT0 _ (List.mem_of_getElem? (i := 8) rfl)) rfl
theorem w_9 : Cond.selects yX9_grown.cls yX9_grown yX9_grown ∈ xsGt := xs_w (xsT0 _ (List.mem_of_getElem? (i := 9) rfl)) rfl
theorem w_10 : Cond.selects yX10_countFurther.cls yX10_countFurther yX10_countFurther ∈ xsGt := xs_w (xsT0 _ (List.mem_of_getElem? (i := 10) rfl)) rfl
theorem w_11 : Cond.selects yX5_crossingsFewerWithout.cls yX5_crossingsFewerWithout yX5_crossingsFewerWithout ∈ xsGt := xs_w (xsT0 _ (List.mem_of_getElem? (i := 11) rfl)) rfl
theorem w_12 : Cond.selects yX1_endsIn.cls yX1_endsIn yX1_endsIn ∈ xsGt := xs_w (xsT0 _ (List.mem_of_getElem? (i := 12) rfl)) rfl
theorem w_13 : Cond.selects yX4_findLeast.cls yX4_findLeast yX4_findLeast ∈ xsGt := xs_w (xsT0 _ (List.mem_of_getElem? (i := 13) rfl)) rfl
theorem w_14 : Cond.selects yX4_tryNext.cls yX4_tryNext yX4_tryNext ∈ xsGt := xs_w (xsT0 _ (List.mem_of_getElem? (i := 14) rfl)) rfl
theorem w_15 : Cond.selects yX6_skipBlanks.cls yX6_skipBlanks yX6_skipBlanks ∈ xsGt := xs_w (xsT0 _ (List.mem_of_getElem? (i := 15) rfl)) rfl
theorem w_16 : Cond.selects yX6_readAct.cls yX6_readAct yX6_readAct ∈ xsGt := xs_w (xsT0 _ (List.mem_of_getElem? (i := 16) rfl)) rfl
theorem w_17 : Cond.selects yX6_readWord.cls yX6_readWord yX6_readWord ∈ xsGt := xs_w (xsT0 _ (List.mem_of_getElem? (i := 17) rfl)) rfl
theorem w_18 : Cond.selects yX6_readSeg.cls yX6_readSeg yX6_readSeg ∈ xsGt := xs_w (xsT0 _ (List.mem_of_getElem? (i := 18) rfl)) rfl
theorem w_19 : Cond.selects yX6_readSigned.cls yX6_readSigned yX6_readSigned ∈ xsGt := xs_w (xsT0 _ (List.mem_of_getElem? (i := 19) rfl)) rfl
theorem w_20 : Cond.selects yX6_readDigits.cls yX6_readDigits yX6_readDigits ∈ xsGt := xs_w (xsT0 _ (List.mem_of_getElem? (i := 20) rfl)) rfl
theorem w_21 : Cond.selects yX6_refuse.cls yX6_refuse yX6_refuse ∈ xsGt := xs_w (xsT0 _ (List.mem_of_getElem? (i := 21) rfl)) rfl
theorem w_22 : Cond.selects yX6_readNumber.cls yX6_readNumber yX6_readNumber ∈ xsGt := xs_w (xsT0 _ (List.mem_of_getElem? (i := 22) rfl)) rfl
theorem w_23 : Cond.selects yX6_readCut.cls yX6_readCut yX6_readCut ∈ xsGt := xs_w (xsT0 _ (List.mem_of_getElem? (i := 23) rfl)) rfl
theorem w_24 : Cond.selects yX6_readMove.cls yX6_readMove yX6_readMove ∈ xsGt := xs_w (xsT0 _ (List.mem_of_getElem? (i := 24) rfl)) rfl
theorem w_25 : Cond.selects yX6_readTint.cls yX6_readTint yX6_readTint ∈ xsGt := xs_w (xsT0 _ (List.mem_of_getElem? (i := 25) rfl)) rfl
theorem w_26 : Cond.selects yX6_readBreak.cls yX6_readBreak yX6_readBreak ∈ xsGt := xs_w (xsT0 _ (List.mem_of_getElem? (i := 26) rfl)) rfl
theorem w_28 : Cond.selects yX10_checkSegment.cls yX10_checkSegment yX10_checkSegment ∈ xsGt := xs_w (xsT0 _ (List.mem_of_getElem? (i := 28) rfl)) rfl
theorem w_29 : Cond.selects yX10_encounterOf.cls yX10_encounterOf yX10_encounterOf ∈ xsGt := xs_w (xsT0 _ (List.mem_of_getElem? (i := 29) rfl)) rfl
theorem w_30 : Cond.selects yX2_reach.cls yX2_reach yX2_reach ∈ xsGt := xs_w (xsT0 _ (List.mem_of_getElem? (i := 30) rfl)) rfl
theorem w_31 : Cond.selects yX2_reachAround.cls yX2_reachAround yX2_reachAround ∈ xsGt := xs_w (xsT0 _ (List.mem_of_getElem? (i := 31) rfl)) rfl
theorem w_32 : Cond.selects yX7_sideOf.cls yX7_sideOf yX7_sideOf ∈ xsGt := xs_w (xsT0 _ (List.mem_of_getElem? (i := 32) rfl)) rfl
theorem w_33 : Cond.selects yX11_throwsIf.cls yX11_throwsIf yX11_throwsIf ∈ xsGt := xs_w (xsT0 _ (List.mem_of_getElem? (i := 33) rfl)) rfl
theorem w_34 : Cond.selects yX11_readActs.cls yX11_readActs yX11_readActs ∈ xsGt := xs_w (xsT0 _ (List.mem_of_getElem? (i := 34) rfl)) rfl
theorem w_35 : Cond.selects yX11_blanks.cls yX11_blanks yX11_blanks ∈ xsGt := xs_w (xsT0 _ (List.mem_of_getElem? (i := 35) rfl)) rfl
theorem w_36 : Cond.selects yX11_isAt.cls yX11_isAt yX11_isAt ∈ xsGt := xs_w (xsT0 _ (List.mem_of_getElem? (i := 36) rfl)) rfl
theorem w_37 : Cond.selects yX11_letters.cls yX11_letters yX11_letters ∈ xsGt := xs_w (xsT0 _ (List.mem_of_getElem? (i := 37) rfl)) rfl
theorem w_38 : Cond.selects yX11_readAct.cls yX11_readAct yX11_readAct ∈ xsGt := xs_w (xsT0 _ (List.mem_of_getElem? (i := 38) rfl)) rfl
theorem w_39 : Cond.selects yX11_isWord.cls yX11_isWord yX11_isWord ∈ xsGt := xs_w (xsT0 _ (List.mem_of_getElem? (i := 39) rfl)) rfl
theorem w_40 : Cond.selects yX11_readsSegment.cls yX11_readsSegment yX11_readsSegment ∈ xsGt := xs_w (xsT0 _ (List.mem_of_getElem? (i := 40) rfl)) rfl
theorem w_41 : Cond.selects yX11_readsSigned.cls yX11_readsSigned yX11_readsSigned ∈ xsGt := xs_w (xsT0 _ (List.mem_of_getElem? (i := 41) rfl)) rfl
theorem w_42 : Cond.selects yX11_reads.cls yX11_reads yX11_reads ∈ xsGt := xs_w (xsT0 _ (List.mem_of_getElem? (i := 42) rfl)) rfl
theorem w_43 : Cond.selects yX11_passesWord.cls yX11_passesWord yX11_passesWord ∈ xsGt := xs_w (xsT0 _ (List.mem_of_getElem? (i := 43) rfl)) rfl
theorem w_44 : Cond.selects yX11_many.cls yX11_many yX11_many ∈ xsGt := xs_w (xsT0 _ (List.mem_of_getElem? (i := 44) rfl)) rfl
theorem w_45 : Cond.selects yX11_wrongAt.cls yX11_wrongAt yX11_wrongAt ∈ xsGt := xs_w (xsT0 _ (List.mem_of_getElem? (i := 45) rfl)) rfl
theorem w_46 : Cond.selects yX11_adds.cls yX11_adds yX11_adds ∈ xsGt := xs_w (xsT0 _ (List.mem_of_getElem? (i := 46) rfl)) rfl
theorem w_47 : Cond.selects yX11_puts.cls yX11_puts yX11_puts ∈ xsGt := xs_w (xsT0 _ (List.mem_of_getElem? (i := 47) rfl)) rfl
theorem w_48 : Cond.selects yX11_cuts.cls yX11_cuts yX11_cuts ∈ xsGt := xs_w (xsT0 _ (List.mem_of_getElem? (i := 48) rfl)) rfl
theorem w_49 : Cond.selects yX11_canMove.cls yX11_canMove yX11_canMove ∈ xsGt := xs_w (xsT0 _ (List.mem_of_getElem? (i := 49) rfl)) rfl
theorem w_50 : Cond.selects yX11_of.cls yX11_of yX11_of ∈ xsGt := xs_w (xsT0 _ (List.mem_of_getElem? (i := 50) rfl)) rfl
theorem w_51 : Cond.selects yX11_moves.cls yX11_moves yX11_moves ∈ xsGt := xs_w (xsT0 _ (List.mem_of_getElem? (i := 51) rfl)) rfl
theorem w_52 : Cond.selects yX11_turns.cls yX11_turns yX11_turns ∈ xsGt := xs_w (xsT0 _ (List.mem_of_getElem? (i := 52) rfl)) rfl
theorem w_53 : Cond.selects yX11_remembers.cls yX11_remembers yX11_remembers ∈ xsGt := xs_w (xsT0 _ (List.mem_of_getElem? (i := 53) rfl)) rfl
theorem w_54 : Cond.selects yX11_noSegment.cls yX11_noSegment yX11_noSegment ∈ xsGt := xs_w (xsT0 _ (List.mem_of_getElem? (i := 54) rfl)) rfl
theorem w_55 : Cond.selects yX11_crossingsNow.cls yX11_crossingsNow yX11_crossingsNow ∈ xsGt := xs_w (xsT0 _ (List.mem_of_getElem? (i := 55) rfl)) rfl
theorem w_56 : Cond.selects yX11_lays.cls yX11_lays yX11_lays ∈ xsGt := xs_w (xsT0 _ (List.mem_of_getElem? (i := 56) rfl)) rfl
theorem w_57 : Cond.selects yX11_stands.cls yX11_stands yX11_stands ∈ xsGt := xs_w (xsT0 _ (List.mem_of_getElem? (i := 57) rfl)) rfl
theorem w_58 : Cond.selects yX11_sharesOf.cls yX11_sharesOf yX11_sharesOf ∈ xsGt := xs_w (xsT0 _ (List.mem_of_getElem? (i := 58) rfl)) rfl
theorem w_59 : Cond.selects yX11_takes.cls yX11_takes yX11_takes ∈ xsGt := xs_w (xsT0 _ (List.mem_of_getElem? (i := 59) rfl)) rfl
theorem w_60 : Cond.selects yX11_shares.cls yX11_shares yX11_shares ∈ xsGt := xs_w (xsT0 _ (List.mem_of_getElem? (i := 60) rfl)) rfl
theorem w_61 : Cond.selects yX11_sharesPoint.cls yX11_sharesPoint yX11_sharesPoint ∈ xsGt := xs_w (xsT0 _ (List.mem_of_getElem? (i := 61) rfl)) rfl
theorem w_62 : Cond.selects yX11_sharesLine.cls yX11_sharesLine yX11_sharesLine ∈ xsGt := xs_w (xsT0 _ (List.mem_of_getElem? (i := 62) rfl)) rfl
theorem w_63 : Cond.selects yX11_has.cls yX11_has yX11_has ∈ xsGt := xs_w (xsT0 _ (List.mem_of_getElem? (i := 63) rfl)) rfl
theorem w_64 : Cond.selects yX11_laysEdges.cls yX11_laysEdges yX11_laysEdges ∈ xsGt := xs_w (xsT0 _ (List.mem_of_getElem? (i := 64) rfl)) rfl
theorem w_65 : Cond.selects yX11_isEdge.cls yX11_isEdge yX11_isEdge ∈ xsGt := xs_w (xsT0 _ (List.mem_of_getElem? (i := 65) rfl)) rfl
theorem w_66 : Cond.selects yX11_kindOf.cls yX11_kindOf yX11_kindOf ∈ xsGt := xs_w (xsT0 _ (List.mem_of_getElem? (i := 66) rfl)) rfl
theorem w_67 : Cond.selects yX11_isUpright.cls yX11_isUpright yX11_isUpright ∈ xsGt := xs_w (xsT0 _ (List.mem_of_getElem? (i := 67) rfl)) rfl
theorem w_68 : Cond.selects yX11_eventsOn.cls yX11_eventsOn yX11_eventsOn ∈ xsGt := xs_w (xsT0 _ (List.mem_of_getElem? (i := 68) rfl)) rfl
theorem w_69 : Cond.selects yX11_partOf.cls yX11_partOf yX11_partOf ∈ xsGt := xs_w (xsT0 _ (List.mem_of_getElem? (i := 69) rfl)) rfl
theorem w_70 : Cond.selects yX11_tiedTo.cls yX11_tiedTo yX11_tiedTo ∈ xsGt := xs_w (xsT0 _ (List.mem_of_getElem? (i := 70) rfl)) rfl
theorem w_71 : Cond.selects yX11_noTwo.cls yX11_noTwo yX11_noTwo ∈ xsGt := xs_w (xsT0 _ (List.mem_of_getElem? (i := 71) rfl)) rfl
theorem w_72 : Cond.selects yX11_howOf.cls yX11_howOf yX11_howOf ∈ xsGt := xs_w (xsT0 _ (List.mem_of_getElem? (i := 72) rfl)) rfl
theorem w_73 : Cond.selects yX11_isEndOf.cls yX11_isEndOf yX11_isEndOf ∈ xsGt := xs_w (xsT0 _ (List.mem_of_getElem? (i := 73) rfl)) rfl
theorem w_74 : Cond.selects yX11_noCrossing.cls yX11_noCrossing yX11_noCrossing ∈ xsGt := xs_w (xsT0 _ (List.mem_of_getElem? (i := 74) rfl)) rfl
theorem w_75 : Cond.selects yX11_tintsOf.cls yX11_tintsOf yX11_tintsOf ∈ xsGt := xs_w (xsT0 _ (List.mem_of_getElem? (i := 75) rfl)) rfl
theorem w_76 : Cond.selects yX11_noEvent.cls yX11_noEvent yX11_noEvent ∈ xsGt := xs_w (xsT0 _ (List.mem_of_getElem? (i := 76) rfl)) rfl
theorem w_77 : Cond.selects yX11_endsAt.cls yX11_endsAt yX11_endsAt ∈ xsGt := xs_w (xsT0 _ (List.mem_of_getElem? (i := 77) rfl)) rfl
theorem w_78 : Cond.selects yX11_isLeftAt.cls yX11_isLeftAt yX11_isLeftAt ∈ xsGt := xs_w (xsT0 _ (List.mem_of_getElem? (i := 78) rfl)) rfl
theorem w_79 : Cond.selects yX11_isRightAt.cls yX11_isRightAt yX11_isRightAt ∈ xsGt := xs_w (xsT0 _ (List.mem_of_getElem? (i := 79) rfl)) rfl
theorem w_80 : Cond.selects yX11_within.cls yX11_within yX11_within ∈ xsGt := xs_w (xsT0 _ (List.mem_of_getElem? (i := 80) rfl)) rfl
theorem w_81 : Cond.selects yX11_spreadOf.cls yX11_spreadOf yX11_spreadOf ∈ xsGt := xs_w (xsT0 _ (List.mem_of_getElem? (i := 81) rfl)) rfl
theorem w_82 : Cond.selects yX11_laysStatus.cls yX11_laysStatus yX11_laysStatus ∈ xsGt := xs_w (xsT0 _ (List.mem_of_getElem? (i := 82) rfl)) rfl
theorem w_83 : Cond.selects yX11_isMet.cls yX11_isMet yX11_isMet ∈ xsGt := xs_w (xsT0 _ (List.mem_of_getElem? (i := 83) rfl)) rfl
theorem w_84 : Cond.selects yX11_laysY.cls yX11_laysY yX11_laysY ∈ xsGt := xs_w (xsT0 _ (List.mem_of_getElem? (i := 84) rfl)) rfl
theorem w_85 : Cond.selects yX11_isBelow.cls yX11_isBelow yX11_isBelow ∈ xsGt := xs_w (xsT0 _ (List.mem_of_getElem? (i := 85) rfl)) rfl
theorem w_86 : Cond.selects yX11_rises.cls yX11_rises yX11_rises ∈ xsGt := xs_w (xsT0 _ (List.mem_of_getElem? (i := 86) rfl)) rfl
theorem w_87 : Cond.selects yX11_laysView.cls yX11_laysView yX11_laysView ∈ xsGt := xs_w (xsT0 _ (List.mem_of_getElem? (i := 87) rfl)) rfl
theorem w_88 : Cond.selects yX11_laysHull.cls yX11_laysHull yX11_laysHull ∈ xsGt := xs_w (xsT0 _ (List.mem_of_getElem? (i := 88) rfl)) rfl
theorem w_89 : Cond.selects yX11_laysEnds.cls yX11_laysEnds yX11_laysEnds ∈ xsGt := xs_w (xsT0 _ (List.mem_of_getElem? (i := 89) rfl)) rfl
theorem w_90 : Cond.selects yX11_isFurther.cls yX11_isFurther yX11_isFurther ∈ xsGt := xs_w (xsT0 _ (List.mem_of_getElem? (i := 90) rfl)) rfl
theorem w_91 : Cond.selects yX11_noPlace.cls yX11_noPlace yX11_noPlace ∈ xsGt := xs_w (xsT0 _ (List.mem_of_getElem? (i := 91) rfl)) rfl
theorem w_92 : Cond.selects yX11_whoHas.cls yX11_whoHas yX11_whoHas ∈ xsGt := xs_w (xsT0 _ (List.mem_of_getElem? (i := 92) rfl)) rfl
theorem w_93 : Cond.selects yX11_hasHeight.cls yX11_hasHeight yX11_hasHeight ∈ xsGt := xs_w (xsT0 _ (List.mem_of_getElem? (i := 93) rfl)) rfl
theorem w_94 : Cond.selects yX11_takesStretch.cls yX11_takesStretch yX11_takesStretch ∈ xsGt := xs_w (xsT0 _ (List.mem_of_getElem? (i := 94) rfl)) rfl
theorem w_95 : Cond.selects yX11_takesNearer.cls yX11_takesNearer yX11_takesNearer ∈ xsGt := xs_w (xsT0 _ (List.mem_of_getElem? (i := 95) rfl)) rfl
theorem w_96 : Cond.selects yX11_hits.cls yX11_hits yX11_hits ∈ xsGt := xs_w (xsT0 _ (List.mem_of_getElem? (i := 96) rfl)) rfl
theorem w_97 : Cond.selects yX11_pairs.cls yX11_pairs yX11_pairs ∈ xsGt := xs_w (xsT0 _ (List.mem_of_getElem? (i := 97) rfl)) rfl
theorem w_98 : Cond.selects yX11_parts.cls yX11_parts yX11_parts ∈ xsGt := xs_w (xsT0 _ (List.mem_of_getElem? (i := 98) rfl)) rfl
theorem w_99 : Cond.selects yX11_widestBundle.cls yX11_widestBundle yX11_widestBundle ∈ xsGt := xs_w (xsT0 _ (List.mem_of_getElem? (i := 99) rfl)) rfl
theorem w_100 : Cond.selects yX11_mostStatus.cls yX11_mostStatus yX11_mostStatus ∈ xsGt := xs_w (xsT0 _ (List.mem_of_getElem? (i := 100) rfl)) rfl
theorem w_101 : Cond.selects yX11_blame.cls yX11_blame yX11_blame ∈ xsGt := xs_w (xsT0 _ (List.mem_of_getElem? (i := 101) rfl)) rfl
theorem w_102 : Cond.selects yX11_odd.cls yX11_odd yX11_odd ∈ xsGt := xs_w (xsT0 _ (List.mem_of_getElem? (i := 102) rfl)) rfl
theorem w_103 : Cond.selects yX11_spreads.cls yX11_spreads yX11_spreads ∈ xsGt := xs_w (xsT0 _ (List.mem_of_getElem? (i := 103) rfl)) rfl
theorem w_104 : Cond.initialized RL ∈ xsGt := xs_w (xsT1 _ (List.mem_of_getElem? (i := 0) rfl)) rfl
theorem w_105 : Cond.initialized RX10 ∈ xsGt := xs_w (xsT1 _ (List.mem_of_getElem? (i := 1) rfl)) rfl
theorem w_106 : Cond.initialized RX7 ∈ xsGt := xs_w (xsT1 _ (List.mem_of_getElem? (i := 2) rfl)) rfl
theorem w_107 : Cond.initialized RX3 ∈ xsGt := xs_w (xsT1 _ (List.mem_of_getElem? (i := 3) rfl)) rfl
theorem w_108 : Cond.initialized RX6 ∈ xsGt := xs_w (xsT1 _ (List.mem_of_getElem? (i := 4) rfl)) rfl
theorem w_109 : Cond.initialized RX5 ∈ xsGt := xs_w (xsT1 _ (List.mem_of_getElem? (i := 5) rfl)) rfl
theorem w_110 : Cond.initialized RX0 ∈ xsGt := xs_w (xsT1 _ (List.mem_of_getElem? (i := 6) rfl)) rfl
theorem w_111 : Cond.initialized RX9 ∈ xsGt := xs_w (xsT1 _ (List.mem_of_getElem? (i := 7) rfl)) rfl
theorem w_112 : Cond.initialized RX1 ∈ xsGt := xs_w (xsT1 _ (List.mem_of_getElem? (i := 8) rfl)) rfl
theorem w_113 : Cond.initialized RX2 ∈ xsGt := xs_w (xsT1 _ (List.mem_of_getElem? (i := 9) rfl)) rfl
theorem w_114 : Cond.initialized RX4 ∈ xsGt := xs_w (xsT1 _ (List.mem_of_getElem? (i := 10) rfl)) rfl
theorem w_115 : Cond.initialized RX11 ∈ xsGt := xs_w (xsT1 _ (List.mem_of_getElem? (i := 11) rfl)) rfl
theorem w_116 : Cond.initialized RJ0 ∈ xsGt := xs_w (xsT1 _ (List.mem_of_getElem? (i := 12) rfl)) rfl
theorem w_117 : Cond.initialized RJ1 ∈ xsGt := xs_w (xsT1 _ (List.mem_of_getElem? (i := 13) rfl)) rfl
theorem w_118 : Cond.initialized RJ3 ∈ xsGt := xs_w (xsT1 _ (List.mem_of_getElem? (i := 14) rfl)) rfl
theorem w_119 : Cond.initialized RJ2 ∈ xsGt := xs_w (xsT1 _ (List.mem_of_getElem? (i := 15) rfl)) rfl
theorem w_120 : Cond.initialized "java/lang/Throwable" ∈ xsGt := xs_w (xsT1 _ (List.mem_of_getElem? (i := 16) rfl)) rfl
theorem w_121 : Cond.initialized "java/lang/Exception" ∈ xsGt := xs_w (xsT1 _ (List.mem_of_getElem? (i := 17) rfl)) rfl
theorem w_122 : Cond.initialized "java/lang/RuntimeException" ∈ xsGt := xs_w (xsT1 _ (List.mem_of_getElem? (i := 18) rfl)) rfl
theorem w_123 : Cond.initialized "java/lang/IllegalArgumentException" ∈ xsGt := xs_w (xsT1 _ (List.mem_of_getElem? (i := 19) rfl)) rfl
theorem w_124 : Cond.initialized "java/lang/IllegalStateException" ∈ xsGt := xs_w (xsT1 _ (List.mem_of_getElem? (i := 20) rfl)) rfl
theorem w_125 : Cond.initialized RJ9 ∈ xsGt := xs_w (xsT1 _ (List.mem_of_getElem? (i := 21) rfl)) rfl
theorem w_126 : Cond.initialized "java/lang/IndexOutOfBoundsException" ∈ xsGt := xs_w (xsT1 _ (List.mem_of_getElem? (i := 22) rfl)) rfl
theorem w_127 : Cond.initialized RJ13 ∈ xsGt := xs_w (xsT1 _ (List.mem_of_getElem? (i := 23) rfl)) rfl
theorem w_128 : Cond.initialized RJ6 ∈ xsGt := xs_w (xsT1 _ (List.mem_of_getElem? (i := 24) rfl)) rfl
theorem w_129 : Cond.initialized "java/util/NoSuchElementException" ∈ xsGt := xs_w (xsT1 _ (List.mem_of_getElem? (i := 25) rfl)) rfl
theorem w_130 : Cond.initialized RX8 ∈ xsGt := xs_w (xsT1 _ (List.mem_of_getElem? (i := 26) rfl)) rfl
theorem w_133 : Cond.methodLink RL 102 yX10_init ∈ xsGt := xs_w (xsT1 _ (List.mem_of_getElem? (i := 29) rfl)) rfl
theorem w_134 : Cond.instanceMethod yX10_init ∈ xsGt := xs_w (xsT1 _ (List.mem_of_getElem? (i := 30) rfl)) rfl
theorem w_135 : Cond.code yX10_init cX10_init 1 none ∈ xsGt := xs_w (xsT1 _ (List.mem_of_getElem? (i := 31) rfl)) rfl
theorem w_141 : Cond.methodLink RX10 9 yX7_init ∈ xsGt := xs_w (xsT1 _ (List.mem_of_getElem? (i := 37) rfl)) rfl
theorem w_142 : Cond.instanceMethod yX7_init ∈ xsGt := xs_w (xsT1 _ (List.mem_of_getElem? (i := 38) rfl)) rfl
theorem w_143 : Cond.code yX7_init cX7_init 1 none ∈ xsGt := xs_w (xsT1 _ (List.mem_of_getElem? (i := 39) rfl)) rfl
theorem w_145 : Cond.fieldLink RX7 9 (TX7 0).1 (TX7 0).2.1 (TX7 0).2.2.1 ∈ xsGt := xs_w (xsT1 _ (List.mem_of_getElem? (i := 41) rfl)) rfl
theorem w_146 : Cond.fieldLink RX5 54 (TX7 0).1 (TX7 0).2.1 (TX7 0).2.2.1 ∈ xsGt := xs_w (xsT1 _ (List.mem_of_getElem? (i := 42) rfl)) rfl
theorem w_147 : Cond.fieldLink RX0 30 (TX7 0).1 (TX7 0).2.1 (TX7 0).2.2.1 ∈ xsGt := xs_w (xsT1 _ (List.mem_of_getElem? (i := 43) rfl)) rfl
theorem w_148 : Cond.fieldLink RX4 35 (TX7 0).1 (TX7 0).2.1 (TX7 0).2.2.1 ∈ xsGt := xs_w (xsT1 _ (List.mem_of_getElem? (i := 44) rfl)) rfl
theorem w_149 : Cond.fieldLink RX1 63 (TX7 0).1 (TX7 0).2.1 (TX7 0).2.2.1 ∈ xsGt := xs_w (xsT1 _ (List.mem_of_getElem? (i := 45) rfl)) rfl
theorem w_150 : Cond.fieldLink RX8 67 (TX7 0).1 (TX7 0).2.1 (TX7 0).2.2.1 ∈ xsGt := xs_w (xsT1 _ (List.mem_of_getElem? (i := 46) rfl)) rfl
theorem w_151 : Cond.fieldLink RX10 166 (TX7 0).1 (TX7 0).2.1 (TX7 0).2.2.1 ∈ xsGt := xs_w (xsT1 _ (List.mem_of_getElem? (i := 47) rfl)) rfl
theorem w_152 : Cond.fieldLink RX7 15 (TX7 1).1 (TX7 1).2.1 (TX7 1).2.2.1 ∈ xsGt := xs_w (xsT1 _ (List.mem_of_getElem? (i := 48) rfl)) rfl
theorem w_153 : Cond.fieldLink RX5 58 (TX7 1).1 (TX7 1).2.1 (TX7 1).2.2.1 ∈ xsGt := xs_w (xsT1 _ (List.mem_of_getElem? (i := 49) rfl)) rfl
theorem w_154 : Cond.fieldLink RX0 34 (TX7 1).1 (TX7 1).2.1 (TX7 1).2.2.1 ∈ xsGt := xs_w (xsT1 _ (List.mem_of_getElem? (i := 50) rfl)) rfl
theorem w_155 : Cond.fieldLink RX4 38 (TX7 1).1 (TX7 1).2.1 (TX7 1).2.2.1 ∈ xsGt := xs_w (xsT1 _ (List.mem_of_getElem? (i := 51) rfl)) rfl
theorem w_156 : Cond.fieldLink RX8 56 (TX7 1).1 (TX7 1).2.1 (TX7 1).2.2.1 ∈ xsGt := xs_w (xsT1 _ (List.mem_of_getElem? (i := 52) rfl)) rfl
theorem w_157 : Cond.fieldLink RX1 66 (TX7 1).1 (TX7 1).2.1 (TX7 1).2.2.1 ∈ xsGt := xs_w (xsT1 _ (List.mem_of_getElem? (i := 53) rfl)) rfl
theorem w_158 : Cond.fieldLink RX10 169 (TX7 1).1 (TX7 1).2.1 (TX7 1).2.2.1 ∈ xsGt := xs_w (xsT1 _ (List.mem_of_getElem? (i := 54) rfl)) rfl
theorem w_159 : Cond.fieldLink RX7 18 (TX7 2).1 (TX7 2).2.1 (TX7 2).2.2.1 ∈ xsGt := xs_w (xsT1 _ (List.mem_of_getElem? (i := 55) rfl)) rfl
theorem w_160 : Cond.fieldLink RX5 65 (TX7 2).1 (TX7 2).2.1 (TX7 2).2.2.1 ∈ xsGt := xs_w (xsT1 _ (List.mem_of_getElem? (i := 56) rfl)) rfl
theorem w_161 : Cond.fieldLink RX4 45 (TX7 2).1 (TX7 2).2.1 (TX7 2).2.2.1 ∈ xsGt := xs_w (xsT1 _ (List.mem_of_getElem? (i := 57) rfl)) rfl
theorem w_162 : Cond.fieldLink RX0 49 (TX7 2).1 (TX7 2).2.1 (TX7 2).2.2.1 ∈ xsGt := xs_w (xsT1 _ (List.mem_of_getElem? (i := 58) rfl)) rfl
theorem w_163 : Cond.fieldLink RX1 69 (TX7 2).1 (TX7 2).2.1 (TX7 2).2.2.1 ∈ xsGt := xs_w (xsT1 _ (List.mem_of_getElem? (i := 59) rfl)) rfl
theorem w_164 : Cond.fieldLink RX10 172 (TX7 2).1 (TX7 2).2.1 (TX7 2).2.2.1 ∈ xsGt := xs_w (xsT1 _ (List.mem_of_getElem? (i := 60) rfl)) rfl
theorem w_165 : Cond.fieldLink RX7 21 (TX7 3).1 (TX7 3).2.1 (TX7 3).2.2.1 ∈ xsGt := xs_w (xsT1 _ (List.mem_of_getElem? (i := 61) rfl)) rfl
theorem w_166 : Cond.fieldLink RX5 68 (TX7 3).1 (TX7 3).2.1 (TX7 3).2.2.1 ∈ xsGt := xs_w (xsT1 _ (List.mem_of_getElem? (i := 62) rfl)) rfl
theorem w_167 : Cond.fieldLink RX4 48 (TX7 3).1 (TX7 3).2.1 (TX7 3).2.2.1 ∈ xsGt := xs_w (xsT1 _ (List.mem_of_getElem? (i := 63) rfl)) rfl
theorem w_168 : Cond.fieldLink RX0 52 (TX7 3).1 (TX7 3).2.1 (TX7 3).2.2.1 ∈ xsGt := xs_w (xsT1 _ (List.mem_of_getElem? (i := 64) rfl)) rfl
theorem w_169 : Cond.fieldLink RX1 72 (TX7 3).1 (TX7 3).2.1 (TX7 3).2.2.1 ∈ xsGt := xs_w (xsT1 _ (List.mem_of_getElem? (i := 65) rfl)) rfl
theorem w_170 : Cond.fieldLink RX10 175 (TX7 3).1 (TX7 3).2.1 (TX7 3).2.2.1 ∈ xsGt := xs_w (xsT1 _ (List.mem_of_getElem? (i := 66) rfl)) rfl
theorem w_171 : Cond.fieldLink RX7 24 (TX7 4).1 (TX7 4).2.1 (TX7 4).2.2.1 ∈ xsGt := xs_w (xsT1 _ (List.mem_of_getElem? (i := 67) rfl)) rfl
theorem w_172 : Cond.fieldLink RX10 151 (TX7 4).1 (TX7 4).2.1 (TX7 4).2.2.1 ∈ xsGt := xs_w (xsT1 _ (List.mem_of_getElem? (i := 68) rfl)) rfl
theorem w_173 : Cond.fieldLink RX6 116 (TX7 4).1 (TX7 4).2.1 (TX7 4).2.2.1 ∈ xsGt := xs_w (xsT1 _ (List.mem_of_getElem? (i := 69) rfl)) rfl
theorem w_174 : Cond.fieldLink RX7 27 (TX7 5).1 (TX7 5).2.1 (TX7 5).2.2.1 ∈ xsGt := xs_w (xsT1 _ (List.mem_of_getElem? (i := 70) rfl)) rfl
theorem w_175 : Cond.fieldLink RX5 43 (TX7 5).1 (TX7 5).2.1 (TX7 5).2.2.1 ∈ xsGt := xs_w (xsT1 _ (List.mem_of_getElem? (i := 71) rfl)) rfl
theorem w_176 : Cond.fieldLink RX4 28 (TX7 5).1 (TX7 5).2.1 (TX7 5).2.2.1 ∈ xsGt := xs_w (xsT1 _ (List.mem_of_getElem? (i := 72) rfl)) rfl
theorem w_177 : Cond.fieldLink RX8 15 (TX7 5).1 (TX7 5).2.1 (TX7 5).2.2.1 ∈ xsGt := xs_w (xsT1 _ (List.mem_of_getElem? (i := 73) rfl)) rfl
theorem w_178 : Cond.fieldLink RX1 60 (TX7 5).1 (TX7 5).2.1 (TX7 5).2.2.1 ∈ xsGt := xs_w (xsT1 _ (List.mem_of_getElem? (i := 74) rfl)) rfl
theorem w_179 : Cond.fieldLink RX10 119 (TX7 5).1 (TX7 5).2.1 (TX7 5).2.2.1 ∈ xsGt := xs_w (xsT1 _ (List.mem_of_getElem? (i := 75) rfl)) rfl
theorem w_180 : Cond.fieldLink RX6 99 (TX7 5).1 (TX7 5).2.1 (TX7 5).2.2.1 ∈ xsGt := xs_w (xsT1 _ (List.mem_of_getElem? (i := 76) rfl)) rfl
theorem w_197 : Cond.methodLink RX10 24 yX3_init ∈ xsGt := xs_w (xsT1 _ (List.mem_of_getElem? (i := 93) rfl)) rfl
theorem w_198 : Cond.instanceMethod yX3_init ∈ xsGt := xs_w (xsT1 _ (List.mem_of_getElem? (i := 94) rfl)) rfl
theorem w_199 : Cond.code yX3_init cX3_init 2 none ∈ xsGt := xs_w (xsT1 _ (List.mem_of_getElem? (i := 95) rfl)) rfl
theorem w_203 : Cond.methodLink RX3 17 yX7_init ∈ xsGt := xs_w (xsT1 _ (List.mem_of_getElem? (i := 99) rfl)) rfl
theorem w_204 : Cond.fieldLink RX3 11 (TX3 0).1 (TX3 0).2.1 (TX3 0).2.2.1 ∈ xsGt := xs_w (xsT1 _ (List.mem_of_getElem? (i := 100) rfl)) rfl
theorem w_205 : Cond.fieldLink RX3 18 (TX3 1).1 (TX3 1).2.1 (TX3 1).2.2.1 ∈ xsGt := xs_w (xsT1 _ (List.mem_of_getElem? (i := 101) rfl)) rfl
theorem w_206 : Cond.fieldLink RX3 22 (TX3 2).1 (TX3 2).2.1 (TX3 2).2.2.1 ∈ xsGt := xs_w (xsT1 _ (List.mem_of_getElem? (i := 102) rfl)) rfl
theorem w_207 : Cond.fieldLink RX10 159 (TX3 2).1 (TX3 2).2.1 (TX3 2).2.2.1 ∈ xsGt := xs_w (xsT1 _ (List.mem_of_getElem? (i := 103) rfl)) rfl
theorem w_217 : Cond.methodLink RX10 31 yX6_init ∈ xsGt := xs_w (xsT1 _ (List.mem_of_getElem? (i := 113) rfl)) rfl
theorem w_218 : Cond.instanceMethod yX6_init ∈ xsGt := xs_w (xsT1 _ (List.mem_of_getElem? (i := 114) rfl)) rfl
theorem w_219 : Cond.code yX6_init cX6_init 1 none ∈ xsGt := xs_w (xsT1 _ (List.mem_of_getElem? (i := 115) rfl)) rfl
theorem w_222 : Cond.methodLink RX6 21 yX7_init ∈ xsGt := xs_w (xsT1 _ (List.mem_of_getElem? (i := 118) rfl)) rfl
theorem w_223 : Cond.fieldLink RX6 9 (TX6 0).1 (TX6 0).2.1 (TX6 0).2.2.1 ∈ xsGt := xs_w (xsT1 _ (List.mem_of_getElem? (i := 119) rfl)) rfl
theorem w_224 : Cond.fieldLink RX6 15 (TX6 1).1 (TX6 1).2.1 (TX6 1).2.2.1 ∈ xsGt := xs_w (xsT1 _ (List.mem_of_getElem? (i := 120) rfl)) rfl
theorem w_225 : Cond.fieldLink RX6 22 (TX6 2).1 (TX6 2).2.1 (TX6 2).2.2.1 ∈ xsGt := xs_w (xsT1 _ (List.mem_of_getElem? (i := 121) rfl)) rfl
theorem w_226 : Cond.fieldLink RX10 90 (TX6 2).1 (TX6 2).2.1 (TX6 2).2.2.1 ∈ xsGt := xs_w (xsT1 _ (List.mem_of_getElem? (i := 122) rfl)) rfl
theorem w_227 : Cond.fieldLink RX6 26 (TX6 3).1 (TX6 3).2.1 (TX6 3).2.2.1 ∈ xsGt := xs_w (xsT1 _ (List.mem_of_getElem? (i := 123) rfl)) rfl
theorem w_228 : Cond.fieldLink RX10 65 (TX6 3).1 (TX6 3).2.1 (TX6 3).2.2.1 ∈ xsGt := xs_w (xsT1 _ (List.mem_of_getElem? (i := 124) rfl)) rfl
theorem w_229 : Cond.fieldLink RX6 30 (TX6 4).1 (TX6 4).2.1 (TX6 4).2.2.1 ∈ xsGt := xs_w (xsT1 _ (List.mem_of_getElem? (i := 125) rfl)) rfl
theorem w_230 : Cond.fieldLink RX10 77 (TX6 4).1 (TX6 4).2.1 (TX6 4).2.2.1 ∈ xsGt := xs_w (xsT1 _ (List.mem_of_getElem? (i := 126) rfl)) rfl
theorem w_231 : Cond.fieldLink RX6 33 (TX6 5).1 (TX6 5).2.1 (TX6 5).2.2.1 ∈ xsGt := xs_w (xsT1 _ (List.mem_of_getElem? (i := 127) rfl)) rfl
theorem w_232 : Cond.fieldLink RX6 36 (TX6 6).1 (TX6 6).2.1 (TX6 6).2.2.1 ∈ xsGt := xs_w (xsT1 _ (List.mem_of_getElem? (i := 128) rfl)) rfl
theorem w_251 : Cond.methodLink RX10 38 yX5_init ∈ xsGt := xs_w (xsT1 _ (List.mem_of_getElem? (i := 147) rfl)) rfl
theorem w_252 : Cond.instanceMethod yX5_init ∈ xsGt := xs_w (xsT1 _ (List.mem_of_getElem? (i := 148) rfl)) rfl
theorem w_253 : Cond.code yX5_init cX5_init 1 none ∈ xsGt := xs_w (xsT1 _ (List.mem_of_getElem? (i := 149) rfl)) rfl
theorem w_257 : Cond.methodLink RX5 11 yX0_init ∈ xsGt := xs_w (xsT1 _ (List.mem_of_getElem? (i := 153) rfl)) rfl
theorem w_258 : Cond.instanceMethod yX0_init ∈ xsGt := xs_w (xsT1 _ (List.mem_of_getElem? (i := 154) rfl)) rfl
theorem w_259 : Cond.code yX0_init cX0_init 1 none ∈ xsGt := xs_w (xsT1 _ (List.mem_of_getElem? (i := 155) rfl)) rfl
theorem w_261 : Cond.fieldLink RX0 9 (TX0 0).1 (TX0 0).2.1 (TX0 0).2.2.1 ∈ xsGt := xs_w (xsT1 _ (List.mem_of_getElem? (i := 157) rfl)) rfl
theorem w_262 : Cond.fieldLink RX5 75 (TX0 0).1 (TX0 0).2.1 (TX0 0).2.2.1 ∈ xsGt := xs_w (xsT1 _ (List.mem_of_getElem? (i := 158) rfl)) rfl
theorem w_263 : Cond.fieldLink RX10 213 (TX0 0).1 (TX0 0).2.1 (TX0 0).2.2.1 ∈ xsGt := xs_w (xsT1 _ (List.mem_of_getElem? (i := 159) rfl)) rfl
theorem w_264 : Cond.fieldLink RX5 82 (TX0 1).1 (TX0 1).2.1 (TX0 1).2.2.1 ∈ xsGt := xs_w (xsT1 _ (List.mem_of_getElem? (i := 160) rfl)) rfl
theorem w_265 : Cond.fieldLink RX0 37 (TX0 1).1 (TX0 1).2.1 (TX0 1).2.2.1 ∈ xsGt := xs_w (xsT1 _ (List.mem_of_getElem? (i := 161) rfl)) rfl
theorem w_266 : Cond.fieldLink RX10 226 (TX0 1).1 (TX0 1).2.1 (TX0 1).2.2.1 ∈ xsGt := xs_w (xsT1 _ (List.mem_of_getElem? (i := 162) rfl)) rfl
theorem w_267 : Cond.fieldLink RX5 86 (TX0 2).1 (TX0 2).2.1 (TX0 2).2.2.1 ∈ xsGt := xs_w (xsT1 _ (List.mem_of_getElem? (i := 163) rfl)) rfl
theorem w_268 : Cond.fieldLink RX0 40 (TX0 2).1 (TX0 2).2.1 (TX0 2).2.2.1 ∈ xsGt := xs_w (xsT1 _ (List.mem_of_getElem? (i := 164) rfl)) rfl
theorem w_269 : Cond.fieldLink RX10 230 (TX0 2).1 (TX0 2).2.1 (TX0 2).2.2.1 ∈ xsGt := xs_w (xsT1 _ (List.mem_of_getElem? (i := 165) rfl)) rfl
theorem w_270 : Cond.fieldLink RX0 13 (TX0 3).1 (TX0 3).2.1 (TX0 3).2.2.1 ∈ xsGt := xs_w (xsT1 _ (List.mem_of_getElem? (i := 166) rfl)) rfl
theorem w_271 : Cond.fieldLink RX5 89 (TX0 3).1 (TX0 3).2.1 (TX0 3).2.2.1 ∈ xsGt := xs_w (xsT1 _ (List.mem_of_getElem? (i := 167) rfl)) rfl
theorem w_272 : Cond.fieldLink RX10 233 (TX0 3).1 (TX0 3).2.1 (TX0 3).2.2.1 ∈ xsGt := xs_w (xsT1 _ (List.mem_of_getElem? (i := 168) rfl)) rfl
theorem w_273 : Cond.fieldLink RX0 43 (TX0 4).1 (TX0 4).2.1 (TX0 4).2.2.1 ∈ xsGt := xs_w (xsT1 _ (List.mem_of_getElem? (i := 169) rfl)) rfl
theorem w_274 : Cond.fieldLink RX10 242 (TX0 4).1 (TX0 4).2.1 (TX0 4).2.2.1 ∈ xsGt := xs_w (xsT1 _ (List.mem_of_getElem? (i := 170) rfl)) rfl
theorem w_275 : Cond.fieldLink RX0 46 (TX0 5).1 (TX0 5).2.1 (TX0 5).2.2.1 ∈ xsGt := xs_w (xsT1 _ (List.mem_of_getElem? (i := 171) rfl)) rfl
theorem w_276 : Cond.fieldLink RX10 245 (TX0 5).1 (TX0 5).2.1 (TX0 5).2.2.1 ∈ xsGt := xs_w (xsT1 _ (List.mem_of_getElem? (i := 172) rfl)) rfl
theorem w_277 : Cond.fieldLink RX0 55 (TX0 6).1 (TX0 6).2.1 (TX0 6).2.2.1 ∈ xsGt := xs_w (xsT1 _ (List.mem_of_getElem? (i := 173) rfl)) rfl
theorem w_278 : Cond.fieldLink RX10 248 (TX0 6).1 (TX0 6).2.1 (TX0 6).2.2.1 ∈ xsGt := xs_w (xsT1 _ (List.mem_of_getElem? (i := 174) rfl)) rfl
theorem w_279 : Cond.fieldLink RX0 58 (TX0 7).1 (TX0 7).2.1 (TX0 7).2.2.1 ∈ xsGt := xs_w (xsT1 _ (List.mem_of_getElem? (i := 175) rfl)) rfl
theorem w_280 : Cond.fieldLink RX10 251 (TX0 7).1 (TX0 7).2.1 (TX0 7).2.2.1 ∈ xsGt := xs_w (xsT1 _ (List.mem_of_getElem? (i := 176) rfl)) rfl
theorem w_300 : Cond.methodLink RX5 20 yX9_init ∈ xsGt := xs_w (xsT1 _ (List.mem_of_getElem? (i := 196) rfl)) rfl
theorem w_301 : Cond.instanceMethod yX9_init ∈ xsGt := xs_w (xsT1 _ (List.mem_of_getElem? (i := 197) rfl)) rfl
theorem w_302 : Cond.code yX9_init cX9_init 1 none ∈ xsGt := xs_w (xsT1 _ (List.mem_of_getElem? (i := 198) rfl)) rfl
theorem w_304 : Cond.fieldLink RX9 9 (TX9 0).1 (TX9 0).2.1 (TX9 0).2.2.1 ∈ xsGt := xs_w (xsT1 _ (List.mem_of_getElem? (i := 200) rfl)) rfl
theorem w_305 : Cond.fieldLink RX10 325 (TX9 0).1 (TX9 0).2.1 (TX9 0).2.2.1 ∈ xsGt := xs_w (xsT1 _ (List.mem_of_getElem? (i := 201) rfl)) rfl
theorem w_306 : Cond.fieldLink RX9 15 (TX9 1).1 (TX9 1).2.1 (TX9 1).2.2.1 ∈ xsGt := xs_w (xsT1 _ (List.mem_of_getElem? (i := 202) rfl)) rfl
theorem w_307 : Cond.fieldLink RX9 18 (TX9 2).1 (TX9 2).2.1 (TX9 2).2.2.1 ∈ xsGt := xs_w (xsT1 _ (List.mem_of_getElem? (i := 203) rfl)) rfl
theorem w_308 : Cond.fieldLink RX10 416 (TX9 2).1 (TX9 2).2.1 (TX9 2).2.2.1 ∈ xsGt := xs_w (xsT1 _ (List.mem_of_getElem? (i := 204) rfl)) rfl
theorem w_309 : Cond.fieldLink RX9 22 (TX9 3).1 (TX9 3).2.1 (TX9 3).2.2.1 ∈ xsGt := xs_w (xsT1 _ (List.mem_of_getElem? (i := 205) rfl)) rfl
theorem w_310 : Cond.fieldLink RX10 381 (TX9 3).1 (TX9 3).2.1 (TX9 3).2.2.1 ∈ xsGt := xs_w (xsT1 _ (List.mem_of_getElem? (i := 206) rfl)) rfl
theorem w_311 : Cond.fieldLink RX9 25 (TX9 4).1 (TX9 4).2.1 (TX9 4).2.2.1 ∈ xsGt := xs_w (xsT1 _ (List.mem_of_getElem? (i := 207) rfl)) rfl
theorem w_325 : Cond.methodLink RX5 27 yX1_init ∈ xsGt := xs_w (xsT1 _ (List.mem_of_getElem? (i := 221) rfl)) rfl
theorem w_326 : Cond.instanceMethod yX1_init ∈ xsGt := xs_w (xsT1 _ (List.mem_of_getElem? (i := 222) rfl)) rfl
theorem w_327 : Cond.code yX1_init cX1_init 1 none ∈ xsGt := xs_w (xsT1 _ (List.mem_of_getElem? (i := 223) rfl)) rfl
theorem w_329 : Cond.fieldLink RX1 9 (TX1 0).1 (TX1 0).2.1 (TX1 0).2.2.1 ∈ xsGt := xs_w (xsT1 _ (List.mem_of_getElem? (i := 225) rfl)) rfl
theorem w_330 : Cond.fieldLink RX8 64 (TX1 0).1 (TX1 0).2.1 (TX1 0).2.2.1 ∈ xsGt := xs_w (xsT1 _ (List.mem_of_getElem? (i := 226) rfl)) rfl
theorem w_331 : Cond.fieldLink RX10 271 (TX1 0).1 (TX1 0).2.1 (TX1 0).2.2.1 ∈ xsGt := xs_w (xsT1 _ (List.mem_of_getElem? (i := 227) rfl)) rfl
theorem w_332 : Cond.fieldLink RX1 15 (TX1 1).1 (TX1 1).2.1 (TX1 1).2.2.1 ∈ xsGt := xs_w (xsT1 _ (List.mem_of_getElem? (i := 228) rfl)) rfl
theorem w_333 : Cond.fieldLink RX10 274 (TX1 1).1 (TX1 1).2.1 (TX1 1).2.2.1 ∈ xsGt := xs_w (xsT1 _ (List.mem_of_getElem? (i := 229) rfl)) rfl
theorem w_334 : Cond.fieldLink RX1 18 (TX1 2).1 (TX1 2).2.1 (TX1 2).2.2.1 ∈ xsGt := xs_w (xsT1 _ (List.mem_of_getElem? (i := 230) rfl)) rfl
theorem w_335 : Cond.fieldLink RX8 60 (TX1 2).1 (TX1 2).2.1 (TX1 2).2.2.1 ∈ xsGt := xs_w (xsT1 _ (List.mem_of_getElem? (i := 231) rfl)) rfl
theorem w_336 : Cond.fieldLink RX10 276 (TX1 2).1 (TX1 2).2.1 (TX1 2).2.2.1 ∈ xsGt := xs_w (xsT1 _ (List.mem_of_getElem? (i := 232) rfl)) rfl
theorem w_337 : Cond.fieldLink RX1 21 (TX1 3).1 (TX1 3).2.1 (TX1 3).2.2.1 ∈ xsGt := xs_w (xsT1 _ (List.mem_of_getElem? (i := 233) rfl)) rfl
theorem w_338 : Cond.fieldLink RX2 43 (TX1 3).1 (TX1 3).2.1 (TX1 3).2.2.1 ∈ xsGt := xs_w (xsT1 _ (List.mem_of_getElem? (i := 234) rfl)) rfl
theorem w_339 : Cond.fieldLink RX5 127 (TX1 3).1 (TX1 3).2.1 (TX1 3).2.2.1 ∈ xsGt := xs_w (xsT1 _ (List.mem_of_getElem? (i := 235) rfl)) rfl
theorem w_340 : Cond.fieldLink RX10 260 (TX1 3).1 (TX1 3).2.1 (TX1 3).2.2.1 ∈ xsGt := xs_w (xsT1 _ (List.mem_of_getElem? (i := 236) rfl)) rfl
theorem w_341 : Cond.fieldLink RX1 25 (TX1 4).1 (TX1 4).2.1 (TX1 4).2.2.1 ∈ xsGt := xs_w (xsT1 _ (List.mem_of_getElem? (i := 237) rfl)) rfl
theorem w_342 : Cond.fieldLink RX10 287 (TX1 4).1 (TX1 4).2.1 (TX1 4).2.2.1 ∈ xsGt := xs_w (xsT1 _ (List.mem_of_getElem? (i := 238) rfl)) rfl
theorem w_343 : Cond.fieldLink RX1 28 (TX1 5).1 (TX1 5).2.1 (TX1 5).2.2.1 ∈ xsGt := xs_w (xsT1 _ (List.mem_of_getElem? (i := 239) rfl)) rfl
theorem w_344 : Cond.fieldLink RX5 118 (TX1 5).1 (TX1 5).2.1 (TX1 5).2.2.1 ∈ xsGt := xs_w (xsT2 _ (List.mem_of_getElem? (i := 0) rfl)) rfl
theorem w_345 : Cond.fieldLink RX10 257 (TX1 5).1 (TX1 5).2.1 (TX1 5).2.2.1 ∈ xsGt := xs_w (xsT2 _ (List.mem_of_getElem? (i := 1) rfl)) rfl
theorem w_346 : Cond.fieldLink RX1 31 (TX1 6).1 (TX1 6).2.1 (TX1 6).2.2.1 ∈ xsGt := xs_w (xsT2 _ (List.mem_of_getElem? (i := 2) rfl)) rfl
theorem w_347 : Cond.fieldLink RX2 37 (TX1 6).1 (TX1 6).2.1 (TX1 6).2.2.1 ∈ xsGt := xs_w (xsT2 _ (List.mem_of_getElem? (i := 3) rfl)) rfl
theorem w_348 : Cond.fieldLink RX1 34 (TX1 7).1 (TX1 7).2.1 (TX1 7).2.2.1 ∈ xsGt := xs_w (xsT2 _ (List.mem_of_getElem? (i := 4) rfl)) rfl
theorem w_349 : Cond.fieldLink RX2 40 (TX1 7).1 (TX1 7).2.1 (TX1 7).2.2.1 ∈ xsGt := xs_w (xsT2 _ (List.mem_of_getElem? (i := 5) rfl)) rfl
theorem w_350 : Cond.fieldLink RX1 37 (TX1 8).1 (TX1 8).2.1 (TX1 8).2.2.1 ∈ xsGt := xs_w (xsT2 _ (List.mem_of_getElem? (i := 6) rfl)) rfl
theorem w_351 : Cond.fieldLink RX2 28 (TX1 8).1 (TX1 8).2.1 (TX1 8).2.2.1 ∈ xsGt := xs_w (xsT2 _ (List.mem_of_getElem? (i := 7) rfl)) rfl
theorem w_352 : Cond.fieldLink RX5 107 (TX1 8).1 (TX1 8).2.1 (TX1 8).2.2.1 ∈ xsGt := xs_w (xsT2 _ (List.mem_of_getElem? (i := 8) rfl)) rfl
theorem w_353 : Cond.fieldLink RX10 158 (TX1 8).1 (TX1 8).2.1 (TX1 8).2.2.1 ∈ xsGt := xs_w (xsT2 _ (List.mem_of_getElem? (i := 9) rfl)) rfl
theorem w_354 : Cond.fieldLink RX1 41 (TX1 9).1 (TX1 9).2.1 (TX1 9).2.2.1 ∈ xsGt := xs_w (xsT2 _ (List.mem_of_getElem? (i := 10) rfl)) rfl
theorem w_355 : Cond.fieldLink RX5 115 (TX1 9).1 (TX1 9).2.1 (TX1 9).2.2.1 ∈ xsGt := xs_w (xsT2 _ (List.mem_of_getElem? (i := 11) rfl)) rfl
theorem w_356 : Cond.fieldLink RX10 133 (TX1 9).1 (TX1 9).2.1 (TX1 9).2.2.1 ∈ xsGt := xs_w (xsT2 _ (List.mem_of_getElem? (i := 12) rfl)) rfl
theorem w_357 : Cond.fieldLink RX1 44 (TX1 10).1 (TX1 10).2.1 (TX1 10).2.2.1 ∈ xsGt := xs_w (xsT2 _ (List.mem_of_getElem? (i := 13) rfl)) rfl
theorem w_384 : Cond.methodLink RX5 34 yX2_init ∈ xsGt := xs_w (xsT2 _ (List.mem_of_getElem? (i := 40) rfl)) rfl
theorem w_385 : Cond.instanceMethod yX2_init ∈ xsGt := xs_w (xsT2 _ (List.mem_of_getElem? (i := 41) rfl)) rfl
theorem w_386 : Cond.code yX2_init cX2_init 1 none ∈ xsGt := xs_w (xsT2 _ (List.mem_of_getElem? (i := 42) rfl)) rfl
theorem w_388 : Cond.fieldLink RX2 9 (TX2 0).1 (TX2 0).2.1 (TX2 0).2.2.1 ∈ xsGt := xs_w (xsT2 _ (List.mem_of_getElem? (i := 44) rfl)) rfl
theorem w_389 : Cond.fieldLink RX10 297 (TX2 0).1 (TX2 0).2.1 (TX2 0).2.2.1 ∈ xsGt := xs_w (xsT2 _ (List.mem_of_getElem? (i := 45) rfl)) rfl
theorem w_390 : Cond.fieldLink RX2 21 (TX2 1).1 (TX2 1).2.1 (TX2 1).2.2.1 ∈ xsGt := xs_w (xsT2 _ (List.mem_of_getElem? (i := 46) rfl)) rfl
theorem w_391 : Cond.fieldLink RX5 100 (TX2 1).1 (TX2 1).2.1 (TX2 1).2.2.1 ∈ xsGt := xs_w (xsT2 _ (List.mem_of_getElem? (i := 47) rfl)) rfl
theorem w_392 : Cond.fieldLink RX10 384 (TX2 1).1 (TX2 1).2.1 (TX2 1).2.2.1 ∈ xsGt := xs_w (xsT2 _ (List.mem_of_getElem? (i := 48) rfl)) rfl
theorem w_393 : Cond.fieldLink RX2 15 (TX2 2).1 (TX2 2).2.1 (TX2 2).2.2.1 ∈ xsGt := xs_w (xsT2 _ (List.mem_of_getElem? (i := 49) rfl)) rfl
theorem w_394 : Cond.fieldLink RX2 18 (TX2 3).1 (TX2 3).2.1 (TX2 3).2.2.1 ∈ xsGt := xs_w (xsT2 _ (List.mem_of_getElem? (i := 50) rfl)) rfl
theorem w_395 : Cond.fieldLink RX2 25 (TX2 4).1 (TX2 4).2.1 (TX2 4).2.2.1 ∈ xsGt := xs_w (xsT2 _ (List.mem_of_getElem? (i := 51) rfl)) rfl
theorem w_407 : Cond.fieldLink RX5 12 (TX5 0).1 (TX5 0).2.1 (TX5 0).2.2.1 ∈ xsGt := xs_w (xsT2 _ (List.mem_of_getElem? (i := 63) rfl)) rfl
theorem w_408 : Cond.fieldLink RX10 357 (TX5 0).1 (TX5 0).2.1 (TX5 0).2.2.1 ∈ xsGt := xs_w (xsT2 _ (List.mem_of_getElem? (i := 64) rfl)) rfl
theorem w_409 : Cond.fieldLink RX5 21 (TX5 1).1 (TX5 1).2.1 (TX5 1).2.2.1 ∈ xsGt := xs_w (xsT2 _ (List.mem_of_getElem? (i := 65) rfl)) rfl
theorem w_410 : Cond.fieldLink RX10 188 (TX5 1).1 (TX5 1).2.1 (TX5 1).2.2.1 ∈ xsGt := xs_w (xsT2 _ (List.mem_of_getElem? (i := 66) rfl)) rfl
theorem w_411 : Cond.fieldLink RX5 28 (TX5 2).1 (TX5 2).2.1 (TX5 2).2.2.1 ∈ xsGt := xs_w (xsT2 _ (List.mem_of_getElem? (i := 67) rfl)) rfl
theorem w_412 : Cond.fieldLink RX10 129 (TX5 2).1 (TX5 2).2.1 (TX5 2).2.2.1 ∈ xsGt := xs_w (xsT2 _ (List.mem_of_getElem? (i := 68) rfl)) rfl
theorem w_413 : Cond.fieldLink RX5 35 (TX5 3).1 (TX5 3).2.1 (TX5 3).2.2.1 ∈ xsGt := xs_w (xsT2 _ (List.mem_of_getElem? (i := 69) rfl)) rfl
theorem w_414 : Cond.fieldLink RX10 293 (TX5 3).1 (TX5 3).2.1 (TX5 3).2.2.1 ∈ xsGt := xs_w (xsT2 _ (List.mem_of_getElem? (i := 70) rfl)) rfl
theorem w_415 : Cond.fieldLink RX5 39 (TX5 4).1 (TX5 4).2.1 (TX5 4).2.2.1 ∈ xsGt := xs_w (xsT2 _ (List.mem_of_getElem? (i := 71) rfl)) rfl
theorem w_429 : Cond.methodLink RX10 45 yX4_init ∈ xsGt := xs_w (xsT2 _ (List.mem_of_getElem? (i := 85) rfl)) rfl
theorem w_430 : Cond.instanceMethod yX4_init ∈ xsGt := xs_w (xsT2 _ (List.mem_of_getElem? (i := 86) rfl)) rfl
theorem w_431 : Cond.code yX4_init cX4_init 1 none ∈ xsGt := xs_w (xsT2 _ (List.mem_of_getElem? (i := 87) rfl)) rfl
theorem w_433 : Cond.fieldLink RX4 11 (TX4 0).1 (TX4 0).2.1 (TX4 0).2.2.1 ∈ xsGt := xs_w (xsT2 _ (List.mem_of_getElem? (i := 89) rfl)) rfl
theorem w_434 : Cond.fieldLink RX10 337 (TX4 0).1 (TX4 0).2.1 (TX4 0).2.2.1 ∈ xsGt := xs_w (xsT2 _ (List.mem_of_getElem? (i := 90) rfl)) rfl
theorem w_435 : Cond.fieldLink RX4 15 (TX4 1).1 (TX4 1).2.1 (TX4 1).2.2.1 ∈ xsGt := xs_w (xsT2 _ (List.mem_of_getElem? (i := 91) rfl)) rfl
theorem w_436 : Cond.fieldLink RX10 335 (TX4 1).1 (TX4 1).2.1 (TX4 1).2.2.1 ∈ xsGt := xs_w (xsT2 _ (List.mem_of_getElem? (i := 92) rfl)) rfl
theorem w_437 : Cond.fieldLink RX4 18 (TX4 2).1 (TX4 2).2.1 (TX4 2).2.2.1 ∈ xsGt := xs_w (xsT2 _ (List.mem_of_getElem? (i := 93) rfl)) rfl
theorem w_438 : Cond.fieldLink RX10 334 (TX4 2).1 (TX4 2).2.1 (TX4 2).2.2.1 ∈ xsGt := xs_w (xsT2 _ (List.mem_of_getElem? (i := 94) rfl)) rfl
theorem w_439 : Cond.fieldLink RX4 22 (TX4 3).1 (TX4 3).2.1 (TX4 3).2.2.1 ∈ xsGt := xs_w (xsT2 _ (List.mem_of_getElem? (i := 95) rfl)) rfl
theorem w_440 : Cond.fieldLink RX4 25 (TX4 4).1 (TX4 4).2.1 (TX4 4).2.2.1 ∈ xsGt := xs_w (xsT2 _ (List.mem_of_getElem? (i := 96) rfl)) rfl
theorem w_452 : Cond.fieldLink RX10 10 (TX10 0).1 (TX10 0).2.1 (TX10 0).2.2.1 ∈ xsGt := xs_w (xsT2 _ (List.mem_of_getElem? (i := 108) rfl)) rfl
theorem w_453 : Cond.fieldLink RX10 16 (TX10 1).1 (TX10 1).2.1 (TX10 1).2.2.1 ∈ xsGt := xs_w (xsT2 _ (List.mem_of_getElem? (i := 109) rfl)) rfl
theorem w_454 : Cond.fieldLink RX10 19 (TX10 2).1 (TX10 2).2.1 (TX10 2).2.2.1 ∈ xsGt := xs_w (xsT2 _ (List.mem_of_getElem? (i := 110) rfl)) rfl
theorem w_455 : Cond.fieldLink RX10 25 (TX10 3).1 (TX10 3).2.1 (TX10 3).2.2.1 ∈ xsGt := xs_w (xsT2 _ (List.mem_of_getElem? (i := 111) rfl)) rfl
theorem w_456 : Cond.fieldLink RX10 32 (TX10 4).1 (TX10 4).2.1 (TX10 4).2.2.1 ∈ xsGt := xs_w (xsT2 _ (List.mem_of_getElem? (i := 112) rfl)) rfl
theorem w_457 : Cond.fieldLink RX10 39 (TX10 5).1 (TX10 5).2.1 (TX10 5).2.2.1 ∈ xsGt := xs_w (xsT2 _ (List.mem_of_getElem? (i := 113) rfl)) rfl
theorem w_458 : Cond.fieldLink RX10 46 (TX10 6).1 (TX10 6).2.1 (TX10 6).2.2.1 ∈ xsGt := xs_w (xsT2 _ (List.mem_of_getElem? (i := 114) rfl)) rfl
theorem w_459 : Cond.fieldLink RX10 50 (TX10 7).1 (TX10 7).2.1 (TX10 7).2.2.1 ∈ xsGt := xs_w (xsT2 _ (List.mem_of_getElem? (i := 115) rfl)) rfl
theorem w_460 : Cond.fieldLink RX10 54 (TX10 8).1 (TX10 8).2.1 (TX10 8).2.2.1 ∈ xsGt := xs_w (xsT2 _ (List.mem_of_getElem? (i := 116) rfl)) rfl
theorem w_480 : Cond.methodLink RL 106 yX10_feed ∈ xsGt := xs_w (xsT2 _ (List.mem_of_getElem? (i := 136) rfl)) rfl
theorem w_481 : Cond.instanceMethod yX10_feed ∈ xsGt := xs_w (xsT2 _ (List.mem_of_getElem? (i := 137) rfl)) rfl
theorem w_482 : Cond.selects yX10_feed.cls yX10_feed yX10_feed ∈ xsGt := xs_w (xsT2 _ (List.mem_of_getElem? (i := 138) rfl)) rfl
theorem w_483 : Cond.code yX10_feed cX10_feed 6 (some .int) ∈ xsGt := xs_w (xsT2 _ (List.mem_of_getElem? (i := 139) rfl)) rfl
theorem w_484 : Cond.methodLink RX10 57 yX6_hasRoom ∈ xsGt := xs_w (xsT2 _ (List.mem_of_getElem? (i := 140) rfl)) rfl
theorem w_485 : Cond.instanceMethod yX6_hasRoom ∈ xsGt := xs_w (xsT2 _ (List.mem_of_getElem? (i := 141) rfl)) rfl
theorem w_486 : Cond.selects yX6_hasRoom.cls yX6_hasRoom yX6_hasRoom ∈ xsGt := xs_w (xsT2 _ (List.mem_of_getElem? (i := 142) rfl)) rfl
theorem w_487 : Cond.code yX6_hasRoom cX6_hasRoom 1 (some .boolean) ∈ xsGt := xs_w (xsT2 _ (List.mem_of_getElem? (i := 143) rfl)) rfl
theorem w_488 : Cond.methodLink RX10 61 yX6_push ∈ xsGt := xs_w (xsT2 _ (List.mem_of_getElem? (i := 144) rfl)) rfl
theorem w_489 : Cond.instanceMethod yX6_push ∈ xsGt := xs_w (xsT2 _ (List.mem_of_getElem? (i := 145) rfl)) rfl
theorem w_490 : Cond.selects yX6_push.cls yX6_push yX6_push ∈ xsGt := xs_w (xsT2 _ (List.mem_of_getElem? (i := 146) rfl)) rfl
theorem w_491 : Cond.code yX6_push cX6_push 3 none ∈ xsGt := xs_w (xsT2 _ (List.mem_of_getElem? (i := 147) rfl)) rfl
theorem w_492 : Cond.methodLink RL 110 yX10_end ∈ xsGt := xs_w (xsT2 _ (List.mem_of_getElem? (i := 148) rfl)) rfl
theorem w_493 : Cond.instanceMethod yX10_end ∈ xsGt := xs_w (xsT2 _ (List.mem_of_getElem? (i := 149) rfl)) rfl
theorem w_494 : Cond.selects yX10_end.cls yX10_end yX10_end ∈ xsGt := xs_w (xsT2 _ (List.mem_of_getElem? (i := 150) rfl)) rfl
theorem w_495 : Cond.code yX10_end cX10_end 2 (some .boolean) ∈ xsGt := xs_w (xsT2 _ (List.mem_of_getElem? (i := 151) rfl)) rfl
theorem w_496 : Cond.methodLink RX10 69 yX6_shorten ∈ xsGt := xs_w (xsT2 _ (List.mem_of_getElem? (i := 152) rfl)) rfl
theorem w_497 : Cond.instanceMethod yX6_shorten ∈ xsGt := xs_w (xsT2 _ (List.mem_of_getElem? (i := 153) rfl)) rfl
theorem w_498 : Cond.selects yX6_shorten.cls yX6_shorten yX6_shorten ∈ xsGt := xs_w (xsT2 _ (List.mem_of_getElem? (i := 154) rfl)) rfl
theorem w_499 : Cond.code yX6_shorten cX6_shorten 2 (some .boolean) ∈ xsGt := xs_w (xsT2 _ (List.mem_of_getElem? (i := 155) rfl)) rfl
theorem w_500 : Cond.methodLink RL 124 yX10_fault ∈ xsGt := xs_w (xsT2 _ (List.mem_of_getElem? (i := 156) rfl)) rfl
theorem w_501 : Cond.instanceMethod yX10_fault ∈ xsGt := xs_w (xsT2 _ (List.mem_of_getElem? (i := 157) rfl)) rfl
theorem w_502 : Cond.selects yX10_fault.cls yX10_fault yX10_fault ∈ xsGt := xs_w (xsT2 _ (List.mem_of_getElem? (i := 158) rfl)) rfl
theorem w_503 : Cond.code yX10_fault cX10_fault 1 (some .int) ∈ xsGt := xs_w (xsT2 _ (List.mem_of_getElem? (i := 159) rfl)) rfl
theorem w_504 : Cond.methodLink RL 144 yX10_turn ∈ xsGt := xs_w (xsT2 _ (List.mem_of_getElem? (i := 160) rfl)) rfl
theorem w_505 : Cond.instanceMethod yX10_turn ∈ xsGt := xs_w (xsT2 _ (List.mem_of_getElem? (i := 161) rfl)) rfl
theorem w_506 : Cond.selects yX10_turn.cls yX10_turn yX10_turn ∈ xsGt := xs_w (xsT2 _ (List.mem_of_getElem? (i := 162) rfl)) rfl
theorem w_507 : Cond.code yX10_turn cX10_turn 1 (some .int) ∈ xsGt := xs_w (xsT2 _ (List.mem_of_getElem? (i := 163) rfl)) rfl
theorem w_508 : Cond.methodLink RX10 112 yX10_remember ∈ xsGt := xs_w (xsT2 _ (List.mem_of_getElem? (i := 164) rfl)) rfl
theorem w_510 : Cond.instanceMethod yX10_remember ∈ xsGt := xs_w (xsT2 _ (List.mem_of_getElem? (i := 166) rfl)) rfl
theorem w_511 : Cond.code yX10_remember cX10_remember 1 none ∈ xsGt := xs_w (xsT2 _ (List.mem_of_getElem? (i := 167) rfl)) rfl
theorem w_512 : Cond.methodLink RX10 440 yX3_push ∈ xsGt := xs_w (xsT2 _ (List.mem_of_getElem? (i := 168) rfl)) rfl
theorem w_513 : Cond.instanceMethod yX3_push ∈ xsGt := xs_w (xsT2 _ (List.mem_of_getElem? (i := 169) rfl)) rfl
theorem w_514 : Cond.selects yX3_push.cls yX3_push yX3_push ∈ xsGt := xs_w (xsT2 _ (List.mem_of_getElem? (i := 170) rfl)) rfl
theorem w_515 : Cond.code yX3_push cX3_push 2 none ∈ xsGt := xs_w (xsT2 _ (List.mem_of_getElem? (i := 171) rfl)) rfl
theorem w_516 : Cond.methodLink RX3 25 yX7_copyFrom ∈ xsGt := xs_w (xsT2 _ (List.mem_of_getElem? (i := 172) rfl)) rfl
theorem w_517 : Cond.instanceMethod yX7_copyFrom ∈ xsGt := xs_w (xsT2 _ (List.mem_of_getElem? (i := 173) rfl)) rfl
theorem w_518 : Cond.selects yX7_copyFrom.cls yX7_copyFrom yX7_copyFrom ∈ xsGt := xs_w (xsT2 _ (List.mem_of_getElem? (i := 174) rfl)) rfl
theorem w_519 : Cond.code yX7_copyFrom cX7_copyFrom 3 none ∈ xsGt := xs_w (xsT2 _ (List.mem_of_getElem? (i := 175) rfl)) rfl
theorem w_520 : Cond.methodLink RX7 39 yX7_copyOne ∈ xsGt := xs_w (xsT2 _ (List.mem_of_getElem? (i := 176) rfl)) rfl
theorem w_522 : Cond.instanceMethod yX7_copyOne ∈ xsGt := xs_w (xsT2 _ (List.mem_of_getElem? (i := 178) rfl)) rfl
theorem w_523 : Cond.code yX7_copyOne cX7_copyOne 4 none ∈ xsGt := xs_w (xsT2 _ (List.mem_of_getElem? (i := 179) rfl)) rfl
theorem w_524 : Cond.methodLink RX3 29 yJ9_min_7cf53 ∈ xsGt := xs_w (xsT2 _ (List.mem_of_getElem? (i := 180) rfl)) rfl
theorem w_525 : Cond.static yJ9_min_7cf53 ∈ xsGt := xs_w (xsT2 _ (List.mem_of_getElem? (i := 181) rfl)) rfl
theorem w_526 : Cond.code yJ9_min_7cf53 cJ9_min_7cf53 2 (some .int) ∈ xsGt := xs_w (xsT2 _ (List.mem_of_getElem? (i := 182) rfl)) rfl
theorem w_527 : Cond.methodLink RX10 155 yX7_rotate ∈ xsGt := xs_w (xsT2 _ (List.mem_of_getElem? (i := 183) rfl)) rfl
theorem w_528 : Cond.instanceMethod yX7_rotate ∈ xsGt := xs_w (xsT2 _ (List.mem_of_getElem? (i := 184) rfl)) rfl
theorem w_529 : Cond.selects yX7_rotate.cls yX7_rotate yX7_rotate ∈ xsGt := xs_w (xsT2 _ (List.mem_of_getElem? (i := 185) rfl)) rfl
theorem w_530 : Cond.code yX7_rotate cX7_rotate 2 none ∈ xsGt := xs_w (xsT2 _ (List.mem_of_getElem? (i := 186) rfl)) rfl
theorem w_531 : Cond.methodLink RX7 35 yX7_put ∈ xsGt := xs_w (xsT2 _ (List.mem_of_getElem? (i := 187) rfl)) rfl
theorem w_532 : Cond.instanceMethod yX7_put ∈ xsGt := xs_w (xsT2 _ (List.mem_of_getElem? (i := 188) rfl)) rfl
theorem w_533 : Cond.selects yX7_put.cls yX7_put yX7_put ∈ xsGt := xs_w (xsT2 _ (List.mem_of_getElem? (i := 189) rfl)) rfl
theorem w_534 : Cond.code yX7_put cX7_put 7 none ∈ xsGt := xs_w (xsT2 _ (List.mem_of_getElem? (i := 190) rfl)) rfl
theorem w_535 : Cond.methodLink RX10 125 yX10_drawn ∈ xsGt := xs_w (xsT2 _ (List.mem_of_getElem? (i := 191) rfl)) rfl
theorem w_537 : Cond.instanceMethod yX10_drawn ∈ xsGt := xs_w (xsT2 _ (List.mem_of_getElem? (i := 193) rfl)) rfl
theorem w_538 : Cond.code yX10_drawn cX10_drawn 1 (some (.object "CrossingSweep$Picture")) ∈ xsGt := xs_w (xsT2 _ (List.mem_of_getElem? (i := 194) rfl)) rfl
theorem w_539 : Cond.methodLink RX10 442 yX5_draw ∈ xsGt := xs_w (xsT2 _ (List.mem_of_getElem? (i := 195) rfl)) rfl
theorem w_540 : Cond.instanceMethod yX5_draw ∈ xsGt := xs_w (xsT2 _ (List.mem_of_getElem? (i := 196) rfl)) rfl
theorem w_541 : Cond.selects yX5_draw.cls yX5_draw yX5_draw ∈ xsGt := xs_w (xsT2 _ (List.mem_of_getElem? (i := 197) rfl)) rfl
theorem w_542 : Cond.code yX5_draw cX5_draw 4 none ∈ xsGt := xs_w (xsT2 _ (List.mem_of_getElem? (i := 198) rfl)) rfl
theorem w_543 : Cond.methodLink RX5 48 yX9_clear ∈ xsGt := xs_w (xsT2 _ (List.mem_of_getElem? (i := 199) rfl)) rfl
theorem w_544 : Cond.instanceMethod yX9_clear ∈ xsGt := xs_w (xsT2 _ (List.mem_of_getElem? (i := 200) rfl)) rfl
theorem w_545 : Cond.selects yX9_clear.cls yX9_clear yX9_clear ∈ xsGt := xs_w (xsT2 _ (List.mem_of_getElem? (i := 201) rfl)) rfl
theorem w_546 : Cond.code yX9_clear cX9_clear 3 none ∈ xsGt := xs_w (xsT2 _ (List.mem_of_getElem? (i := 202) rfl)) rfl
theorem w_547 : Cond.methodLink RX5 52 yX1_clear ∈ xsGt := xs_w (xsT2 _ (List.mem_of_getElem? (i := 203) rfl)) rfl
theorem w_548 : Cond.instanceMethod yX1_clear ∈ xsGt := xs_w (xsT2 _ (List.mem_of_getElem? (i := 204) rfl)) rfl
theorem w_549 : Cond.selects yX1_clear.cls yX1_clear yX1_clear ∈ xsGt := xs_w (xsT2 _ (List.mem_of_getElem? (i := 205) rfl)) rfl
theorem w_550 : Cond.code yX1_clear cX1_clear 1 none ∈ xsGt := xs_w (xsT2 _ (List.mem_of_getElem? (i := 206) rfl)) rfl
theorem w_551 : Cond.methodLink RX5 61 yX1_insert ∈ xsGt := xs_w (xsT2 _ (List.mem_of_getElem? (i := 207) rfl)) rfl
theorem w_552 : Cond.instanceMethod yX1_insert ∈ xsGt := xs_w (xsT2 _ (List.mem_of_getElem? (i := 208) rfl)) rfl
theorem w_553 : Cond.selects yX1_insert.cls yX1_insert yX1_insert ∈ xsGt := xs_w (xsT2 _ (List.mem_of_getElem? (i := 209) rfl)) rfl
theorem w_554 : Cond.code yX1_insert cX1_insert 10 none ∈ xsGt := xs_w (xsT2 _ (List.mem_of_getElem? (i := 210) rfl)) rfl
theorem w_555 : Cond.methodLink RX1 47 yX1_placeOf ∈ xsGt := xs_w (xsT2 _ (List.mem_of_getElem? (i := 211) rfl)) rfl
theorem w_557 : Cond.instanceMethod yX1_placeOf ∈ xsGt := xs_w (xsT2 _ (List.mem_of_getElem? (i := 213) rfl)) rfl
theorem w_558 : Cond.code yX1_placeOf cX1_placeOf 11 (some .int) ∈ xsGt := xs_w (xsT2 _ (List.mem_of_getElem? (i := 214) rfl)) rfl
theorem w_559 : Cond.methodLink RX1 51 yX1_compare ∈ xsGt := xs_w (xsT2 _ (List.mem_of_getElem? (i := 215) rfl)) rfl
theorem w_561 : Cond.instanceMethod yX1_compare ∈ xsGt := xs_w (xsT2 _ (List.mem_of_getElem? (i := 217) rfl)) rfl
theorem w_562 : Cond.code yX1_compare cX1_compare 9 (some .int) ∈ xsGt := xs_w (xsT2 _ (List.mem_of_getElem? (i := 218) rfl)) rfl
theorem w_563 : Cond.methodLink RX1 55 yJ13_compare_74951 ∈ xsGt := xs_w (xsT2 _ (List.mem_of_getElem? (i := 219) rfl)) rfl
theorem w_564 : Cond.static yJ13_compare_74951 ∈ xsGt := xs_w (xsT2 _ (List.mem_of_getElem? (i := 220) rfl)) rfl
theorem w_565 : Cond.code yJ13_compare_74951 cJ13_compare_74951 4 (some .int) ∈ xsGt := xs_w (xsT2 _ (List.mem_of_getElem? (i := 221) rfl)) rfl
theorem w_566 : Cond.methodLink RX5 71 yX0_study ∈ xsGt := xs_w (xsT2 _ (List.mem_of_getElem? (i := 222) rfl)) rfl
theorem w_567 : Cond.instanceMethod yX0_study ∈ xsGt := xs_w (xsT2 _ (List.mem_of_getElem? (i := 223) rfl)) rfl
theorem w_568 : Cond.selects yX0_study.cls yX0_study yX0_study ∈ xsGt := xs_w (xsT2 _ (List.mem_of_getElem? (i := 224) rfl)) rfl
theorem w_569 : Cond.code yX0_study cX0_study 16 none ∈ xsGt := xs_w (xsT2 _ (List.mem_of_getElem? (i := 225) rfl)) rfl
theorem w_570 : Cond.methodLink RX0 17 yX7_width ∈ xsGt := xs_w (xsT2 _ (List.mem_of_getElem? (i := 226) rfl)) rfl
theorem w_571 : Cond.instanceMethod yX7_width ∈ xsGt := xs_w (xsT2 _ (List.mem_of_getElem? (i := 227) rfl)) rfl
theorem w_572 : Cond.selects yX7_width.cls yX7_width yX7_width ∈ xsGt := xs_w (xsT2 _ (List.mem_of_getElem? (i := 228) rfl)) rfl
theorem w_573 : Cond.code yX7_width cX7_width 2 (some .long) ∈ xsGt := xs_w (xsT2 _ (List.mem_of_getElem? (i := 229) rfl)) rfl
theorem w_574 : Cond.methodLink RX0 23 yX7_rise ∈ xsGt := xs_w (xsT2 _ (List.mem_of_getElem? (i := 230) rfl)) rfl
theorem w_575 : Cond.instanceMethod yX7_rise ∈ xsGt := xs_w (xsT2 _ (List.mem_of_getElem? (i := 231) rfl)) rfl
theorem w_576 : Cond.selects yX7_rise.cls yX7_rise yX7_rise ∈ xsGt := xs_w (xsT2 _ (List.mem_of_getElem? (i := 232) rfl)) rfl
theorem w_577 : Cond.code yX7_rise cX7_rise 2 (some .long) ∈ xsGt := xs_w (xsT2 _ (List.mem_of_getElem? (i := 233) rfl)) rfl
theorem w_578 : Cond.methodLink RX0 26 yX0_studyAlike ∈ xsGt := xs_w (xsT2 _ (List.mem_of_getElem? (i := 234) rfl)) rfl
theorem w_580 : Cond.instanceMethod yX0_studyAlike ∈ xsGt := xs_w (xsT2 _ (List.mem_of_getElem? (i := 236) rfl)) rfl
theorem w_581 : Cond.code yX0_studyAlike cX0_studyAlike 14 none ∈ xsGt := xs_w (xsT2 _ (List.mem_of_getElem? (i := 237) rfl)) rfl
theorem w_582 : Cond.methodLink RX5 78 yX9_note ∈ xsGt := xs_w (xsT2 _ (List.mem_of_getElem? (i := 238) rfl)) rfl
theorem w_583 : Cond.instanceMethod yX9_note ∈ xsGt := xs_w (xsT2 _ (List.mem_of_getElem? (i := 239) rfl)) rfl
theorem w_584 : Cond.selects yX9_note.cls yX9_note yX9_note ∈ xsGt := xs_w (xsT3 _ (List.mem_of_getElem? (i := 0) rfl)) rfl
theorem w_585 : Cond.code yX9_note cX9_note 4 none ∈ xsGt := xs_w (xsT3 _ (List.mem_of_getElem? (i := 1) rfl)) rfl
theorem w_586 : Cond.methodLink RX5 92 yX1_gather ∈ xsGt := xs_w (xsT3 _ (List.mem_of_getElem? (i := 2) rfl)) rfl
theorem w_587 : Cond.instanceMethod yX1_gather ∈ xsGt := xs_w (xsT3 _ (List.mem_of_getElem? (i := 3) rfl)) rfl
theorem w_588 : Cond.selects yX1_gather.cls yX1_gather yX1_gather ∈ xsGt := xs_w (xsT3 _ (List.mem_of_getElem? (i := 4) rfl)) rfl
theorem w_589 : Cond.code yX1_gather cX1_gather 4 none ∈ xsGt := xs_w (xsT3 _ (List.mem_of_getElem? (i := 5) rfl)) rfl
theorem w_590 : Cond.methodLink RX1 75 yX1_bundleOf ∈ xsGt := xs_w (xsT3 _ (List.mem_of_getElem? (i := 6) rfl)) rfl
theorem w_592 : Cond.instanceMethod yX1_bundleOf ∈ xsGt := xs_w (xsT3 _ (List.mem_of_getElem? (i := 8) rfl)) rfl
theorem w_593 : Cond.code yX1_bundleOf cX1_bundleOf 5 (some .int) ∈ xsGt := xs_w (xsT3 _ (List.mem_of_getElem? (i := 9) rfl)) rfl
theorem w_594 : Cond.methodLink RX1 85 yX1_heightOf ∈ xsGt := xs_w (xsT3 _ (List.mem_of_getElem? (i := 10) rfl)) rfl
theorem w_595 : Cond.instanceMethod yX1_heightOf ∈ xsGt := xs_w (xsT3 _ (List.mem_of_getElem? (i := 11) rfl)) rfl
theorem w_596 : Cond.selects yX1_heightOf.cls yX1_heightOf yX1_heightOf ∈ xsGt := xs_w (xsT3 _ (List.mem_of_getElem? (i := 12) rfl)) rfl
theorem w_597 : Cond.code yX1_heightOf cX1_heightOf 4 (some .long) ∈ xsGt := xs_w (xsT3 _ (List.mem_of_getElem? (i := 13) rfl)) rfl
theorem w_598 : Cond.methodLink RX1 89 yX7_rise ∈ xsGt := xs_w (xsT3 _ (List.mem_of_getElem? (i := 14) rfl)) rfl
theorem w_599 : Cond.methodLink RX1 93 yX7_width ∈ xsGt := xs_w (xsT3 _ (List.mem_of_getElem? (i := 15) rfl)) rfl
theorem w_600 : Cond.methodLink RX1 79 yX9_pairsMeetingIn ∈ xsGt := xs_w (xsT3 _ (List.mem_of_getElem? (i := 16) rfl)) rfl
theorem w_601 : Cond.instanceMethod yX9_pairsMeetingIn ∈ xsGt := xs_w (xsT3 _ (List.mem_of_getElem? (i := 17) rfl)) rfl
theorem w_602 : Cond.selects yX9_pairsMeetingIn.cls yX9_pairsMeetingIn yX9_pairsMeetingIn ∈ xsGt := xs_w (xsT3 _ (List.mem_of_getElem? (i := 18) rfl)) rfl
theorem w_603 : Cond.code yX9_pairsMeetingIn cX9_pairsMeetingIn 4 (some .int) ∈ xsGt := xs_w (xsT3 _ (List.mem_of_getElem? (i := 19) rfl)) rfl
theorem w_605 : Cond.static yX10_has ∈ xsGt := xs_w (xsT3 _ (List.mem_of_getElem? (i := 21) rfl)) rfl
theorem w_606 : Cond.code yX10_has cX10_has 2 (some .boolean) ∈ xsGt := xs_w (xsT3 _ (List.mem_of_getElem? (i := 22) rfl)) rfl
theorem w_607 : Cond.methodLink RX9 34 yJ6_bitCount_0f7a4 ∈ xsGt := xs_w (xsT3 _ (List.mem_of_getElem? (i := 23) rfl)) rfl
theorem w_608 : Cond.static yJ6_bitCount_0f7a4 ∈ xsGt := xs_w (xsT3 _ (List.mem_of_getElem? (i := 24) rfl)) rfl
theorem w_609 : Cond.code yJ6_bitCount_0f7a4 cJ6_bitCount_0f7a4 1 (some .int) ∈ xsGt := xs_w (xsT3 _ (List.mem_of_getElem? (i := 25) rfl)) rfl
theorem w_610 : Cond.constant RJ6 265 (1431655765 : Int32) ∈ xsGt := xs_w (xsT3 _ (List.mem_of_getElem? (i := 26) rfl)) rfl
theorem w_611 : Cond.constant RJ6 266 (858993459 : Int32) ∈ xsGt := xs_w (xsT3 _ (List.mem_of_getElem? (i := 27) rfl)) rfl
theorem w_612 : Cond.constant RJ6 267 (252645135 : Int32) ∈ xsGt := xs_w (xsT3 _ (List.mem_of_getElem? (i := 28) rfl)) rfl
theorem w_613 : Cond.methodLink RX5 96 yX2_draw ∈ xsGt := xs_w (xsT3 _ (List.mem_of_getElem? (i := 29) rfl)) rfl
theorem w_614 : Cond.instanceMethod yX2_draw ∈ xsGt := xs_w (xsT3 _ (List.mem_of_getElem? (i := 30) rfl)) rfl
theorem w_615 : Cond.selects yX2_draw.cls yX2_draw yX2_draw ∈ xsGt := xs_w (xsT3 _ (List.mem_of_getElem? (i := 31) rfl)) rfl
theorem w_616 : Cond.code yX2_draw cX2_draw 4 none ∈ xsGt := xs_w (xsT3 _ (List.mem_of_getElem? (i := 32) rfl)) rfl
theorem w_617 : Cond.methodLink RX2 33 yX2_drawPieces ∈ xsGt := xs_w (xsT3 _ (List.mem_of_getElem? (i := 33) rfl)) rfl
theorem w_619 : Cond.instanceMethod yX2_drawPieces ∈ xsGt := xs_w (xsT3 _ (List.mem_of_getElem? (i := 35) rfl)) rfl
theorem w_620 : Cond.code yX2_drawPieces cX2_drawPieces 6 none ∈ xsGt := xs_w (xsT3 _ (List.mem_of_getElem? (i := 36) rfl)) rfl
theorem w_622 : Cond.methodLink RL 178 yX10_view ∈ xsGt := xs_w (xsT3 _ (List.mem_of_getElem? (i := 38) rfl)) rfl
theorem w_623 : Cond.instanceMethod yX10_view ∈ xsGt := xs_w (xsT3 _ (List.mem_of_getElem? (i := 39) rfl)) rfl
theorem w_624 : Cond.selects yX10_view.cls yX10_view yX10_view ∈ xsGt := xs_w (xsT3 _ (List.mem_of_getElem? (i := 40) rfl)) rfl
theorem w_625 : Cond.code yX10_view cX10_view 7 (some .int) ∈ xsGt := xs_w (xsT3 _ (List.mem_of_getElem? (i := 41) rfl)) rfl
theorem w_626 : Cond.methodLink RX10 318 yX1_isLastOfItsX ∈ xsGt := xs_w (xsT3 _ (List.mem_of_getElem? (i := 42) rfl)) rfl
theorem w_627 : Cond.instanceMethod yX1_isLastOfItsX ∈ xsGt := xs_w (xsT3 _ (List.mem_of_getElem? (i := 43) rfl)) rfl
theorem w_628 : Cond.selects yX1_isLastOfItsX.cls yX1_isLastOfItsX yX1_isLastOfItsX ∈ xsGt := xs_w (xsT3 _ (List.mem_of_getElem? (i := 44) rfl)) rfl
theorem w_629 : Cond.code yX1_isLastOfItsX cX1_isLastOfItsX 2 (some .boolean) ∈ xsGt := xs_w (xsT3 _ (List.mem_of_getElem? (i := 45) rfl)) rfl
theorem w_630 : Cond.methodLink RX10 321 yX8_last ∈ xsGt := xs_w (xsT3 _ (List.mem_of_getElem? (i := 46) rfl)) rfl
theorem w_631 : Cond.static yX8_last ∈ xsGt := xs_w (xsT3 _ (List.mem_of_getElem? (i := 47) rfl)) rfl
theorem w_632 : Cond.code yX8_last cX8_last 6 (some .int) ∈ xsGt := xs_w (xsT3 _ (List.mem_of_getElem? (i := 48) rfl)) rfl
theorem w_633 : Cond.methodLink RX8 9 yX1_aliveBehind ∈ xsGt := xs_w (xsT3 _ (List.mem_of_getElem? (i := 49) rfl)) rfl
theorem w_634 : Cond.instanceMethod yX1_aliveBehind ∈ xsGt := xs_w (xsT3 _ (List.mem_of_getElem? (i := 50) rfl)) rfl
theorem w_635 : Cond.selects yX1_aliveBehind.cls yX1_aliveBehind yX1_aliveBehind ∈ xsGt := xs_w (xsT3 _ (List.mem_of_getElem? (i := 51) rfl)) rfl
theorem w_636 : Cond.code yX1_aliveBehind cX1_aliveBehind 4 (some .int) ∈ xsGt := xs_w (xsT3 _ (List.mem_of_getElem? (i := 52) rfl)) rfl
theorem w_638 : Cond.methodLink RX8 25 yX8_isAhead ∈ xsGt := xs_w (xsT3 _ (List.mem_of_getElem? (i := 54) rfl)) rfl
theorem w_639 : Cond.static yX8_isAhead ∈ xsGt := xs_w (xsT3 _ (List.mem_of_getElem? (i := 55) rfl)) rfl
theorem w_640 : Cond.code yX8_isAhead cX8_isAhead 11 (some .boolean) ∈ xsGt := xs_w (xsT3 _ (List.mem_of_getElem? (i := 56) rfl)) rfl
theorem w_641 : Cond.methodLink RX8 31 yX8_sideOf ∈ xsGt := xs_w (xsT3 _ (List.mem_of_getElem? (i := 57) rfl)) rfl
theorem w_642 : Cond.static yX8_sideOf ∈ xsGt := xs_w (xsT3 _ (List.mem_of_getElem? (i := 58) rfl)) rfl
theorem w_643 : Cond.code yX8_sideOf cX8_sideOf 4 (some .int) ∈ xsGt := xs_w (xsT3 _ (List.mem_of_getElem? (i := 59) rfl)) rfl
theorem w_644 : Cond.methodLink RX8 39 yX7_width ∈ xsGt := xs_w (xsT3 _ (List.mem_of_getElem? (i := 60) rfl)) rfl
theorem w_645 : Cond.methodLink RX8 46 yX1_heightOf ∈ xsGt := xs_w (xsT3 _ (List.mem_of_getElem? (i := 61) rfl)) rfl
theorem w_646 : Cond.methodLink RX8 50 yJ13_signum_95d88 ∈ xsGt := xs_w (xsT3 _ (List.mem_of_getElem? (i := 62) rfl)) rfl
theorem w_647 : Cond.static yJ13_signum_95d88 ∈ xsGt := xs_w (xsT3 _ (List.mem_of_getElem? (i := 63) rfl)) rfl
theorem w_648 : Cond.code yJ13_signum_95d88 cJ13_signum_95d88 2 (some .int) ∈ xsGt := xs_w (xsT3 _ (List.mem_of_getElem? (i := 64) rfl)) rfl
theorem w_649 : Cond.methodLink RX8 35 yX8_heightAt ∈ xsGt := xs_w (xsT3 _ (List.mem_of_getElem? (i := 65) rfl)) rfl
theorem w_650 : Cond.static yX8_heightAt ∈ xsGt := xs_w (xsT3 _ (List.mem_of_getElem? (i := 66) rfl)) rfl
theorem w_651 : Cond.code yX8_heightAt cX8_heightAt 6 (some .long) ∈ xsGt := xs_w (xsT3 _ (List.mem_of_getElem? (i := 67) rfl)) rfl
theorem w_652 : Cond.methodLink RX8 43 yX7_rise ∈ xsGt := xs_w (xsT3 _ (List.mem_of_getElem? (i := 68) rfl)) rfl
theorem w_653 : Cond.methodLink RL 215 yX10_image ∈ xsGt := xs_w (xsT3 _ (List.mem_of_getElem? (i := 69) rfl)) rfl
theorem w_654 : Cond.instanceMethod yX10_image ∈ xsGt := xs_w (xsT3 _ (List.mem_of_getElem? (i := 70) rfl)) rfl
theorem w_655 : Cond.selects yX10_image.cls yX10_image yX10_image ∈ xsGt := xs_w (xsT3 _ (List.mem_of_getElem? (i := 71) rfl)) rfl
theorem w_656 : Cond.code yX10_image cX10_image 1 none ∈ xsGt := xs_w (xsT3 _ (List.mem_of_getElem? (i := 72) rfl)) rfl
theorem w_657 : Cond.methodLink RX10 378 yX7_copyFrom ∈ xsGt := xs_w (xsT3 _ (List.mem_of_getElem? (i := 73) rfl)) rfl
theorem w_658 : Cond.methodLink RL 219 yX10_back ∈ xsGt := xs_w (xsT3 _ (List.mem_of_getElem? (i := 74) rfl)) rfl
theorem w_659 : Cond.instanceMethod yX10_back ∈ xsGt := xs_w (xsT3 _ (List.mem_of_getElem? (i := 75) rfl)) rfl
theorem w_660 : Cond.selects yX10_back.cls yX10_back yX10_back ∈ xsGt := xs_w (xsT3 _ (List.mem_of_getElem? (i := 76) rfl)) rfl
theorem w_661 : Cond.code yX10_back cX10_back 1 (some .boolean) ∈ xsGt := xs_w (xsT3 _ (List.mem_of_getElem? (i := 77) rfl)) rfl
theorem w_662 : Cond.methodLink RX10 87 yX3_forget ∈ xsGt := xs_w (xsT3 _ (List.mem_of_getElem? (i := 78) rfl)) rfl
theorem w_663 : Cond.instanceMethod yX3_forget ∈ xsGt := xs_w (xsT3 _ (List.mem_of_getElem? (i := 79) rfl)) rfl
theorem w_664 : Cond.selects yX3_forget.cls yX3_forget yX3_forget ∈ xsGt := xs_w (xsT3 _ (List.mem_of_getElem? (i := 80) rfl)) rfl
theorem w_665 : Cond.code yX3_forget cX3_forget 1 none ∈ xsGt := xs_w (xsT3 _ (List.mem_of_getElem? (i := 81) rfl)) rfl
theorem w_666 : Cond.methodLink RX10 93 yX10_become ∈ xsGt := xs_w (xsT3 _ (List.mem_of_getElem? (i := 82) rfl)) rfl
theorem w_668 : Cond.instanceMethod yX10_become ∈ xsGt := xs_w (xsT3 _ (List.mem_of_getElem? (i := 84) rfl)) rfl
theorem w_669 : Cond.code yX10_become cX10_become 2 none ∈ xsGt := xs_w (xsT3 _ (List.mem_of_getElem? (i := 85) rfl)) rfl
theorem w_670 : Cond.methodLink RL 224 yX10_count ∈ xsGt := xs_w (xsT3 _ (List.mem_of_getElem? (i := 86) rfl)) rfl
theorem w_671 : Cond.instanceMethod yX10_count ∈ xsGt := xs_w (xsT3 _ (List.mem_of_getElem? (i := 87) rfl)) rfl
theorem w_672 : Cond.selects yX10_count.cls yX10_count yX10_count ∈ xsGt := xs_w (xsT3 _ (List.mem_of_getElem? (i := 88) rfl)) rfl
theorem w_673 : Cond.code yX10_count cX10_count 3 (some .int) ∈ xsGt := xs_w (xsT3 _ (List.mem_of_getElem? (i := 89) rfl)) rfl
theorem w_674 : Cond.methodLink RX10 387 yX9_parts ∈ xsGt := xs_w (xsT3 _ (List.mem_of_getElem? (i := 90) rfl)) rfl
theorem w_675 : Cond.instanceMethod yX9_parts ∈ xsGt := xs_w (xsT3 _ (List.mem_of_getElem? (i := 91) rfl)) rfl
theorem w_676 : Cond.selects yX9_parts.cls yX9_parts yX9_parts ∈ xsGt := xs_w (xsT3 _ (List.mem_of_getElem? (i := 92) rfl)) rfl
theorem w_677 : Cond.code yX9_parts cX9_parts 4 (some .int) ∈ xsGt := xs_w (xsT3 _ (List.mem_of_getElem? (i := 93) rfl)) rfl
theorem w_678 : Cond.methodLink RX9 43 yX9_part ∈ xsGt := xs_w (xsT3 _ (List.mem_of_getElem? (i := 94) rfl)) rfl
theorem w_679 : Cond.instanceMethod yX9_part ∈ xsGt := xs_w (xsT3 _ (List.mem_of_getElem? (i := 95) rfl)) rfl
theorem w_680 : Cond.selects yX9_part.cls yX9_part yX9_part ∈ xsGt := xs_w (xsT3 _ (List.mem_of_getElem? (i := 96) rfl)) rfl
theorem w_681 : Cond.code yX9_part cX9_part 4 (some .int) ∈ xsGt := xs_w (xsT3 _ (List.mem_of_getElem? (i := 97) rfl)) rfl
theorem w_682 : Cond.methodLink RX9 40 yX9_grown ∈ xsGt := xs_w (xsT3 _ (List.mem_of_getElem? (i := 98) rfl)) rfl
theorem w_684 : Cond.instanceMethod yX9_grown ∈ xsGt := xs_w (xsT3 _ (List.mem_of_getElem? (i := 100) rfl)) rfl
theorem w_685 : Cond.code yX9_grown cX9_grown 4 (some .int) ∈ xsGt := xs_w (xsT3 _ (List.mem_of_getElem? (i := 101) rfl)) rfl
theorem w_686 : Cond.methodLink RX10 391 yX5_faces ∈ xsGt := xs_w (xsT3 _ (List.mem_of_getElem? (i := 102) rfl)) rfl
theorem w_687 : Cond.instanceMethod yX5_faces ∈ xsGt := xs_w (xsT3 _ (List.mem_of_getElem? (i := 103) rfl)) rfl
theorem w_688 : Cond.selects yX5_faces.cls yX5_faces yX5_faces ∈ xsGt := xs_w (xsT3 _ (List.mem_of_getElem? (i := 104) rfl)) rfl
theorem w_689 : Cond.code yX5_faces cX5_faces 1 (some .int) ∈ xsGt := xs_w (xsT3 _ (List.mem_of_getElem? (i := 105) rfl)) rfl
theorem w_690 : Cond.methodLink RX5 103 yX9_parts ∈ xsGt := xs_w (xsT3 _ (List.mem_of_getElem? (i := 106) rfl)) rfl
theorem w_691 : Cond.methodLink RX10 394 yX1_greatestBundle ∈ xsGt := xs_w (xsT3 _ (List.mem_of_getElem? (i := 107) rfl)) rfl
theorem w_692 : Cond.instanceMethod yX1_greatestBundle ∈ xsGt := xs_w (xsT3 _ (List.mem_of_getElem? (i := 108) rfl)) rfl
theorem w_693 : Cond.selects yX1_greatestBundle.cls yX1_greatestBundle yX1_greatestBundle ∈ xsGt := xs_w (xsT3 _ (List.mem_of_getElem? (i := 109) rfl)) rfl
theorem w_694 : Cond.code yX1_greatestBundle cX1_greatestBundle 3 (some .int) ∈ xsGt := xs_w (xsT3 _ (List.mem_of_getElem? (i := 110) rfl)) rfl
theorem w_695 : Cond.methodLink RX1 110 yJ6_bitCount_0f7a4 ∈ xsGt := xs_w (xsT3 _ (List.mem_of_getElem? (i := 111) rfl)) rfl
theorem w_696 : Cond.methodLink RX1 115 yJ9_max_7cf53 ∈ xsGt := xs_w (xsT3 _ (List.mem_of_getElem? (i := 112) rfl)) rfl
theorem w_697 : Cond.static yJ9_max_7cf53 ∈ xsGt := xs_w (xsT3 _ (List.mem_of_getElem? (i := 113) rfl)) rfl
theorem w_698 : Cond.code yJ9_max_7cf53 cJ9_max_7cf53 2 (some .int) ∈ xsGt := xs_w (xsT3 _ (List.mem_of_getElem? (i := 114) rfl)) rfl
theorem w_699 : Cond.methodLink RX10 397 yX10_countFurther ∈ xsGt := xs_w (xsT3 _ (List.mem_of_getElem? (i := 115) rfl)) rfl
theorem w_701 : Cond.instanceMethod yX10_countFurther ∈ xsGt := xs_w (xsT3 _ (List.mem_of_getElem? (i := 117) rfl)) rfl
theorem w_702 : Cond.code yX10_countFurther cX10_countFurther 3 (some .int) ∈ xsGt := xs_w (xsT3 _ (List.mem_of_getElem? (i := 118) rfl)) rfl
theorem w_703 : Cond.methodLink RX10 401 yX1_greatestStatus ∈ xsGt := xs_w (xsT3 _ (List.mem_of_getElem? (i := 119) rfl)) rfl
theorem w_704 : Cond.instanceMethod yX1_greatestStatus ∈ xsGt := xs_w (xsT3 _ (List.mem_of_getElem? (i := 120) rfl)) rfl
theorem w_705 : Cond.selects yX1_greatestStatus.cls yX1_greatestStatus yX1_greatestStatus ∈ xsGt := xs_w (xsT3 _ (List.mem_of_getElem? (i := 121) rfl)) rfl
theorem w_706 : Cond.code yX1_greatestStatus cX1_greatestStatus 3 (some .int) ∈ xsGt := xs_w (xsT3 _ (List.mem_of_getElem? (i := 122) rfl)) rfl
theorem w_707 : Cond.methodLink RX1 121 yX1_aliveBehind ∈ xsGt := xs_w (xsT3 _ (List.mem_of_getElem? (i := 123) rfl)) rfl
theorem w_708 : Cond.methodLink RX10 404 yX1_firstOfStatus ∈ xsGt := xs_w (xsT3 _ (List.mem_of_getElem? (i := 124) rfl)) rfl
theorem w_709 : Cond.instanceMethod yX1_firstOfStatus ∈ xsGt := xs_w (xsT3 _ (List.mem_of_getElem? (i := 125) rfl)) rfl
theorem w_710 : Cond.selects yX1_firstOfStatus.cls yX1_firstOfStatus yX1_firstOfStatus ∈ xsGt := xs_w (xsT3 _ (List.mem_of_getElem? (i := 126) rfl)) rfl
theorem w_711 : Cond.code yX1_firstOfStatus cX1_firstOfStatus 3 (some .int) ∈ xsGt := xs_w (xsT3 _ (List.mem_of_getElem? (i := 127) rfl)) rfl
theorem w_712 : Cond.methodLink RX10 407 yX5_blame ∈ xsGt := xs_w (xsT3 _ (List.mem_of_getElem? (i := 128) rfl)) rfl
theorem w_713 : Cond.instanceMethod yX5_blame ∈ xsGt := xs_w (xsT3 _ (List.mem_of_getElem? (i := 129) rfl)) rfl
theorem w_714 : Cond.selects yX5_blame.cls yX5_blame yX5_blame ∈ xsGt := xs_w (xsT3 _ (List.mem_of_getElem? (i := 130) rfl)) rfl
theorem w_715 : Cond.code yX5_blame cX5_blame 5 (some .int) ∈ xsGt := xs_w (xsT3 _ (List.mem_of_getElem? (i := 131) rfl)) rfl
theorem w_716 : Cond.methodLink RX5 124 yX5_crossingsFewerWithout ∈ xsGt := xs_w (xsT3 _ (List.mem_of_getElem? (i := 132) rfl)) rfl
theorem w_718 : Cond.instanceMethod yX5_crossingsFewerWithout ∈ xsGt := xs_w (xsT3 _ (List.mem_of_getElem? (i := 134) rfl)) rfl
theorem w_719 : Cond.code yX5_crossingsFewerWithout cX5_crossingsFewerWithout 5 (some .int) ∈ xsGt := xs_w (xsT3 _ (List.mem_of_getElem? (i := 135) rfl)) rfl
theorem w_721 : Cond.methodLink RX5 112 yX9_pairsMeetingIn ∈ xsGt := xs_w (xsT3 _ (List.mem_of_getElem? (i := 137) rfl)) rfl
theorem w_722 : Cond.methodLink RX10 410 yX2_oddDegrees ∈ xsGt := xs_w (xsT3 _ (List.mem_of_getElem? (i := 138) rfl)) rfl
theorem w_723 : Cond.instanceMethod yX2_oddDegrees ∈ xsGt := xs_w (xsT3 _ (List.mem_of_getElem? (i := 139) rfl)) rfl
theorem w_724 : Cond.selects yX2_oddDegrees.cls yX2_oddDegrees yX2_oddDegrees ∈ xsGt := xs_w (xsT3 _ (List.mem_of_getElem? (i := 140) rfl)) rfl
theorem w_725 : Cond.code yX2_oddDegrees cX2_oddDegrees 4 (some .int) ∈ xsGt := xs_w (xsT3 _ (List.mem_of_getElem? (i := 141) rfl)) rfl
theorem w_726 : Cond.methodLink RX10 413 yX5_spreads ∈ xsGt := xs_w (xsT3 _ (List.mem_of_getElem? (i := 142) rfl)) rfl
theorem w_727 : Cond.instanceMethod yX5_spreads ∈ xsGt := xs_w (xsT3 _ (List.mem_of_getElem? (i := 143) rfl)) rfl
theorem w_728 : Cond.selects yX5_spreads.cls yX5_spreads yX5_spreads ∈ xsGt := xs_w (xsT3 _ (List.mem_of_getElem? (i := 144) rfl)) rfl
theorem w_729 : Cond.code yX5_spreads cX5_spreads 3 (some .int) ∈ xsGt := xs_w (xsT3 _ (List.mem_of_getElem? (i := 145) rfl)) rfl
theorem w_730 : Cond.methodLink RX5 121 yX5_spread ∈ xsGt := xs_w (xsT3 _ (List.mem_of_getElem? (i := 146) rfl)) rfl
theorem w_731 : Cond.instanceMethod yX5_spread ∈ xsGt := xs_w (xsT3 _ (List.mem_of_getElem? (i := 147) rfl)) rfl
theorem w_732 : Cond.selects yX5_spread.cls yX5_spread yX5_spread ∈ xsGt := xs_w (xsT3 _ (List.mem_of_getElem? (i := 148) rfl)) rfl
theorem w_733 : Cond.code yX5_spread cX5_spread 2 (some .int) ∈ xsGt := xs_w (xsT3 _ (List.mem_of_getElem? (i := 149) rfl)) rfl
theorem w_734 : Cond.methodLink RX5 108 yX1_insidesIn ∈ xsGt := xs_w (xsT3 _ (List.mem_of_getElem? (i := 150) rfl)) rfl
theorem w_735 : Cond.instanceMethod yX1_insidesIn ∈ xsGt := xs_w (xsT3 _ (List.mem_of_getElem? (i := 151) rfl)) rfl
theorem w_736 : Cond.selects yX1_insidesIn.cls yX1_insidesIn yX1_insidesIn ∈ xsGt := xs_w (xsT3 _ (List.mem_of_getElem? (i := 152) rfl)) rfl
theorem w_737 : Cond.code yX1_insidesIn cX1_insidesIn 2 (some .int) ∈ xsGt := xs_w (xsT3 _ (List.mem_of_getElem? (i := 153) rfl)) rfl
theorem w_738 : Cond.methodLink RX1 100 yX1_leftsIn ∈ xsGt := xs_w (xsT3 _ (List.mem_of_getElem? (i := 154) rfl)) rfl
theorem w_739 : Cond.instanceMethod yX1_leftsIn ∈ xsGt := xs_w (xsT3 _ (List.mem_of_getElem? (i := 155) rfl)) rfl
theorem w_740 : Cond.selects yX1_leftsIn.cls yX1_leftsIn yX1_leftsIn ∈ xsGt := xs_w (xsT3 _ (List.mem_of_getElem? (i := 156) rfl)) rfl
theorem w_741 : Cond.code yX1_leftsIn cX1_leftsIn 2 (some .int) ∈ xsGt := xs_w (xsT3 _ (List.mem_of_getElem? (i := 157) rfl)) rfl
theorem w_742 : Cond.methodLink RX1 96 yX1_endsIn ∈ xsGt := xs_w (xsT3 _ (List.mem_of_getElem? (i := 158) rfl)) rfl
theorem w_744 : Cond.instanceMethod yX1_endsIn ∈ xsGt := xs_w (xsT3 _ (List.mem_of_getElem? (i := 160) rfl)) rfl
theorem w_745 : Cond.code yX1_endsIn cX1_endsIn 5 (some .int) ∈ xsGt := xs_w (xsT3 _ (List.mem_of_getElem? (i := 161) rfl)) rfl
theorem w_746 : Cond.methodLink RX1 103 yX1_rightsIn ∈ xsGt := xs_w (xsT3 _ (List.mem_of_getElem? (i := 162) rfl)) rfl
theorem w_747 : Cond.instanceMethod yX1_rightsIn ∈ xsGt := xs_w (xsT3 _ (List.mem_of_getElem? (i := 163) rfl)) rfl
theorem w_748 : Cond.selects yX1_rightsIn.cls yX1_rightsIn yX1_rightsIn ∈ xsGt := xs_w (xsT3 _ (List.mem_of_getElem? (i := 164) rfl)) rfl
theorem w_749 : Cond.code yX1_rightsIn cX1_rightsIn 2 (some .int) ∈ xsGt := xs_w (xsT3 _ (List.mem_of_getElem? (i := 165) rfl)) rfl
theorem w_750 : Cond.methodLink RX10 331 yX4_wrap ∈ xsGt := xs_w (xsT3 _ (List.mem_of_getElem? (i := 166) rfl)) rfl
theorem w_751 : Cond.instanceMethod yX4_wrap ∈ xsGt := xs_w (xsT3 _ (List.mem_of_getElem? (i := 167) rfl)) rfl
theorem w_752 : Cond.selects yX4_wrap.cls yX4_wrap yX4_wrap ∈ xsGt := xs_w (xsT3 _ (List.mem_of_getElem? (i := 168) rfl)) rfl
theorem w_753 : Cond.code yX4_wrap cX4_wrap 4 none ∈ xsGt := xs_w (xsT3 _ (List.mem_of_getElem? (i := 169) rfl)) rfl
theorem w_754 : Cond.methodLink RX4 31 yX4_findLeast ∈ xsGt := xs_w (xsT3 _ (List.mem_of_getElem? (i := 170) rfl)) rfl
theorem w_756 : Cond.instanceMethod yX4_findLeast ∈ xsGt := xs_w (xsT3 _ (List.mem_of_getElem? (i := 172) rfl)) rfl
theorem w_757 : Cond.code yX4_findLeast cX4_findLeast 3 none ∈ xsGt := xs_w (xsT3 _ (List.mem_of_getElem? (i := 173) rfl)) rfl
theorem w_758 : Cond.methodLink RX4 41 yX4_tryNext ∈ xsGt := xs_w (xsT3 _ (List.mem_of_getElem? (i := 174) rfl)) rfl
theorem w_760 : Cond.instanceMethod yX4_tryNext ∈ xsGt := xs_w (xsT3 _ (List.mem_of_getElem? (i := 176) rfl)) rfl
theorem w_761 : Cond.code yX4_tryNext cX4_tryNext 16 none ∈ xsGt := xs_w (xsT3 _ (List.mem_of_getElem? (i := 177) rfl)) rfl
theorem w_762 : Cond.methodLink RX4 51 yJ9_abs_067f4 ∈ xsGt := xs_w (xsT3 _ (List.mem_of_getElem? (i := 178) rfl)) rfl
theorem w_763 : Cond.static yJ9_abs_067f4 ∈ xsGt := xs_w (xsT3 _ (List.mem_of_getElem? (i := 179) rfl)) rfl
theorem w_764 : Cond.code yJ9_abs_067f4 cJ9_abs_067f4 2 (some .long) ∈ xsGt := xs_w (xsT3 _ (List.mem_of_getElem? (i := 180) rfl)) rfl
theorem w_765 : Cond.methodLink RL 115 yL_acts ∈ xsGt := xs_w (xsT3 _ (List.mem_of_getElem? (i := 181) rfl)) rfl
theorem w_766 : Cond.static yL_acts ∈ xsGt := xs_w (xsT3 _ (List.mem_of_getElem? (i := 182) rfl)) rfl
theorem w_769 : Cond.methodLink RL 7 yX10_acts ∈ xsGt := xs_w (xsT3 _ (List.mem_of_getElem? (i := 185) rfl)) rfl
theorem w_770 : Cond.instanceMethod yX10_acts ∈ xsGt := xs_w (xsT3 _ (List.mem_of_getElem? (i := 186) rfl)) rfl
theorem w_771 : Cond.selects yX10_acts.cls yX10_acts yX10_acts ∈ xsGt := xs_w (xsT3 _ (List.mem_of_getElem? (i := 187) rfl)) rfl
theorem w_772 : Cond.code yX10_acts cX10_acts 2 (some .int) ∈ xsGt := xs_w (xsT3 _ (List.mem_of_getElem? (i := 188) rfl)) rfl
theorem w_773 : Cond.methodLink RX10 73 yX6_read ∈ xsGt := xs_w (xsT3 _ (List.mem_of_getElem? (i := 189) rfl)) rfl
theorem w_774 : Cond.instanceMethod yX6_read ∈ xsGt := xs_w (xsT3 _ (List.mem_of_getElem? (i := 190) rfl)) rfl
theorem w_775 : Cond.selects yX6_read.cls yX6_read yX6_read ∈ xsGt := xs_w (xsT3 _ (List.mem_of_getElem? (i := 191) rfl)) rfl
theorem w_776 : Cond.code yX6_read cX6_read 5 (some .int) ∈ xsGt := xs_w (xsT3 _ (List.mem_of_getElem? (i := 192) rfl)) rfl
theorem w_777 : Cond.methodLink RX6 39 yX7_copyFrom ∈ xsGt := xs_w (xsT3 _ (List.mem_of_getElem? (i := 193) rfl)) rfl
theorem w_778 : Cond.methodLink RX6 43 yX6_skipBlanks ∈ xsGt := xs_w (xsT3 _ (List.mem_of_getElem? (i := 194) rfl)) rfl
theorem w_780 : Cond.instanceMethod yX6_skipBlanks ∈ xsGt := xs_w (xsT3 _ (List.mem_of_getElem? (i := 196) rfl)) rfl
theorem w_781 : Cond.code yX6_skipBlanks cX6_skipBlanks 1 none ∈ xsGt := xs_w (xsT3 _ (List.mem_of_getElem? (i := 197) rfl)) rfl
theorem w_782 : Cond.methodLink RX6 46 yX6_readAct ∈ xsGt := xs_w (xsT3 _ (List.mem_of_getElem? (i := 198) rfl)) rfl
theorem w_784 : Cond.instanceMethod yX6_readAct ∈ xsGt := xs_w (xsT3 _ (List.mem_of_getElem? (i := 200) rfl)) rfl
theorem w_785 : Cond.code yX6_readAct cX6_readAct 2 (some .boolean) ∈ xsGt := xs_w (xsT3 _ (List.mem_of_getElem? (i := 201) rfl)) rfl
theorem w_787 : Cond.methodLink RX6 59 yX6_readWord ∈ xsGt := xs_w (xsT3 _ (List.mem_of_getElem? (i := 203) rfl)) rfl
theorem w_789 : Cond.instanceMethod yX6_readWord ∈ xsGt := xs_w (xsT3 _ (List.mem_of_getElem? (i := 205) rfl)) rfl
theorem w_790 : Cond.code yX6_readWord cX6_readWord 5 (some .boolean) ∈ xsGt := xs_w (xsT3 _ (List.mem_of_getElem? (i := 206) rfl)) rfl
theorem w_791 : Cond.methodLink RX6 119 yJ0_length_8abf5 ∈ xsGt := xs_w (xsT3 _ (List.mem_of_getElem? (i := 207) rfl)) rfl
theorem w_792 : Cond.instanceMethod yJ0_length_8abf5 ∈ xsGt := xs_w (xsT3 _ (List.mem_of_getElem? (i := 208) rfl)) rfl
theorem w_793 : Cond.selects yJ0_length_8abf5.cls yJ0_length_8abf5 yJ0_length_8abf5 ∈ xsGt := xs_w (xsT3 _ (List.mem_of_getElem? (i := 209) rfl)) rfl
theorem w_794 : Cond.code yJ0_length_8abf5 cJ0_length_8abf5 1 (some .int) ∈ xsGt := xs_w (xsT3 _ (List.mem_of_getElem? (i := 210) rfl)) rfl
theorem w_795 : Cond.methodLink RJ0 335 yJ0_coder_7d493 ∈ xsGt := xs_w (xsT3 _ (List.mem_of_getElem? (i := 211) rfl)) rfl
theorem w_796 : Cond.instanceMethod yJ0_coder_7d493 ∈ xsGt := xs_w (xsT3 _ (List.mem_of_getElem? (i := 212) rfl)) rfl
theorem w_797 : Cond.selects yJ0_coder_7d493.cls yJ0_coder_7d493 yJ0_coder_7d493 ∈ xsGt := xs_w (xsT3 _ (List.mem_of_getElem? (i := 213) rfl)) rfl
theorem w_798 : Cond.code yJ0_coder_7d493 cJ0_coder_7d493 1 (some .byte) ∈ xsGt := xs_w (xsT3 _ (List.mem_of_getElem? (i := 214) rfl)) rfl
theorem w_801 : Cond.methodLink RX6 124 yJ0_charAt_5068e ∈ xsGt := xs_w (xsT3 _ (List.mem_of_getElem? (i := 217) rfl)) rfl
theorem w_802 : Cond.instanceMethod yJ0_charAt_5068e ∈ xsGt := xs_w (xsT3 _ (List.mem_of_getElem? (i := 218) rfl)) rfl
theorem w_803 : Cond.selects yJ0_charAt_5068e.cls yJ0_charAt_5068e yJ0_charAt_5068e ∈ xsGt := xs_w (xsT3 _ (List.mem_of_getElem? (i := 219) rfl)) rfl
theorem w_804 : Cond.code yJ0_charAt_5068e cJ0_charAt_5068e 2 (some .char) ∈ xsGt := xs_w (xsT3 _ (List.mem_of_getElem? (i := 220) rfl)) rfl
theorem w_805 : Cond.methodLink RJ0 492 yJ0_isLatin1_aae02 ∈ xsGt := xs_w (xsT3 _ (List.mem_of_getElem? (i := 221) rfl)) rfl
theorem w_806 : Cond.instanceMethod yJ0_isLatin1_aae02 ∈ xsGt := xs_w (xsT3 _ (List.mem_of_getElem? (i := 222) rfl)) rfl
theorem w_807 : Cond.selects yJ0_isLatin1_aae02.cls yJ0_isLatin1_aae02 yJ0_isLatin1_aae02 ∈ xsGt := xs_w (xsT3 _ (List.mem_of_getElem? (i := 223) rfl)) rfl
theorem w_808 : Cond.code yJ0_isLatin1_aae02 cJ0_isLatin1_aae02 1 (some .boolean) ∈ xsGt := xs_w (xsT3 _ (List.mem_of_getElem? (i := 224) rfl)) rfl
theorem w_809 : Cond.methodLink RJ0 495 yJ1_charAt_3b067 ∈ xsGt := xs_w (xsT3 _ (List.mem_of_getElem? (i := 225) rfl)) rfl
theorem w_810 : Cond.static yJ1_charAt_3b067 ∈ xsGt := xs_w (xsT3 _ (List.mem_of_getElem? (i := 226) rfl)) rfl
theorem w_811 : Cond.code yJ1_charAt_3b067 cJ1_charAt_3b067 2 (some .char) ∈ xsGt := xs_w (xsT3 _ (List.mem_of_getElem? (i := 227) rfl)) rfl
theorem w_812 : Cond.methodLink RJ1 9 yJ0_checkIndex_df160 ∈ xsGt := xs_w (xsT3 _ (List.mem_of_getElem? (i := 228) rfl)) rfl
theorem w_813 : Cond.static yJ0_checkIndex_df160 ∈ xsGt := xs_w (xsT3 _ (List.mem_of_getElem? (i := 229) rfl)) rfl
theorem w_814 : Cond.code yJ0_checkIndex_df160 cJ0_checkIndex_df160 2 none ∈ xsGt := xs_w (xsT3 _ (List.mem_of_getElem? (i := 230) rfl)) rfl
theorem w_817 : Cond.methodLink RJ0 1059 yJ3_checkIndex_8e157 ∈ xsGt := xs_w (xsT3 _ (List.mem_of_getElem? (i := 233) rfl)) rfl
theorem w_818 : Cond.static yJ3_checkIndex_8e157 ∈ xsGt := xs_w (xsT3 _ (List.mem_of_getElem? (i := 234) rfl)) rfl
theorem w_819 : Cond.code yJ3_checkIndex_8e157 cJ3_checkIndex_8e157 3 (some .int) ∈ xsGt := xs_w (xsT3 _ (List.mem_of_getElem? (i := 235) rfl)) rfl
theorem w_820 : Cond.methodLink RJ0 498 yJ2_charAt_3b067 ∈ xsGt := xs_w (xsT3 _ (List.mem_of_getElem? (i := 236) rfl)) rfl
theorem w_821 : Cond.static yJ2_charAt_3b067 ∈ xsGt := xs_w (xsT3 _ (List.mem_of_getElem? (i := 237) rfl)) rfl
theorem w_822 : Cond.code yJ2_charAt_3b067 cJ2_charAt_3b067 2 (some .char) ∈ xsGt := xs_w (xsT3 _ (List.mem_of_getElem? (i := 238) rfl)) rfl
theorem w_823 : Cond.methodLink RJ2 67 yJ2_checkIndex_2214a ∈ xsGt := xs_w (xsT3 _ (List.mem_of_getElem? (i := 239) rfl)) rfl
theorem w_824 : Cond.static yJ2_checkIndex_2214a ∈ xsGt := xs_w (xsT4 _ (List.mem_of_getElem? (i := 0) rfl)) rfl
theorem w_825 : Cond.code yJ2_checkIndex_2214a cJ2_checkIndex_2214a 2 none ∈ xsGt := xs_w (xsT4 _ (List.mem_of_getElem? (i := 1) rfl)) rfl
theorem w_826 : Cond.methodLink RJ2 48 yJ2_length_9d52b ∈ xsGt := xs_w (xsT4 _ (List.mem_of_getElem? (i := 2) rfl)) rfl
theorem w_827 : Cond.static yJ2_length_9d52b ∈ xsGt := xs_w (xsT4 _ (List.mem_of_getElem? (i := 3) rfl)) rfl
theorem w_828 : Cond.code yJ2_length_9d52b cJ2_length_9d52b 1 (some .int) ∈ xsGt := xs_w (xsT4 _ (List.mem_of_getElem? (i := 4) rfl)) rfl
theorem w_829 : Cond.methodLink RJ2 414 yJ0_checkIndex_df160 ∈ xsGt := xs_w (xsT4 _ (List.mem_of_getElem? (i := 5) rfl)) rfl
theorem w_830 : Cond.methodLink RJ2 71 yJ2_getChar_3b067 ∈ xsGt := xs_w (xsT4 _ (List.mem_of_getElem? (i := 6) rfl)) rfl
theorem w_831 : Cond.static yJ2_getChar_3b067 ∈ xsGt := xs_w (xsT4 _ (List.mem_of_getElem? (i := 7) rfl)) rfl
theorem w_832 : Cond.code yJ2_getChar_3b067 cJ2_getChar_3b067 2 (some .char) ∈ xsGt := xs_w (xsT4 _ (List.mem_of_getElem? (i := 8) rfl)) rfl
theorem w_839 : Cond.methodLink RX6 63 yX6_readSeg ∈ xsGt := xs_w (xsT4 _ (List.mem_of_getElem? (i := 15) rfl)) rfl
theorem w_841 : Cond.instanceMethod yX6_readSeg ∈ xsGt := xs_w (xsT4 _ (List.mem_of_getElem? (i := 17) rfl)) rfl
theorem w_842 : Cond.code yX6_readSeg cX6_readSeg 3 (some .boolean) ∈ xsGt := xs_w (xsT4 _ (List.mem_of_getElem? (i := 18) rfl)) rfl
theorem w_843 : Cond.methodLink RX6 86 yX6_readSigned ∈ xsGt := xs_w (xsT4 _ (List.mem_of_getElem? (i := 19) rfl)) rfl
theorem w_845 : Cond.instanceMethod yX6_readSigned ∈ xsGt := xs_w (xsT4 _ (List.mem_of_getElem? (i := 21) rfl)) rfl
theorem w_846 : Cond.code yX6_readSigned cX6_readSigned 3 (some .boolean) ∈ xsGt := xs_w (xsT4 _ (List.mem_of_getElem? (i := 22) rfl)) rfl
theorem w_847 : Cond.methodLink RX6 128 yX6_readDigits ∈ xsGt := xs_w (xsT4 _ (List.mem_of_getElem? (i := 23) rfl)) rfl
theorem w_849 : Cond.instanceMethod yX6_readDigits ∈ xsGt := xs_w (xsT4 _ (List.mem_of_getElem? (i := 25) rfl)) rfl
theorem w_850 : Cond.code yX6_readDigits cX6_readDigits 4 (some .boolean) ∈ xsGt := xs_w (xsT4 _ (List.mem_of_getElem? (i := 26) rfl)) rfl
theorem w_851 : Cond.methodLink RX6 53 yX6_refuse ∈ xsGt := xs_w (xsT4 _ (List.mem_of_getElem? (i := 27) rfl)) rfl
theorem w_853 : Cond.instanceMethod yX6_refuse ∈ xsGt := xs_w (xsT4 _ (List.mem_of_getElem? (i := 29) rfl)) rfl
theorem w_854 : Cond.code yX6_refuse cX6_refuse 2 (some .boolean) ∈ xsGt := xs_w (xsT4 _ (List.mem_of_getElem? (i := 30) rfl)) rfl
theorem w_856 : Cond.methodLink RX6 89 yX6_readNumber ∈ xsGt := xs_w (xsT4 _ (List.mem_of_getElem? (i := 32) rfl)) rfl
theorem w_858 : Cond.instanceMethod yX6_readNumber ∈ xsGt := xs_w (xsT4 _ (List.mem_of_getElem? (i := 34) rfl)) rfl
theorem w_859 : Cond.code yX6_readNumber cX6_readNumber 3 (some .boolean) ∈ xsGt := xs_w (xsT4 _ (List.mem_of_getElem? (i := 35) rfl)) rfl
theorem w_860 : Cond.methodLink RX6 92 yX7_isFull ∈ xsGt := xs_w (xsT4 _ (List.mem_of_getElem? (i := 36) rfl)) rfl
theorem w_861 : Cond.instanceMethod yX7_isFull ∈ xsGt := xs_w (xsT4 _ (List.mem_of_getElem? (i := 37) rfl)) rfl
theorem w_862 : Cond.selects yX7_isFull.cls yX7_isFull yX7_isFull ∈ xsGt := xs_w (xsT4 _ (List.mem_of_getElem? (i := 38) rfl)) rfl
theorem w_863 : Cond.code yX7_isFull cX7_isFull 1 (some .boolean) ∈ xsGt := xs_w (xsT4 _ (List.mem_of_getElem? (i := 39) rfl)) rfl
theorem w_864 : Cond.methodLink RX6 95 yX7_append ∈ xsGt := xs_w (xsT4 _ (List.mem_of_getElem? (i := 40) rfl)) rfl
theorem w_865 : Cond.instanceMethod yX7_append ∈ xsGt := xs_w (xsT4 _ (List.mem_of_getElem? (i := 41) rfl)) rfl
theorem w_866 : Cond.selects yX7_append.cls yX7_append yX7_append ∈ xsGt := xs_w (xsT4 _ (List.mem_of_getElem? (i := 42) rfl)) rfl
theorem w_867 : Cond.code yX7_append cX7_append 6 none ∈ xsGt := xs_w (xsT4 _ (List.mem_of_getElem? (i := 43) rfl)) rfl
theorem w_868 : Cond.methodLink RX7 31 yX7_isFull ∈ xsGt := xs_w (xsT4 _ (List.mem_of_getElem? (i := 44) rfl)) rfl
theorem w_870 : Cond.methodLink RX6 68 yX6_readCut ∈ xsGt := xs_w (xsT4 _ (List.mem_of_getElem? (i := 46) rfl)) rfl
theorem w_872 : Cond.instanceMethod yX6_readCut ∈ xsGt := xs_w (xsT4 _ (List.mem_of_getElem? (i := 48) rfl)) rfl
theorem w_873 : Cond.code yX6_readCut cX6_readCut 1 (some .boolean) ∈ xsGt := xs_w (xsT4 _ (List.mem_of_getElem? (i := 49) rfl)) rfl
theorem w_874 : Cond.methodLink RX6 102 yX7_drop ∈ xsGt := xs_w (xsT4 _ (List.mem_of_getElem? (i := 50) rfl)) rfl
theorem w_875 : Cond.instanceMethod yX7_drop ∈ xsGt := xs_w (xsT4 _ (List.mem_of_getElem? (i := 51) rfl)) rfl
theorem w_876 : Cond.selects yX7_drop.cls yX7_drop yX7_drop ∈ xsGt := xs_w (xsT4 _ (List.mem_of_getElem? (i := 52) rfl)) rfl
theorem w_877 : Cond.code yX7_drop cX7_drop 3 none ∈ xsGt := xs_w (xsT4 _ (List.mem_of_getElem? (i := 53) rfl)) rfl
theorem w_879 : Cond.methodLink RX6 73 yX6_readMove ∈ xsGt := xs_w (xsT4 _ (List.mem_of_getElem? (i := 55) rfl)) rfl
theorem w_881 : Cond.instanceMethod yX6_readMove ∈ xsGt := xs_w (xsT4 _ (List.mem_of_getElem? (i := 57) rfl)) rfl
theorem w_882 : Cond.code yX6_readMove cX6_readMove 4 (some .boolean) ∈ xsGt := xs_w (xsT4 _ (List.mem_of_getElem? (i := 58) rfl)) rfl
theorem w_884 : Cond.methodLink RX6 108 yX7_canShift ∈ xsGt := xs_w (xsT4 _ (List.mem_of_getElem? (i := 60) rfl)) rfl
theorem w_885 : Cond.instanceMethod yX7_canShift ∈ xsGt := xs_w (xsT4 _ (List.mem_of_getElem? (i := 61) rfl)) rfl
theorem w_886 : Cond.selects yX7_canShift.cls yX7_canShift yX7_canShift ∈ xsGt := xs_w (xsT4 _ (List.mem_of_getElem? (i := 62) rfl)) rfl
theorem w_887 : Cond.code yX7_canShift cX7_canShift 6 (some .boolean) ∈ xsGt := xs_w (xsT4 _ (List.mem_of_getElem? (i := 63) rfl)) rfl
theorem w_889 : Cond.static yX10_isCoordinate ∈ xsGt := xs_w (xsT4 _ (List.mem_of_getElem? (i := 65) rfl)) rfl
theorem w_890 : Cond.code yX10_isCoordinate cX10_isCoordinate 2 (some .boolean) ∈ xsGt := xs_w (xsT4 _ (List.mem_of_getElem? (i := 66) rfl)) rfl
theorem w_891 : Cond.constantLong RX10 436 (-999 : Int64) ∈ xsGt := xs_w (xsT4 _ (List.mem_of_getElem? (i := 67) rfl)) rfl
theorem w_892 : Cond.constantLong RX10 438 (999 : Int64) ∈ xsGt := xs_w (xsT4 _ (List.mem_of_getElem? (i := 68) rfl)) rfl
theorem w_893 : Cond.methodLink RX6 112 yX7_shift ∈ xsGt := xs_w (xsT4 _ (List.mem_of_getElem? (i := 69) rfl)) rfl
theorem w_894 : Cond.instanceMethod yX7_shift ∈ xsGt := xs_w (xsT4 _ (List.mem_of_getElem? (i := 70) rfl)) rfl
theorem w_895 : Cond.selects yX7_shift.cls yX7_shift yX7_shift ∈ xsGt := xs_w (xsT4 _ (List.mem_of_getElem? (i := 71) rfl)) rfl
theorem w_896 : Cond.code yX7_shift cX7_shift 4 none ∈ xsGt := xs_w (xsT4 _ (List.mem_of_getElem? (i := 72) rfl)) rfl
theorem w_897 : Cond.methodLink RX6 78 yX6_readTint ∈ xsGt := xs_w (xsT4 _ (List.mem_of_getElem? (i := 73) rfl)) rfl
theorem w_899 : Cond.instanceMethod yX6_readTint ∈ xsGt := xs_w (xsT4 _ (List.mem_of_getElem? (i := 75) rfl)) rfl
theorem w_900 : Cond.code yX6_readTint cX6_readTint 2 (some .boolean) ∈ xsGt := xs_w (xsT4 _ (List.mem_of_getElem? (i := 76) rfl)) rfl
theorem w_902 : Cond.methodLink RX6 83 yX7_rotate ∈ xsGt := xs_w (xsT4 _ (List.mem_of_getElem? (i := 78) rfl)) rfl
theorem w_903 : Cond.methodLink RX6 50 yX6_readBreak ∈ xsGt := xs_w (xsT4 _ (List.mem_of_getElem? (i := 79) rfl)) rfl
theorem w_905 : Cond.instanceMethod yX6_readBreak ∈ xsGt := xs_w (xsT4 _ (List.mem_of_getElem? (i := 81) rfl)) rfl
theorem w_906 : Cond.code yX6_readBreak cX6_readBreak 1 (some .boolean) ∈ xsGt := xs_w (xsT4 _ (List.mem_of_getElem? (i := 82) rfl)) rfl
theorem w_975 : Cond.methodLink RL 128 yL_add ∈ xsGt := xs_w (xsT4 _ (List.mem_of_getElem? (i := 151) rfl)) rfl
theorem w_976 : Cond.static yL_add ∈ xsGt := xs_w (xsT4 _ (List.mem_of_getElem? (i := 152) rfl)) rfl
theorem w_979 : Cond.methodLink RL 15 yX10_add ∈ xsGt := xs_w (xsT4 _ (List.mem_of_getElem? (i := 155) rfl)) rfl
theorem w_980 : Cond.instanceMethod yX10_add ∈ xsGt := xs_w (xsT4 _ (List.mem_of_getElem? (i := 156) rfl)) rfl
theorem w_981 : Cond.selects yX10_add.cls yX10_add yX10_add ∈ xsGt := xs_w (xsT4 _ (List.mem_of_getElem? (i := 157) rfl)) rfl
theorem w_982 : Cond.code yX10_add cX10_add 6 (some .int) ∈ xsGt := xs_w (xsT4 _ (List.mem_of_getElem? (i := 158) rfl)) rfl
theorem w_983 : Cond.methodLink RX10 97 yX10_checkPoint ∈ xsGt := xs_w (xsT4 _ (List.mem_of_getElem? (i := 159) rfl)) rfl
theorem w_984 : Cond.static yX10_checkPoint ∈ xsGt := xs_w (xsT4 _ (List.mem_of_getElem? (i := 160) rfl)) rfl
theorem w_985 : Cond.code yX10_checkPoint cX10_checkPoint 2 none ∈ xsGt := xs_w (xsT4 _ (List.mem_of_getElem? (i := 161) rfl)) rfl
theorem w_986 : Cond.methodLink RX10 428 yX10_isCoordinate ∈ xsGt := xs_w (xsT4 _ (List.mem_of_getElem? (i := 162) rfl)) rfl
theorem w_988 : Cond.methodLink RX10 101 yX10_checkTint ∈ xsGt := xs_w (xsT4 _ (List.mem_of_getElem? (i := 164) rfl)) rfl
theorem w_989 : Cond.static yX10_checkTint ∈ xsGt := xs_w (xsT4 _ (List.mem_of_getElem? (i := 165) rfl)) rfl
theorem w_990 : Cond.code yX10_checkTint cX10_checkTint 1 none ∈ xsGt := xs_w (xsT4 _ (List.mem_of_getElem? (i := 166) rfl)) rfl
theorem w_992 : Cond.methodLink RX10 104 yX7_isFull ∈ xsGt := xs_w (xsT4 _ (List.mem_of_getElem? (i := 168) rfl)) rfl
theorem w_1009 : Cond.methodLink RX10 115 yX7_append ∈ xsGt := xs_w (xsT4 _ (List.mem_of_getElem? (i := 185) rfl)) rfl
theorem w_1010 : Cond.methodLink RL 132 yL_cut ∈ xsGt := xs_w (xsT4 _ (List.mem_of_getElem? (i := 186) rfl)) rfl
theorem w_1011 : Cond.static yL_cut ∈ xsGt := xs_w (xsT4 _ (List.mem_of_getElem? (i := 187) rfl)) rfl
theorem w_1014 : Cond.methodLink RL 21 yX10_cut ∈ xsGt := xs_w (xsT4 _ (List.mem_of_getElem? (i := 190) rfl)) rfl
theorem w_1015 : Cond.instanceMethod yX10_cut ∈ xsGt := xs_w (xsT4 _ (List.mem_of_getElem? (i := 191) rfl)) rfl
theorem w_1016 : Cond.selects yX10_cut.cls yX10_cut yX10_cut ∈ xsGt := xs_w (xsT4 _ (List.mem_of_getElem? (i := 192) rfl)) rfl
theorem w_1017 : Cond.code yX10_cut cX10_cut 3 (some .int) ∈ xsGt := xs_w (xsT4 _ (List.mem_of_getElem? (i := 193) rfl)) rfl
theorem w_1018 : Cond.methodLink RX10 122 yX10_checkSegment ∈ xsGt := xs_w (xsT4 _ (List.mem_of_getElem? (i := 194) rfl)) rfl
theorem w_1020 : Cond.instanceMethod yX10_checkSegment ∈ xsGt := xs_w (xsT4 _ (List.mem_of_getElem? (i := 196) rfl)) rfl
theorem w_1021 : Cond.code yX10_checkSegment cX10_checkSegment 2 none ∈ xsGt := xs_w (xsT4 _ (List.mem_of_getElem? (i := 197) rfl)) rfl
theorem w_1022 : Cond.methodLink RX10 254 yX10_checkPlace ∈ xsGt := xs_w (xsT4 _ (List.mem_of_getElem? (i := 198) rfl)) rfl
theorem w_1023 : Cond.static yX10_checkPlace ∈ xsGt := xs_w (xsT4 _ (List.mem_of_getElem? (i := 199) rfl)) rfl
theorem w_1024 : Cond.code yX10_checkPlace cX10_checkPlace 2 none ∈ xsGt := xs_w (xsT4 _ (List.mem_of_getElem? (i := 200) rfl)) rfl
theorem w_1041 : Cond.methodLink RX10 138 yX7_drop ∈ xsGt := xs_w (xsT4 _ (List.mem_of_getElem? (i := 217) rfl)) rfl
theorem w_1042 : Cond.methodLink RL 136 yL_move ∈ xsGt := xs_w (xsT4 _ (List.mem_of_getElem? (i := 218) rfl)) rfl
theorem w_1043 : Cond.static yL_move ∈ xsGt := xs_w (xsT4 _ (List.mem_of_getElem? (i := 219) rfl)) rfl
theorem w_1045 : Cond.methodLink RL 27 yX10_move ∈ xsGt := xs_w (xsT4 _ (List.mem_of_getElem? (i := 221) rfl)) rfl
theorem w_1046 : Cond.instanceMethod yX10_move ∈ xsGt := xs_w (xsT4 _ (List.mem_of_getElem? (i := 222) rfl)) rfl
theorem w_1047 : Cond.selects yX10_move.cls yX10_move yX10_move ∈ xsGt := xs_w (xsT4 _ (List.mem_of_getElem? (i := 223) rfl)) rfl
theorem w_1048 : Cond.code yX10_move cX10_move 4 (some .int) ∈ xsGt := xs_w (xsT4 _ (List.mem_of_getElem? (i := 224) rfl)) rfl
theorem w_1049 : Cond.methodLink RX10 141 yX7_canShift ∈ xsGt := xs_w (xsT4 _ (List.mem_of_getElem? (i := 225) rfl)) rfl
theorem w_1051 : Cond.methodLink RX10 147 yX7_shift ∈ xsGt := xs_w (xsT4 _ (List.mem_of_getElem? (i := 227) rfl)) rfl
theorem w_1052 : Cond.methodLink RL 140 yL_tint ∈ xsGt := xs_w (xsT4 _ (List.mem_of_getElem? (i := 228) rfl)) rfl
theorem w_1053 : Cond.static yL_tint ∈ xsGt := xs_w (xsT4 _ (List.mem_of_getElem? (i := 229) rfl)) rfl
theorem w_1055 : Cond.methodLink RL 31 yX10_tint ∈ xsGt := xs_w (xsT4 _ (List.mem_of_getElem? (i := 231) rfl)) rfl
theorem w_1056 : Cond.instanceMethod yX10_tint ∈ xsGt := xs_w (xsT4 _ (List.mem_of_getElem? (i := 232) rfl)) rfl
theorem w_1057 : Cond.selects yX10_tint.cls yX10_tint yX10_tint ∈ xsGt := xs_w (xsT4 _ (List.mem_of_getElem? (i := 233) rfl)) rfl
theorem w_1058 : Cond.code yX10_tint cX10_tint 4 (some .int) ∈ xsGt := xs_w (xsT4 _ (List.mem_of_getElem? (i := 234) rfl)) rfl
theorem w_1059 : Cond.methodLink RL 148 yL_undo ∈ xsGt := xs_w (xsT4 _ (List.mem_of_getElem? (i := 235) rfl)) rfl
theorem w_1060 : Cond.static yL_undo ∈ xsGt := xs_w (xsT4 _ (List.mem_of_getElem? (i := 236) rfl)) rfl
theorem w_1062 : Cond.methodLink RL 35 yX10_undo ∈ xsGt := xs_w (xsT4 _ (List.mem_of_getElem? (i := 238) rfl)) rfl
theorem w_1063 : Cond.instanceMethod yX10_undo ∈ xsGt := xs_w (xsT4 _ (List.mem_of_getElem? (i := 239) rfl)) rfl
theorem w_1064 : Cond.selects yX10_undo.cls yX10_undo yX10_undo ∈ xsGt := xs_w (xsT5 _ (List.mem_of_getElem? (i := 0) rfl)) rfl
theorem w_1065 : Cond.code yX10_undo cX10_undo 1 (some .int) ∈ xsGt := xs_w (xsT5 _ (List.mem_of_getElem? (i := 1) rfl)) rfl
theorem w_1067 : Cond.methodLink RX10 162 yX3_pop ∈ xsGt := xs_w (xsT5 _ (List.mem_of_getElem? (i := 3) rfl)) rfl
theorem w_1068 : Cond.instanceMethod yX3_pop ∈ xsGt := xs_w (xsT5 _ (List.mem_of_getElem? (i := 4) rfl)) rfl
theorem w_1069 : Cond.selects yX3_pop.cls yX3_pop yX3_pop ∈ xsGt := xs_w (xsT5 _ (List.mem_of_getElem? (i := 5) rfl)) rfl
theorem w_1070 : Cond.code yX3_pop cX3_pop 2 (some (.object "CrossingSweep$Segments")) ∈ xsGt := xs_w (xsT5 _ (List.mem_of_getElem? (i := 6) rfl)) rfl
theorem w_1071 : Cond.methodLink RL 151 yL_segment ∈ xsGt := xs_w (xsT5 _ (List.mem_of_getElem? (i := 7) rfl)) rfl
theorem w_1072 : Cond.static yL_segment ∈ xsGt := xs_w (xsT5 _ (List.mem_of_getElem? (i := 8) rfl)) rfl
theorem w_1075 : Cond.methodLink RL 38 yX10_segment ∈ xsGt := xs_w (xsT5 _ (List.mem_of_getElem? (i := 11) rfl)) rfl
theorem w_1076 : Cond.instanceMethod yX10_segment ∈ xsGt := xs_w (xsT5 _ (List.mem_of_getElem? (i := 12) rfl)) rfl
theorem w_1077 : Cond.selects yX10_segment.cls yX10_segment yX10_segment ∈ xsGt := xs_w (xsT5 _ (List.mem_of_getElem? (i := 13) rfl)) rfl
theorem w_1078 : Cond.code yX10_segment cX10_segment 3 (some .int) ∈ xsGt := xs_w (xsT5 _ (List.mem_of_getElem? (i := 14) rfl)) rfl
theorem w_1079 : Cond.methodLink RX10 178 yX7_kind ∈ xsGt := xs_w (xsT5 _ (List.mem_of_getElem? (i := 15) rfl)) rfl
theorem w_1080 : Cond.instanceMethod yX7_kind ∈ xsGt := xs_w (xsT5 _ (List.mem_of_getElem? (i := 16) rfl)) rfl
theorem w_1081 : Cond.selects yX7_kind.cls yX7_kind yX7_kind ∈ xsGt := xs_w (xsT5 _ (List.mem_of_getElem? (i := 17) rfl)) rfl
theorem w_1082 : Cond.code yX7_kind cX7_kind 2 (some .int) ∈ xsGt := xs_w (xsT5 _ (List.mem_of_getElem? (i := 18) rfl)) rfl
theorem w_1083 : Cond.methodLink RX7 47 yX7_width ∈ xsGt := xs_w (xsT5 _ (List.mem_of_getElem? (i := 19) rfl)) rfl
theorem w_1084 : Cond.methodLink RX7 51 yX7_rise ∈ xsGt := xs_w (xsT5 _ (List.mem_of_getElem? (i := 20) rfl)) rfl
theorem w_1085 : Cond.methodLink RX10 182 yX1_crossingsOn ∈ xsGt := xs_w (xsT5 _ (List.mem_of_getElem? (i := 21) rfl)) rfl
theorem w_1086 : Cond.instanceMethod yX1_crossingsOn ∈ xsGt := xs_w (xsT5 _ (List.mem_of_getElem? (i := 22) rfl)) rfl
theorem w_1087 : Cond.selects yX1_crossingsOn.cls yX1_crossingsOn yX1_crossingsOn ∈ xsGt := xs_w (xsT5 _ (List.mem_of_getElem? (i := 23) rfl)) rfl
theorem w_1088 : Cond.code yX1_crossingsOn cX1_crossingsOn 4 (some .int) ∈ xsGt := xs_w (xsT5 _ (List.mem_of_getElem? (i := 24) rfl)) rfl
theorem w_1090 : Cond.methodLink RX10 185 yX1_eventsOn ∈ xsGt := xs_w (xsT5 _ (List.mem_of_getElem? (i := 26) rfl)) rfl
theorem w_1091 : Cond.instanceMethod yX1_eventsOn ∈ xsGt := xs_w (xsT5 _ (List.mem_of_getElem? (i := 27) rfl)) rfl
theorem w_1092 : Cond.selects yX1_eventsOn.cls yX1_eventsOn yX1_eventsOn ∈ xsGt := xs_w (xsT5 _ (List.mem_of_getElem? (i := 28) rfl)) rfl
theorem w_1093 : Cond.code yX1_eventsOn cX1_eventsOn 4 (some .int) ∈ xsGt := xs_w (xsT5 _ (List.mem_of_getElem? (i := 29) rfl)) rfl
theorem w_1094 : Cond.methodLink RX10 192 yX9_part ∈ xsGt := xs_w (xsT5 _ (List.mem_of_getElem? (i := 30) rfl)) rfl
theorem w_1111 : Cond.methodLink RL 154 yL_how ∈ xsGt := xs_w (xsT5 _ (List.mem_of_getElem? (i := 47) rfl)) rfl
theorem w_1112 : Cond.static yL_how ∈ xsGt := xs_w (xsT5 _ (List.mem_of_getElem? (i := 48) rfl)) rfl
theorem w_1114 : Cond.methodLink RL 43 yX10_how ∈ xsGt := xs_w (xsT5 _ (List.mem_of_getElem? (i := 50) rfl)) rfl
theorem w_1115 : Cond.instanceMethod yX10_how ∈ xsGt := xs_w (xsT5 _ (List.mem_of_getElem? (i := 51) rfl)) rfl
theorem w_1116 : Cond.selects yX10_how.cls yX10_how yX10_how ∈ xsGt := xs_w (xsT5 _ (List.mem_of_getElem? (i := 52) rfl)) rfl
theorem w_1117 : Cond.code yX10_how cX10_how 4 (some .int) ∈ xsGt := xs_w (xsT5 _ (List.mem_of_getElem? (i := 53) rfl)) rfl
theorem w_1118 : Cond.methodLink RX10 202 yX10_checkTwo ∈ xsGt := xs_w (xsT5 _ (List.mem_of_getElem? (i := 54) rfl)) rfl
theorem w_1119 : Cond.static yX10_checkTwo ∈ xsGt := xs_w (xsT5 _ (List.mem_of_getElem? (i := 55) rfl)) rfl
theorem w_1120 : Cond.code yX10_checkTwo cX10_checkTwo 2 none ∈ xsGt := xs_w (xsT5 _ (List.mem_of_getElem? (i := 56) rfl)) rfl
theorem w_1122 : Cond.methodLink RX10 205 yX7_isSame ∈ xsGt := xs_w (xsT5 _ (List.mem_of_getElem? (i := 58) rfl)) rfl
theorem w_1123 : Cond.instanceMethod yX7_isSame ∈ xsGt := xs_w (xsT5 _ (List.mem_of_getElem? (i := 59) rfl)) rfl
theorem w_1124 : Cond.selects yX7_isSame.cls yX7_isSame yX7_isSame ∈ xsGt := xs_w (xsT5 _ (List.mem_of_getElem? (i := 60) rfl)) rfl
theorem w_1125 : Cond.code yX7_isSame cX7_isSame 3 (some .boolean) ∈ xsGt := xs_w (xsT5 _ (List.mem_of_getElem? (i := 61) rfl)) rfl
theorem w_1126 : Cond.methodLink RX10 209 yX10_encounterOf ∈ xsGt := xs_w (xsT5 _ (List.mem_of_getElem? (i := 62) rfl)) rfl
theorem w_1128 : Cond.instanceMethod yX10_encounterOf ∈ xsGt := xs_w (xsT5 _ (List.mem_of_getElem? (i := 64) rfl)) rfl
theorem w_1129 : Cond.code yX10_encounterOf cX10_encounterOf 3 (some (.object "CrossingSweep$Encounter")) ∈ xsGt := xs_w (xsT5 _ (List.mem_of_getElem? (i := 65) rfl)) rfl
theorem w_1130 : Cond.methodLink RX10 361 yX0_study ∈ xsGt := xs_w (xsT5 _ (List.mem_of_getElem? (i := 66) rfl)) rfl
theorem w_1131 : Cond.methodLink RX10 217 yX0_isAtEndOf ∈ xsGt := xs_w (xsT5 _ (List.mem_of_getElem? (i := 67) rfl)) rfl
theorem w_1132 : Cond.instanceMethod yX0_isAtEndOf ∈ xsGt := xs_w (xsT5 _ (List.mem_of_getElem? (i := 68) rfl)) rfl
theorem w_1133 : Cond.selects yX0_isAtEndOf.cls yX0_isAtEndOf yX0_isAtEndOf ∈ xsGt := xs_w (xsT5 _ (List.mem_of_getElem? (i := 69) rfl)) rfl
theorem w_1134 : Cond.code yX0_isAtEndOf cX0_isAtEndOf 3 (some .boolean) ∈ xsGt := xs_w (xsT5 _ (List.mem_of_getElem? (i := 70) rfl)) rfl
theorem w_1135 : Cond.methodLink RL 157 yL_meet ∈ xsGt := xs_w (xsT5 _ (List.mem_of_getElem? (i := 71) rfl)) rfl
theorem w_1136 : Cond.static yL_meet ∈ xsGt := xs_w (xsT5 _ (List.mem_of_getElem? (i := 72) rfl)) rfl
theorem w_1138 : Cond.methodLink RL 46 yX10_meet ∈ xsGt := xs_w (xsT5 _ (List.mem_of_getElem? (i := 74) rfl)) rfl
theorem w_1139 : Cond.instanceMethod yX10_meet ∈ xsGt := xs_w (xsT5 _ (List.mem_of_getElem? (i := 75) rfl)) rfl
theorem w_1140 : Cond.selects yX10_meet.cls yX10_meet yX10_meet ∈ xsGt := xs_w (xsT5 _ (List.mem_of_getElem? (i := 76) rfl)) rfl
theorem w_1141 : Cond.code yX10_meet cX10_meet 5 (some .long) ∈ xsGt := xs_w (xsT5 _ (List.mem_of_getElem? (i := 77) rfl)) rfl
theorem w_1142 : Cond.methodLink RX10 221 yX10_checkQuestion ∈ xsGt := xs_w (xsT5 _ (List.mem_of_getElem? (i := 78) rfl)) rfl
theorem w_1143 : Cond.static yX10_checkQuestion ∈ xsGt := xs_w (xsT5 _ (List.mem_of_getElem? (i := 79) rfl)) rfl
theorem w_1144 : Cond.code yX10_checkQuestion cX10_checkQuestion 2 none ∈ xsGt := xs_w (xsT5 _ (List.mem_of_getElem? (i := 80) rfl)) rfl
theorem w_1147 : Cond.methodLink RX10 236 yX10_partOfPoint ∈ xsGt := xs_w (xsT5 _ (List.mem_of_getElem? (i := 83) rfl)) rfl
theorem w_1148 : Cond.static yX10_partOfPoint ∈ xsGt := xs_w (xsT5 _ (List.mem_of_getElem? (i := 84) rfl)) rfl
theorem w_1149 : Cond.code yX10_partOfPoint cX10_partOfPoint 11 (some .long) ∈ xsGt := xs_w (xsT5 _ (List.mem_of_getElem? (i := 85) rfl)) rfl
theorem w_1150 : Cond.methodLink RX10 445 yX10_divisorOfBoth ∈ xsGt := xs_w (xsT5 _ (List.mem_of_getElem? (i := 86) rfl)) rfl
theorem w_1151 : Cond.static yX10_divisorOfBoth ∈ xsGt := xs_w (xsT5 _ (List.mem_of_getElem? (i := 87) rfl)) rfl
theorem w_1152 : Cond.code yX10_divisorOfBoth cX10_divisorOfBoth 11 (some .long) ∈ xsGt := xs_w (xsT5 _ (List.mem_of_getElem? (i := 88) rfl)) rfl
theorem w_1153 : Cond.methodLink RX10 449 yJ9_abs_067f4 ∈ xsGt := xs_w (xsT5 _ (List.mem_of_getElem? (i := 89) rfl)) rfl
theorem w_1154 : Cond.methodLink RL 160 yL_along ∈ xsGt := xs_w (xsT5 _ (List.mem_of_getElem? (i := 90) rfl)) rfl
theorem w_1155 : Cond.static yL_along ∈ xsGt := xs_w (xsT5 _ (List.mem_of_getElem? (i := 91) rfl)) rfl
theorem w_1157 : Cond.methodLink RL 50 yX10_along ∈ xsGt := xs_w (xsT5 _ (List.mem_of_getElem? (i := 93) rfl)) rfl
theorem w_1158 : Cond.instanceMethod yX10_along ∈ xsGt := xs_w (xsT5 _ (List.mem_of_getElem? (i := 94) rfl)) rfl
theorem w_1159 : Cond.selects yX10_along.cls yX10_along yX10_along ∈ xsGt := xs_w (xsT5 _ (List.mem_of_getElem? (i := 95) rfl)) rfl
theorem w_1160 : Cond.code yX10_along cX10_along 5 (some .int) ∈ xsGt := xs_w (xsT5 _ (List.mem_of_getElem? (i := 96) rfl)) rfl
theorem w_1162 : Cond.methodLink RL 163 yL_crossing ∈ xsGt := xs_w (xsT5 _ (List.mem_of_getElem? (i := 98) rfl)) rfl
theorem w_1163 : Cond.static yL_crossing ∈ xsGt := xs_w (xsT5 _ (List.mem_of_getElem? (i := 99) rfl)) rfl
theorem w_1165 : Cond.methodLink RL 53 yX10_crossing ∈ xsGt := xs_w (xsT5 _ (List.mem_of_getElem? (i := 101) rfl)) rfl
theorem w_1166 : Cond.instanceMethod yX10_crossing ∈ xsGt := xs_w (xsT5 _ (List.mem_of_getElem? (i := 102) rfl)) rfl
theorem w_1167 : Cond.selects yX10_crossing.cls yX10_crossing yX10_crossing ∈ xsGt := xs_w (xsT5 _ (List.mem_of_getElem? (i := 103) rfl)) rfl
theorem w_1168 : Cond.code yX10_crossing cX10_crossing 6 (some .long) ∈ xsGt := xs_w (xsT5 _ (List.mem_of_getElem? (i := 104) rfl)) rfl
theorem w_1169 : Cond.methodLink RX10 263 yJ6_bitCount_0f7a4 ∈ xsGt := xs_w (xsT5 _ (List.mem_of_getElem? (i := 105) rfl)) rfl
theorem w_1170 : Cond.methodLink RX10 268 yX7_tintsOf ∈ xsGt := xs_w (xsT5 _ (List.mem_of_getElem? (i := 106) rfl)) rfl
theorem w_1171 : Cond.instanceMethod yX7_tintsOf ∈ xsGt := xs_w (xsT5 _ (List.mem_of_getElem? (i := 107) rfl)) rfl
theorem w_1172 : Cond.selects yX7_tintsOf.cls yX7_tintsOf yX7_tintsOf ∈ xsGt := xs_w (xsT5 _ (List.mem_of_getElem? (i := 108) rfl)) rfl
theorem w_1173 : Cond.code yX7_tintsOf cX7_tintsOf 4 (some .int) ∈ xsGt := xs_w (xsT5 _ (List.mem_of_getElem? (i := 109) rfl)) rfl
theorem w_1175 : Cond.methodLink RL 166 yL_event ∈ xsGt := xs_w (xsT5 _ (List.mem_of_getElem? (i := 111) rfl)) rfl
theorem w_1176 : Cond.static yL_event ∈ xsGt := xs_w (xsT5 _ (List.mem_of_getElem? (i := 112) rfl)) rfl
theorem w_1178 : Cond.methodLink RL 57 yX10_event ∈ xsGt := xs_w (xsT5 _ (List.mem_of_getElem? (i := 114) rfl)) rfl
theorem w_1179 : Cond.instanceMethod yX10_event ∈ xsGt := xs_w (xsT5 _ (List.mem_of_getElem? (i := 115) rfl)) rfl
theorem w_1180 : Cond.selects yX10_event.cls yX10_event yX10_event ∈ xsGt := xs_w (xsT5 _ (List.mem_of_getElem? (i := 116) rfl)) rfl
theorem w_1181 : Cond.code yX10_event cX10_event 4 (some .long) ∈ xsGt := xs_w (xsT5 _ (List.mem_of_getElem? (i := 117) rfl)) rfl
theorem w_1182 : Cond.methodLink RX10 278 yX1_leftsIn ∈ xsGt := xs_w (xsT5 _ (List.mem_of_getElem? (i := 118) rfl)) rfl
theorem w_1183 : Cond.methodLink RX10 281 yX1_rightsIn ∈ xsGt := xs_w (xsT5 _ (List.mem_of_getElem? (i := 119) rfl)) rfl
theorem w_1184 : Cond.methodLink RX10 284 yX1_insidesIn ∈ xsGt := xs_w (xsT5 _ (List.mem_of_getElem? (i := 120) rfl)) rfl
theorem w_1185 : Cond.methodLink RX10 290 yX5_spread ∈ xsGt := xs_w (xsT5 _ (List.mem_of_getElem? (i := 121) rfl)) rfl
theorem w_1186 : Cond.methodLink RL 169 yL_status ∈ xsGt := xs_w (xsT5 _ (List.mem_of_getElem? (i := 122) rfl)) rfl
theorem w_1187 : Cond.static yL_status ∈ xsGt := xs_w (xsT5 _ (List.mem_of_getElem? (i := 123) rfl)) rfl
theorem w_1189 : Cond.methodLink RL 60 yX10_status ∈ xsGt := xs_w (xsT5 _ (List.mem_of_getElem? (i := 125) rfl)) rfl
theorem w_1190 : Cond.instanceMethod yX10_status ∈ xsGt := xs_w (xsT5 _ (List.mem_of_getElem? (i := 126) rfl)) rfl
theorem w_1191 : Cond.selects yX10_status.cls yX10_status yX10_status ∈ xsGt := xs_w (xsT5 _ (List.mem_of_getElem? (i := 127) rfl)) rfl
theorem w_1192 : Cond.code yX10_status cX10_status 6 (some .int) ∈ xsGt := xs_w (xsT5 _ (List.mem_of_getElem? (i := 128) rfl)) rfl
theorem w_1193 : Cond.methodLink RX10 302 yX1_aliveBehind ∈ xsGt := xs_w (xsT5 _ (List.mem_of_getElem? (i := 129) rfl)) rfl
theorem w_1194 : Cond.methodLink RX10 305 yX10_has ∈ xsGt := xs_w (xsT5 _ (List.mem_of_getElem? (i := 130) rfl)) rfl
theorem w_1195 : Cond.methodLink RX10 308 yX8_rankOf ∈ xsGt := xs_w (xsT5 _ (List.mem_of_getElem? (i := 131) rfl)) rfl
theorem w_1196 : Cond.static yX8_rankOf ∈ xsGt := xs_w (xsT5 _ (List.mem_of_getElem? (i := 132) rfl)) rfl
theorem w_1197 : Cond.code yX8_rankOf cX8_rankOf 7 (some .int) ∈ xsGt := xs_w (xsT5 _ (List.mem_of_getElem? (i := 133) rfl)) rfl
theorem w_1198 : Cond.methodLink RL 172 yL_rank ∈ xsGt := xs_w (xsT5 _ (List.mem_of_getElem? (i := 134) rfl)) rfl
theorem w_1199 : Cond.static yL_rank ∈ xsGt := xs_w (xsT5 _ (List.mem_of_getElem? (i := 135) rfl)) rfl
theorem w_1201 : Cond.methodLink RL 63 yX10_rank ∈ xsGt := xs_w (xsT5 _ (List.mem_of_getElem? (i := 137) rfl)) rfl
theorem w_1202 : Cond.instanceMethod yX10_rank ∈ xsGt := xs_w (xsT5 _ (List.mem_of_getElem? (i := 138) rfl)) rfl
theorem w_1203 : Cond.selects yX10_rank.cls yX10_rank yX10_rank ∈ xsGt := xs_w (xsT5 _ (List.mem_of_getElem? (i := 139) rfl)) rfl
theorem w_1204 : Cond.code yX10_rank cX10_rank 4 (some .int) ∈ xsGt := xs_w (xsT5 _ (List.mem_of_getElem? (i := 140) rfl)) rfl
theorem w_1205 : Cond.methodLink RL 175 yL_road ∈ xsGt := xs_w (xsT5 _ (List.mem_of_getElem? (i := 141) rfl)) rfl
theorem w_1206 : Cond.static yL_road ∈ xsGt := xs_w (xsT5 _ (List.mem_of_getElem? (i := 142) rfl)) rfl
theorem w_1208 : Cond.methodLink RL 66 yX10_road ∈ xsGt := xs_w (xsT5 _ (List.mem_of_getElem? (i := 144) rfl)) rfl
theorem w_1209 : Cond.instanceMethod yX10_road ∈ xsGt := xs_w (xsT5 _ (List.mem_of_getElem? (i := 145) rfl)) rfl
theorem w_1210 : Cond.selects yX10_road.cls yX10_road yX10_road ∈ xsGt := xs_w (xsT5 _ (List.mem_of_getElem? (i := 146) rfl)) rfl
theorem w_1211 : Cond.code yX10_road cX10_road 4 (some .int) ∈ xsGt := xs_w (xsT5 _ (List.mem_of_getElem? (i := 147) rfl)) rfl
theorem w_1212 : Cond.methodLink RX10 314 yX2_distance ∈ xsGt := xs_w (xsT5 _ (List.mem_of_getElem? (i := 148) rfl)) rfl
theorem w_1213 : Cond.instanceMethod yX2_distance ∈ xsGt := xs_w (xsT5 _ (List.mem_of_getElem? (i := 149) rfl)) rfl
theorem w_1214 : Cond.selects yX2_distance.cls yX2_distance yX2_distance ∈ xsGt := xs_w (xsT5 _ (List.mem_of_getElem? (i := 150) rfl)) rfl
theorem w_1215 : Cond.code yX2_distance cX2_distance 5 (some .int) ∈ xsGt := xs_w (xsT5 _ (List.mem_of_getElem? (i := 151) rfl)) rfl
theorem w_1216 : Cond.methodLink RX2 50 yX2_reach ∈ xsGt := xs_w (xsT5 _ (List.mem_of_getElem? (i := 152) rfl)) rfl
theorem w_1218 : Cond.instanceMethod yX2_reach ∈ xsGt := xs_w (xsT5 _ (List.mem_of_getElem? (i := 154) rfl)) rfl
theorem w_1219 : Cond.code yX2_reach cX2_reach 3 none ∈ xsGt := xs_w (xsT5 _ (List.mem_of_getElem? (i := 155) rfl)) rfl
theorem w_1220 : Cond.methodLink RX2 54 yX2_reachAround ∈ xsGt := xs_w (xsT5 _ (List.mem_of_getElem? (i := 156) rfl)) rfl
theorem w_1222 : Cond.instanceMethod yX2_reachAround ∈ xsGt := xs_w (xsT5 _ (List.mem_of_getElem? (i := 158) rfl)) rfl
theorem w_1223 : Cond.code yX2_reachAround cX2_reachAround 6 none ∈ xsGt := xs_w (xsT5 _ (List.mem_of_getElem? (i := 159) rfl)) rfl
theorem w_1224 : Cond.methodLink RL 182 yL_tied ∈ xsGt := xs_w (xsT5 _ (List.mem_of_getElem? (i := 160) rfl)) rfl
theorem w_1225 : Cond.static yL_tied ∈ xsGt := xs_w (xsT5 _ (List.mem_of_getElem? (i := 161) rfl)) rfl
theorem w_1227 : Cond.methodLink RL 69 yX10_tied ∈ xsGt := xs_w (xsT5 _ (List.mem_of_getElem? (i := 163) rfl)) rfl
theorem w_1228 : Cond.instanceMethod yX10_tied ∈ xsGt := xs_w (xsT5 _ (List.mem_of_getElem? (i := 164) rfl)) rfl
theorem w_1229 : Cond.selects yX10_tied.cls yX10_tied yX10_tied ∈ xsGt := xs_w (xsT5 _ (List.mem_of_getElem? (i := 165) rfl)) rfl
theorem w_1230 : Cond.code yX10_tied cX10_tied 2 (some .int) ∈ xsGt := xs_w (xsT5 _ (List.mem_of_getElem? (i := 166) rfl)) rfl
theorem w_1231 : Cond.methodLink RL 185 yL_steps ∈ xsGt := xs_w (xsT5 _ (List.mem_of_getElem? (i := 167) rfl)) rfl
theorem w_1232 : Cond.static yL_steps ∈ xsGt := xs_w (xsT5 _ (List.mem_of_getElem? (i := 168) rfl)) rfl
theorem w_1234 : Cond.methodLink RL 72 yX10_steps ∈ xsGt := xs_w (xsT5 _ (List.mem_of_getElem? (i := 170) rfl)) rfl
theorem w_1235 : Cond.instanceMethod yX10_steps ∈ xsGt := xs_w (xsT5 _ (List.mem_of_getElem? (i := 171) rfl)) rfl
theorem w_1236 : Cond.selects yX10_steps.cls yX10_steps yX10_steps ∈ xsGt := xs_w (xsT5 _ (List.mem_of_getElem? (i := 172) rfl)) rfl
theorem w_1237 : Cond.code yX10_steps cX10_steps 3 (some .int) ∈ xsGt := xs_w (xsT5 _ (List.mem_of_getElem? (i := 173) rfl)) rfl
theorem w_1238 : Cond.methodLink RX10 328 yX9_distance ∈ xsGt := xs_w (xsT5 _ (List.mem_of_getElem? (i := 174) rfl)) rfl
theorem w_1239 : Cond.instanceMethod yX9_distance ∈ xsGt := xs_w (xsT5 _ (List.mem_of_getElem? (i := 175) rfl)) rfl
theorem w_1240 : Cond.selects yX9_distance.cls yX9_distance yX9_distance ∈ xsGt := xs_w (xsT5 _ (List.mem_of_getElem? (i := 176) rfl)) rfl
theorem w_1241 : Cond.code yX9_distance cX9_distance 5 (some .int) ∈ xsGt := xs_w (xsT5 _ (List.mem_of_getElem? (i := 177) rfl)) rfl
theorem w_1242 : Cond.methodLink RL 188 yL_hull ∈ xsGt := xs_w (xsT5 _ (List.mem_of_getElem? (i := 178) rfl)) rfl
theorem w_1243 : Cond.static yL_hull ∈ xsGt := xs_w (xsT5 _ (List.mem_of_getElem? (i := 179) rfl)) rfl
theorem w_1245 : Cond.methodLink RL 75 yX10_hull ∈ xsGt := xs_w (xsT5 _ (List.mem_of_getElem? (i := 181) rfl)) rfl
theorem w_1246 : Cond.instanceMethod yX10_hull ∈ xsGt := xs_w (xsT5 _ (List.mem_of_getElem? (i := 182) rfl)) rfl
theorem w_1247 : Cond.selects yX10_hull.cls yX10_hull yX10_hull ∈ xsGt := xs_w (xsT5 _ (List.mem_of_getElem? (i := 183) rfl)) rfl
theorem w_1248 : Cond.code yX10_hull cX10_hull 3 (some .int) ∈ xsGt := xs_w (xsT5 _ (List.mem_of_getElem? (i := 184) rfl)) rfl
theorem w_1249 : Cond.methodLink RL 192 yL_on ∈ xsGt := xs_w (xsT5 _ (List.mem_of_getElem? (i := 185) rfl)) rfl
theorem w_1250 : Cond.static yL_on ∈ xsGt := xs_w (xsT5 _ (List.mem_of_getElem? (i := 186) rfl)) rfl
theorem w_1252 : Cond.methodLink RL 79 yX10_on ∈ xsGt := xs_w (xsT5 _ (List.mem_of_getElem? (i := 188) rfl)) rfl
theorem w_1253 : Cond.instanceMethod yX10_on ∈ xsGt := xs_w (xsT5 _ (List.mem_of_getElem? (i := 189) rfl)) rfl
theorem w_1254 : Cond.selects yX10_on.cls yX10_on yX10_on ∈ xsGt := xs_w (xsT5 _ (List.mem_of_getElem? (i := 190) rfl)) rfl
theorem w_1255 : Cond.code yX10_on cX10_on 6 (some .int) ∈ xsGt := xs_w (xsT5 _ (List.mem_of_getElem? (i := 191) rfl)) rfl
theorem w_1256 : Cond.methodLink RL 195 yL_at ∈ xsGt := xs_w (xsT5 _ (List.mem_of_getElem? (i := 192) rfl)) rfl
theorem w_1257 : Cond.static yL_at ∈ xsGt := xs_w (xsT5 _ (List.mem_of_getElem? (i := 193) rfl)) rfl
theorem w_1259 : Cond.methodLink RL 82 yX10_at ∈ xsGt := xs_w (xsT5 _ (List.mem_of_getElem? (i := 195) rfl)) rfl
theorem w_1260 : Cond.instanceMethod yX10_at ∈ xsGt := xs_w (xsT5 _ (List.mem_of_getElem? (i := 196) rfl)) rfl
theorem w_1261 : Cond.selects yX10_at.cls yX10_at yX10_at ∈ xsGt := xs_w (xsT5 _ (List.mem_of_getElem? (i := 197) rfl)) rfl
theorem w_1262 : Cond.code yX10_at cX10_at 5 (some .int) ∈ xsGt := xs_w (xsT5 _ (List.mem_of_getElem? (i := 198) rfl)) rfl
theorem w_1263 : Cond.methodLink RX10 339 yX7_hasPoint ∈ xsGt := xs_w (xsT5 _ (List.mem_of_getElem? (i := 199) rfl)) rfl
theorem w_1264 : Cond.instanceMethod yX7_hasPoint ∈ xsGt := xs_w (xsT5 _ (List.mem_of_getElem? (i := 200) rfl)) rfl
theorem w_1265 : Cond.selects yX7_hasPoint.cls yX7_hasPoint yX7_hasPoint ∈ xsGt := xs_w (xsT5 _ (List.mem_of_getElem? (i := 201) rfl)) rfl
theorem w_1266 : Cond.code yX7_hasPoint cX7_hasPoint 4 (some .boolean) ∈ xsGt := xs_w (xsT5 _ (List.mem_of_getElem? (i := 202) rfl)) rfl
theorem w_1267 : Cond.methodLink RX7 54 yX7_spansX ∈ xsGt := xs_w (xsT5 _ (List.mem_of_getElem? (i := 203) rfl)) rfl
theorem w_1268 : Cond.instanceMethod yX7_spansX ∈ xsGt := xs_w (xsT5 _ (List.mem_of_getElem? (i := 204) rfl)) rfl
theorem w_1269 : Cond.selects yX7_spansX.cls yX7_spansX yX7_spansX ∈ xsGt := xs_w (xsT5 _ (List.mem_of_getElem? (i := 205) rfl)) rfl
theorem w_1270 : Cond.code yX7_spansX cX7_spansX 3 (some .boolean) ∈ xsGt := xs_w (xsT5 _ (List.mem_of_getElem? (i := 206) rfl)) rfl
theorem w_1271 : Cond.methodLink RX7 58 yX7_gapAbove ∈ xsGt := xs_w (xsT5 _ (List.mem_of_getElem? (i := 207) rfl)) rfl
theorem w_1272 : Cond.instanceMethod yX7_gapAbove ∈ xsGt := xs_w (xsT5 _ (List.mem_of_getElem? (i := 208) rfl)) rfl
theorem w_1273 : Cond.selects yX7_gapAbove.cls yX7_gapAbove yX7_gapAbove ∈ xsGt := xs_w (xsT5 _ (List.mem_of_getElem? (i := 209) rfl)) rfl
theorem w_1274 : Cond.code yX7_gapAbove cX7_gapAbove 4 (some .long) ∈ xsGt := xs_w (xsT5 _ (List.mem_of_getElem? (i := 210) rfl)) rfl
theorem w_1275 : Cond.methodLink RL 198 yL_next ∈ xsGt := xs_w (xsT5 _ (List.mem_of_getElem? (i := 211) rfl)) rfl
theorem w_1276 : Cond.static yL_next ∈ xsGt := xs_w (xsT5 _ (List.mem_of_getElem? (i := 212) rfl)) rfl
theorem w_1278 : Cond.methodLink RL 85 yX10_next ∈ xsGt := xs_w (xsT5 _ (List.mem_of_getElem? (i := 214) rfl)) rfl
theorem w_1279 : Cond.instanceMethod yX10_next ∈ xsGt := xs_w (xsT5 _ (List.mem_of_getElem? (i := 215) rfl)) rfl
theorem w_1280 : Cond.selects yX10_next.cls yX10_next yX10_next ∈ xsGt := xs_w (xsT5 _ (List.mem_of_getElem? (i := 216) rfl)) rfl
theorem w_1281 : Cond.code yX10_next cX10_next 14 (some .int) ∈ xsGt := xs_w (xsT5 _ (List.mem_of_getElem? (i := 217) rfl)) rfl
theorem w_1282 : Cond.methodLink RX10 343 yX7_spansX ∈ xsGt := xs_w (xsT5 _ (List.mem_of_getElem? (i := 218) rfl)) rfl
theorem w_1283 : Cond.methodLink RX10 346 yX7_gapAbove ∈ xsGt := xs_w (xsT5 _ (List.mem_of_getElem? (i := 219) rfl)) rfl
theorem w_1284 : Cond.methodLink RX10 350 yX7_partsOfGap ∈ xsGt := xs_w (xsT5 _ (List.mem_of_getElem? (i := 220) rfl)) rfl
theorem w_1285 : Cond.instanceMethod yX7_partsOfGap ∈ xsGt := xs_w (xsT5 _ (List.mem_of_getElem? (i := 221) rfl)) rfl
theorem w_1286 : Cond.selects yX7_partsOfGap.cls yX7_partsOfGap yX7_partsOfGap ∈ xsGt := xs_w (xsT5 _ (List.mem_of_getElem? (i := 222) rfl)) rfl
theorem w_1287 : Cond.code yX7_partsOfGap cX7_partsOfGap 2 (some .long) ∈ xsGt := xs_w (xsT5 _ (List.mem_of_getElem? (i := 223) rfl)) rfl
theorem w_1288 : Cond.methodLink RL 202 yL_over ∈ xsGt := xs_w (xsT5 _ (List.mem_of_getElem? (i := 224) rfl)) rfl
theorem w_1289 : Cond.static yL_over ∈ xsGt := xs_w (xsT5 _ (List.mem_of_getElem? (i := 225) rfl)) rfl
theorem w_1291 : Cond.methodLink RL 89 yX10_over ∈ xsGt := xs_w (xsT5 _ (List.mem_of_getElem? (i := 227) rfl)) rfl
theorem w_1292 : Cond.instanceMethod yX10_over ∈ xsGt := xs_w (xsT5 _ (List.mem_of_getElem? (i := 228) rfl)) rfl
theorem w_1293 : Cond.selects yX10_over.cls yX10_over yX10_over ∈ xsGt := xs_w (xsT5 _ (List.mem_of_getElem? (i := 229) rfl)) rfl
theorem w_1294 : Cond.code yX10_over cX10_over 6 (some .int) ∈ xsGt := xs_w (xsT5 _ (List.mem_of_getElem? (i := 230) rfl)) rfl
theorem w_1295 : Cond.methodLink RL 205 yL_sight ∈ xsGt := xs_w (xsT5 _ (List.mem_of_getElem? (i := 231) rfl)) rfl
theorem w_1296 : Cond.static yL_sight ∈ xsGt := xs_w (xsT5 _ (List.mem_of_getElem? (i := 232) rfl)) rfl
theorem w_1298 : Cond.methodLink RL 92 yX10_sight ∈ xsGt := xs_w (xsT5 _ (List.mem_of_getElem? (i := 234) rfl)) rfl
theorem w_1299 : Cond.instanceMethod yX10_sight ∈ xsGt := xs_w (xsT5 _ (List.mem_of_getElem? (i := 235) rfl)) rfl
theorem w_1300 : Cond.selects yX10_sight.cls yX10_sight yX10_sight ∈ xsGt := xs_w (xsT5 _ (List.mem_of_getElem? (i := 236) rfl)) rfl
theorem w_1301 : Cond.code yX10_sight cX10_sight 14 (some .int) ∈ xsGt := xs_w (xsT5 _ (List.mem_of_getElem? (i := 237) rfl)) rfl
theorem w_1302 : Cond.methodLink RX10 354 yX7_put ∈ xsGt := xs_w (xsT5 _ (List.mem_of_getElem? (i := 238) rfl)) rfl
theorem w_1303 : Cond.methodLink RX10 365 yX0_wayFrom ∈ xsGt := xs_w (xsT5 _ (List.mem_of_getElem? (i := 239) rfl)) rfl
theorem w_1304 : Cond.instanceMethod yX0_wayFrom ∈ xsGt := xs_w (xsT6 _ (List.mem_of_getElem? (i := 0) rfl)) rfl
theorem w_1305 : Cond.selects yX0_wayFrom.cls yX0_wayFrom yX0_wayFrom ∈ xsGt := xs_w (xsT6 _ (List.mem_of_getElem? (i := 1) rfl)) rfl
theorem w_1306 : Cond.code yX0_wayFrom cX0_wayFrom 7 (some .long) ∈ xsGt := xs_w (xsT6 _ (List.mem_of_getElem? (i := 2) rfl)) rfl
theorem w_1307 : Cond.methodLink RX0 61 yJ9_abs_067f4 ∈ xsGt := xs_w (xsT6 _ (List.mem_of_getElem? (i := 3) rfl)) rfl
theorem w_1308 : Cond.methodLink RX0 67 yJ9_abs_0f7a4 ∈ xsGt := xs_w (xsT6 _ (List.mem_of_getElem? (i := 4) rfl)) rfl
theorem w_1309 : Cond.static yJ9_abs_0f7a4 ∈ xsGt := xs_w (xsT6 _ (List.mem_of_getElem? (i := 5) rfl)) rfl
theorem w_1310 : Cond.code yJ9_abs_0f7a4 cJ9_abs_0f7a4 1 (some .int) ∈ xsGt := xs_w (xsT6 _ (List.mem_of_getElem? (i := 6) rfl)) rfl
theorem w_1311 : Cond.methodLink RX0 70 yJ9_min_f86c9 ∈ xsGt := xs_w (xsT6 _ (List.mem_of_getElem? (i := 7) rfl)) rfl
theorem w_1312 : Cond.static yJ9_min_f86c9 ∈ xsGt := xs_w (xsT6 _ (List.mem_of_getElem? (i := 8) rfl)) rfl
theorem w_1313 : Cond.code yJ9_min_f86c9 cJ9_min_f86c9 4 (some .long) ∈ xsGt := xs_w (xsT6 _ (List.mem_of_getElem? (i := 9) rfl)) rfl
theorem w_1314 : Cond.methodLink RL 209 yL_box ∈ xsGt := xs_w (xsT6 _ (List.mem_of_getElem? (i := 10) rfl)) rfl
theorem w_1315 : Cond.static yL_box ∈ xsGt := xs_w (xsT6 _ (List.mem_of_getElem? (i := 11) rfl)) rfl
theorem w_1317 : Cond.methodLink RL 96 yX10_box ∈ xsGt := xs_w (xsT6 _ (List.mem_of_getElem? (i := 13) rfl)) rfl
theorem w_1318 : Cond.instanceMethod yX10_box ∈ xsGt := xs_w (xsT6 _ (List.mem_of_getElem? (i := 14) rfl)) rfl
theorem w_1319 : Cond.selects yX10_box.cls yX10_box yX10_box ∈ xsGt := xs_w (xsT6 _ (List.mem_of_getElem? (i := 15) rfl)) rfl
theorem w_1320 : Cond.code yX10_box cX10_box 7 (some .int) ∈ xsGt := xs_w (xsT6 _ (List.mem_of_getElem? (i := 16) rfl)) rfl
theorem w_1322 : Cond.methodLink RX10 371 yX7_comesInto ∈ xsGt := xs_w (xsT6 _ (List.mem_of_getElem? (i := 18) rfl)) rfl
theorem w_1323 : Cond.instanceMethod yX7_comesInto ∈ xsGt := xs_w (xsT6 _ (List.mem_of_getElem? (i := 19) rfl)) rfl
theorem w_1324 : Cond.selects yX7_comesInto.cls yX7_comesInto yX7_comesInto ∈ xsGt := xs_w (xsT6 _ (List.mem_of_getElem? (i := 20) rfl)) rfl
theorem w_1325 : Cond.code yX7_comesInto cX7_comesInto 17 (some .boolean) ∈ xsGt := xs_w (xsT6 _ (List.mem_of_getElem? (i := 21) rfl)) rfl
theorem w_1326 : Cond.methodLink RX7 62 yJ9_min_7cf53 ∈ xsGt := xs_w (xsT6 _ (List.mem_of_getElem? (i := 22) rfl)) rfl
theorem w_1327 : Cond.methodLink RX7 68 yJ9_max_7cf53 ∈ xsGt := xs_w (xsT6 _ (List.mem_of_getElem? (i := 23) rfl)) rfl
theorem w_1328 : Cond.methodLink RX7 71 yX7_sideOf ∈ xsGt := xs_w (xsT6 _ (List.mem_of_getElem? (i := 24) rfl)) rfl
theorem w_1330 : Cond.instanceMethod yX7_sideOf ∈ xsGt := xs_w (xsT6 _ (List.mem_of_getElem? (i := 26) rfl)) rfl
theorem w_1331 : Cond.code yX7_sideOf cX7_sideOf 4 (some .long) ∈ xsGt := xs_w (xsT6 _ (List.mem_of_getElem? (i := 27) rfl)) rfl
theorem w_1332 : Cond.methodLink RL 212 yL_tinted ∈ xsGt := xs_w (xsT6 _ (List.mem_of_getElem? (i := 28) rfl)) rfl
theorem w_1333 : Cond.static yL_tinted ∈ xsGt := xs_w (xsT6 _ (List.mem_of_getElem? (i := 29) rfl)) rfl
theorem w_1335 : Cond.methodLink RL 99 yX10_tinted ∈ xsGt := xs_w (xsT6 _ (List.mem_of_getElem? (i := 31) rfl)) rfl
theorem w_1336 : Cond.instanceMethod yX10_tinted ∈ xsGt := xs_w (xsT6 _ (List.mem_of_getElem? (i := 32) rfl)) rfl
theorem w_1337 : Cond.selects yX10_tinted.cls yX10_tinted yX10_tinted ∈ xsGt := xs_w (xsT6 _ (List.mem_of_getElem? (i := 33) rfl)) rfl
theorem w_1338 : Cond.code yX10_tinted cX10_tinted 10 (some .int) ∈ xsGt := xs_w (xsT6 _ (List.mem_of_getElem? (i := 34) rfl)) rfl
theorem w_1339 : Cond.methodLink RX10 375 yX7_ofTint ∈ xsGt := xs_w (xsT6 _ (List.mem_of_getElem? (i := 35) rfl)) rfl
theorem w_1340 : Cond.instanceMethod yX7_ofTint ∈ xsGt := xs_w (xsT6 _ (List.mem_of_getElem? (i := 36) rfl)) rfl
theorem w_1341 : Cond.selects yX7_ofTint.cls yX7_ofTint yX7_ofTint ∈ xsGt := xs_w (xsT6 _ (List.mem_of_getElem? (i := 37) rfl)) rfl
theorem w_1342 : Cond.code yX7_ofTint cX7_ofTint 4 (some .int) ∈ xsGt := xs_w (xsT6 _ (List.mem_of_getElem? (i := 38) rfl)) rfl
theorem w_1343 : Cond.methodLink RL 121 yX11_thrown ∈ xsGt := xs_w (xsT6 _ (List.mem_of_getElem? (i := 39) rfl)) rfl
theorem w_1344 : Cond.instanceMethod yX11_thrown ∈ xsGt := xs_w (xsT6 _ (List.mem_of_getElem? (i := 40) rfl)) rfl
theorem w_1345 : Cond.selects yX11_thrown.cls yX11_thrown yX11_thrown ∈ xsGt := xs_w (xsT6 _ (List.mem_of_getElem? (i := 41) rfl)) rfl
theorem w_1346 : Cond.code yX11_thrown cX11_thrown 1 (some .int) ∈ xsGt := xs_w (xsT6 _ (List.mem_of_getElem? (i := 42) rfl)) rfl
theorem w_1349 : Cond.methodLink RL 105 yX11_init ∈ xsGt := xs_w (xsT6 _ (List.mem_of_getElem? (i := 45) rfl)) rfl
theorem w_1350 : Cond.instanceMethod yX11_init ∈ xsGt := xs_w (xsT6 _ (List.mem_of_getElem? (i := 46) rfl)) rfl
theorem w_1351 : Cond.code yX11_init cX11_init 1 none ∈ xsGt := xs_w (xsT6 _ (List.mem_of_getElem? (i := 47) rfl)) rfl
theorem w_1353 : Cond.fieldLink RX11 3 (TX11 0).1 (TX11 0).2.1 (TX11 0).2.2.1 ∈ xsGt := xs_w (xsT6 _ (List.mem_of_getElem? (i := 49) rfl)) rfl
theorem w_1354 : Cond.fieldLink RX11 13 (TX11 1).1 (TX11 1).2.1 (TX11 1).2.2.1 ∈ xsGt := xs_w (xsT6 _ (List.mem_of_getElem? (i := 50) rfl)) rfl
theorem w_1355 : Cond.fieldLink RX11 17 (TX11 2).1 (TX11 2).2.1 (TX11 2).2.2.1 ∈ xsGt := xs_w (xsT6 _ (List.mem_of_getElem? (i := 51) rfl)) rfl
theorem w_1356 : Cond.fieldLink RX11 20 (TX11 3).1 (TX11 3).2.1 (TX11 3).2.2.1 ∈ xsGt := xs_w (xsT6 _ (List.mem_of_getElem? (i := 52) rfl)) rfl
theorem w_1357 : Cond.fieldLink RX11 23 (TX11 4).1 (TX11 4).2.1 (TX11 4).2.2.1 ∈ xsGt := xs_w (xsT6 _ (List.mem_of_getElem? (i := 53) rfl)) rfl
theorem w_1358 : Cond.fieldLink RX11 113 (TX11 5).1 (TX11 5).2.1 (TX11 5).2.2.1 ∈ xsGt := xs_w (xsT6 _ (List.mem_of_getElem? (i := 54) rfl)) rfl
theorem w_1359 : Cond.fieldLink RX11 124 (TX11 6).1 (TX11 6).2.1 (TX11 6).2.2.1 ∈ xsGt := xs_w (xsT6 _ (List.mem_of_getElem? (i := 55) rfl)) rfl
theorem w_1360 : Cond.fieldLink RX11 109 (TX11 7).1 (TX11 7).2.1 (TX11 7).2.2.1 ∈ xsGt := xs_w (xsT6 _ (List.mem_of_getElem? (i := 56) rfl)) rfl
theorem w_1361 : Cond.fieldLink RX11 26 (TX11 8).1 (TX11 8).2.1 (TX11 8).2.2.1 ∈ xsGt := xs_w (xsT6 _ (List.mem_of_getElem? (i := 57) rfl)) rfl
theorem w_1362 : Cond.fieldLink RX11 29 (TX11 9).1 (TX11 9).2.1 (TX11 9).2.2.1 ∈ xsGt := xs_w (xsT6 _ (List.mem_of_getElem? (i := 58) rfl)) rfl
theorem w_1363 : Cond.fieldLink RX11 32 (TX11 10).1 (TX11 10).2.1 (TX11 10).2.2.1 ∈ xsGt := xs_w (xsT6 _ (List.mem_of_getElem? (i := 59) rfl)) rfl
theorem w_1364 : Cond.fieldLink RX11 147 (TX11 11).1 (TX11 11).2.1 (TX11 11).2.2.1 ∈ xsGt := xs_w (xsT6 _ (List.mem_of_getElem? (i := 60) rfl)) rfl
theorem w_1365 : Cond.fieldLink RX11 151 (TX11 12).1 (TX11 12).2.1 (TX11 12).2.2.1 ∈ xsGt := xs_w (xsT6 _ (List.mem_of_getElem? (i := 61) rfl)) rfl
theorem w_1366 : Cond.fieldLink RX11 154 (TX11 13).1 (TX11 13).2.1 (TX11 13).2.2.1 ∈ xsGt := xs_w (xsT6 _ (List.mem_of_getElem? (i := 62) rfl)) rfl
theorem w_1367 : Cond.fieldLink RX11 35 (TX11 14).1 (TX11 14).2.1 (TX11 14).2.2.1 ∈ xsGt := xs_w (xsT6 _ (List.mem_of_getElem? (i := 63) rfl)) rfl
theorem w_1368 : Cond.fieldLink RX11 39 (TX11 15).1 (TX11 15).2.1 (TX11 15).2.2.1 ∈ xsGt := xs_w (xsT6 _ (List.mem_of_getElem? (i := 64) rfl)) rfl
theorem w_1369 : Cond.fieldLink RX11 42 (TX11 16).1 (TX11 16).2.1 (TX11 16).2.2.1 ∈ xsGt := xs_w (xsT6 _ (List.mem_of_getElem? (i := 65) rfl)) rfl
theorem w_1370 : Cond.fieldLink RX11 193 (TX11 17).1 (TX11 17).2.1 (TX11 17).2.2.1 ∈ xsGt := xs_w (xsT6 _ (List.mem_of_getElem? (i := 66) rfl)) rfl
theorem w_1371 : Cond.fieldLink RX11 45 (TX11 18).1 (TX11 18).2.1 (TX11 18).2.2.1 ∈ xsGt := xs_w (xsT6 _ (List.mem_of_getElem? (i := 67) rfl)) rfl
theorem w_1372 : Cond.fieldLink RX11 48 (TX11 19).1 (TX11 19).2.1 (TX11 19).2.2.1 ∈ xsGt := xs_w (xsT6 _ (List.mem_of_getElem? (i := 68) rfl)) rfl
theorem w_1373 : Cond.fieldLink RX11 51 (TX11 20).1 (TX11 20).2.1 (TX11 20).2.2.1 ∈ xsGt := xs_w (xsT6 _ (List.mem_of_getElem? (i := 69) rfl)) rfl
theorem w_1374 : Cond.fieldLink RX11 54 (TX11 21).1 (TX11 21).2.1 (TX11 21).2.2.1 ∈ xsGt := xs_w (xsT6 _ (List.mem_of_getElem? (i := 70) rfl)) rfl
theorem w_1375 : Cond.fieldLink RX11 57 (TX11 22).1 (TX11 22).2.1 (TX11 22).2.2.1 ∈ xsGt := xs_w (xsT6 _ (List.mem_of_getElem? (i := 71) rfl)) rfl
theorem w_1376 : Cond.fieldLink RX11 60 (TX11 23).1 (TX11 23).2.1 (TX11 23).2.2.1 ∈ xsGt := xs_w (xsT6 _ (List.mem_of_getElem? (i := 72) rfl)) rfl
theorem w_1377 : Cond.fieldLink RX11 206 (TX11 24).1 (TX11 24).2.1 (TX11 24).2.2.1 ∈ xsGt := xs_w (xsT6 _ (List.mem_of_getElem? (i := 73) rfl)) rfl
theorem w_1378 : Cond.fieldLink RX11 213 (TX11 25).1 (TX11 25).2.1 (TX11 25).2.2.1 ∈ xsGt := xs_w (xsT6 _ (List.mem_of_getElem? (i := 74) rfl)) rfl
theorem w_1379 : Cond.fieldLink RX11 63 (TX11 26).1 (TX11 26).2.1 (TX11 26).2.2.1 ∈ xsGt := xs_w (xsT6 _ (List.mem_of_getElem? (i := 75) rfl)) rfl
theorem w_1380 : Cond.fieldLink RX11 66 (TX11 27).1 (TX11 27).2.1 (TX11 27).2.2.1 ∈ xsGt := xs_w (xsT6 _ (List.mem_of_getElem? (i := 76) rfl)) rfl
theorem w_1381 : Cond.fieldLink RX11 69 (TX11 28).1 (TX11 28).2.1 (TX11 28).2.2.1 ∈ xsGt := xs_w (xsT6 _ (List.mem_of_getElem? (i := 77) rfl)) rfl
theorem w_1382 : Cond.fieldLink RX11 72 (TX11 29).1 (TX11 29).2.1 (TX11 29).2.2.1 ∈ xsGt := xs_w (xsT6 _ (List.mem_of_getElem? (i := 78) rfl)) rfl
theorem w_1383 : Cond.fieldLink RX11 244 (TX11 30).1 (TX11 30).2.1 (TX11 30).2.2.1 ∈ xsGt := xs_w (xsT6 _ (List.mem_of_getElem? (i := 79) rfl)) rfl
theorem w_1384 : Cond.fieldLink RX11 247 (TX11 31).1 (TX11 31).2.1 (TX11 31).2.2.1 ∈ xsGt := xs_w (xsT6 _ (List.mem_of_getElem? (i := 80) rfl)) rfl
theorem w_1385 : Cond.fieldLink RX11 250 (TX11 32).1 (TX11 32).2.1 (TX11 32).2.2.1 ∈ xsGt := xs_w (xsT6 _ (List.mem_of_getElem? (i := 81) rfl)) rfl
theorem w_1386 : Cond.fieldLink RX11 256 (TX11 33).1 (TX11 33).2.1 (TX11 33).2.2.1 ∈ xsGt := xs_w (xsT6 _ (List.mem_of_getElem? (i := 82) rfl)) rfl
theorem w_1387 : Cond.fieldLink RX11 76 (TX11 34).1 (TX11 34).2.1 (TX11 34).2.2.1 ∈ xsGt := xs_w (xsT6 _ (List.mem_of_getElem? (i := 83) rfl)) rfl
theorem w_1388 : Cond.fieldLink RX11 79 (TX11 35).1 (TX11 35).2.1 (TX11 35).2.2.1 ∈ xsGt := xs_w (xsT6 _ (List.mem_of_getElem? (i := 84) rfl)) rfl
theorem w_1389 : Cond.fieldLink RX11 82 (TX11 36).1 (TX11 36).2.1 (TX11 36).2.2.1 ∈ xsGt := xs_w (xsT6 _ (List.mem_of_getElem? (i := 85) rfl)) rfl
theorem w_1390 : Cond.fieldLink RX11 325 (TX11 37).1 (TX11 37).2.1 (TX11 37).2.2.1 ∈ xsGt := xs_w (xsT6 _ (List.mem_of_getElem? (i := 86) rfl)) rfl
theorem w_1391 : Cond.fieldLink RX11 85 (TX11 38).1 (TX11 38).2.1 (TX11 38).2.2.1 ∈ xsGt := xs_w (xsT6 _ (List.mem_of_getElem? (i := 87) rfl)) rfl
theorem w_1392 : Cond.fieldLink RX11 88 (TX11 39).1 (TX11 39).2.1 (TX11 39).2.2.1 ∈ xsGt := xs_w (xsT6 _ (List.mem_of_getElem? (i := 88) rfl)) rfl
theorem w_1393 : Cond.fieldLink RX11 91 (TX11 40).1 (TX11 40).2.1 (TX11 40).2.2.1 ∈ xsGt := xs_w (xsT6 _ (List.mem_of_getElem? (i := 89) rfl)) rfl
theorem w_1394 : Cond.fieldLink RX11 94 (TX11 41).1 (TX11 41).2.1 (TX11 41).2.2.1 ∈ xsGt := xs_w (xsT6 _ (List.mem_of_getElem? (i := 90) rfl)) rfl
theorem w_1395 : Cond.fieldLink RX11 97 (TX11 42).1 (TX11 42).2.1 (TX11 42).2.2.1 ∈ xsGt := xs_w (xsT6 _ (List.mem_of_getElem? (i := 91) rfl)) rfl
theorem w_1396 : Cond.fieldLink RX11 100 (TX11 43).1 (TX11 43).2.1 (TX11 43).2.2.1 ∈ xsGt := xs_w (xsT6 _ (List.mem_of_getElem? (i := 92) rfl)) rfl
theorem w_1397 : Cond.fieldLink RX11 445 (TX11 44).1 (TX11 44).2.1 (TX11 44).2.2.1 ∈ xsGt := xs_w (xsT6 _ (List.mem_of_getElem? (i := 93) rfl)) rfl
theorem w_1398 : Cond.fieldLink RX11 442 (TX11 45).1 (TX11 45).2.1 (TX11 45).2.2.1 ∈ xsGt := xs_w (xsT6 _ (List.mem_of_getElem? (i := 94) rfl)) rfl
theorem w_1399 : Cond.fieldLink RX11 103 (TX11 46).1 (TX11 46).2.1 (TX11 46).2.2.1 ∈ xsGt := xs_w (xsT6 _ (List.mem_of_getElem? (i := 95) rfl)) rfl
theorem w_1400 : Cond.fieldLink RX11 106 (TX11 47).1 (TX11 47).2.1 (TX11 47).2.2.1 ∈ xsGt := xs_w (xsT6 _ (List.mem_of_getElem? (i := 96) rfl)) rfl
theorem w_1498 : Cond.methodLink RL 150 yX11_undo ∈ xsGt := xs_w (xsT6 _ (List.mem_of_getElem? (i := 194) rfl)) rfl
theorem w_1499 : Cond.instanceMethod yX11_undo ∈ xsGt := xs_w (xsT6 _ (List.mem_of_getElem? (i := 195) rfl)) rfl
theorem w_1500 : Cond.selects yX11_undo.cls yX11_undo yX11_undo ∈ xsGt := xs_w (xsT6 _ (List.mem_of_getElem? (i := 196) rfl)) rfl
theorem w_1501 : Cond.code yX11_undo cX11_undo 1 (some .int) ∈ xsGt := xs_w (xsT6 _ (List.mem_of_getElem? (i := 197) rfl)) rfl
theorem w_1502 : Cond.methodLink RX11 120 yX11_throwsIf ∈ xsGt := xs_w (xsT6 _ (List.mem_of_getElem? (i := 198) rfl)) rfl
theorem w_1504 : Cond.instanceMethod yX11_throwsIf ∈ xsGt := xs_w (xsT6 _ (List.mem_of_getElem? (i := 200) rfl)) rfl
theorem w_1505 : Cond.code yX11_throwsIf cX11_throwsIf 3 (some .boolean) ∈ xsGt := xs_w (xsT6 _ (List.mem_of_getElem? (i := 201) rfl)) rfl
theorem w_1506 : Cond.methodLink RX11 116 yX11_copies ∈ xsGt := xs_w (xsT6 _ (List.mem_of_getElem? (i := 202) rfl)) rfl
theorem w_1507 : Cond.static yX11_copies ∈ xsGt := xs_w (xsT6 _ (List.mem_of_getElem? (i := 203) rfl)) rfl
theorem w_1508 : Cond.code yX11_copies cX11_copies 5 none ∈ xsGt := xs_w (xsT6 _ (List.mem_of_getElem? (i := 204) rfl)) rfl
theorem w_1509 : Cond.methodLink RL 218 yX11_image ∈ xsGt := xs_w (xsT6 _ (List.mem_of_getElem? (i := 205) rfl)) rfl
theorem w_1510 : Cond.instanceMethod yX11_image ∈ xsGt := xs_w (xsT6 _ (List.mem_of_getElem? (i := 206) rfl)) rfl
theorem w_1511 : Cond.selects yX11_image.cls yX11_image yX11_image ∈ xsGt := xs_w (xsT6 _ (List.mem_of_getElem? (i := 207) rfl)) rfl
theorem w_1512 : Cond.code yX11_image cX11_image 1 none ∈ xsGt := xs_w (xsT6 _ (List.mem_of_getElem? (i := 208) rfl)) rfl
theorem w_1513 : Cond.methodLink RL 223 yX11_back ∈ xsGt := xs_w (xsT6 _ (List.mem_of_getElem? (i := 209) rfl)) rfl
theorem w_1514 : Cond.instanceMethod yX11_back ∈ xsGt := xs_w (xsT6 _ (List.mem_of_getElem? (i := 210) rfl)) rfl
theorem w_1515 : Cond.selects yX11_back.cls yX11_back yX11_back ∈ xsGt := xs_w (xsT6 _ (List.mem_of_getElem? (i := 211) rfl)) rfl
theorem w_1516 : Cond.code yX11_back cX11_back 1 (some .boolean) ∈ xsGt := xs_w (xsT6 _ (List.mem_of_getElem? (i := 212) rfl)) rfl
theorem w_1517 : Cond.methodLink RL 109 yX11_feed ∈ xsGt := xs_w (xsT6 _ (List.mem_of_getElem? (i := 213) rfl)) rfl
theorem w_1518 : Cond.instanceMethod yX11_feed ∈ xsGt := xs_w (xsT6 _ (List.mem_of_getElem? (i := 214) rfl)) rfl
theorem w_1519 : Cond.selects yX11_feed.cls yX11_feed yX11_feed ∈ xsGt := xs_w (xsT6 _ (List.mem_of_getElem? (i := 215) rfl)) rfl
theorem w_1520 : Cond.code yX11_feed cX11_feed 7 (some .int) ∈ xsGt := xs_w (xsT6 _ (List.mem_of_getElem? (i := 216) rfl)) rfl
theorem w_1521 : Cond.methodLink RL 114 yX11_end ∈ xsGt := xs_w (xsT6 _ (List.mem_of_getElem? (i := 217) rfl)) rfl
theorem w_1522 : Cond.instanceMethod yX11_end ∈ xsGt := xs_w (xsT6 _ (List.mem_of_getElem? (i := 218) rfl)) rfl
theorem w_1523 : Cond.selects yX11_end.cls yX11_end yX11_end ∈ xsGt := xs_w (xsT6 _ (List.mem_of_getElem? (i := 219) rfl)) rfl
theorem w_1524 : Cond.code yX11_end cX11_end 2 (some .boolean) ∈ xsGt := xs_w (xsT6 _ (List.mem_of_getElem? (i := 220) rfl)) rfl
theorem w_1525 : Cond.methodLink RL 127 yX11_fault ∈ xsGt := xs_w (xsT6 _ (List.mem_of_getElem? (i := 221) rfl)) rfl
theorem w_1526 : Cond.instanceMethod yX11_fault ∈ xsGt := xs_w (xsT6 _ (List.mem_of_getElem? (i := 222) rfl)) rfl
theorem w_1527 : Cond.selects yX11_fault.cls yX11_fault yX11_fault ∈ xsGt := xs_w (xsT6 _ (List.mem_of_getElem? (i := 223) rfl)) rfl
theorem w_1528 : Cond.code yX11_fault cX11_fault 1 (some .int) ∈ xsGt := xs_w (xsT6 _ (List.mem_of_getElem? (i := 224) rfl)) rfl
theorem w_1529 : Cond.methodLink RL 120 yX11_acts ∈ xsGt := xs_w (xsT6 _ (List.mem_of_getElem? (i := 225) rfl)) rfl
theorem w_1530 : Cond.instanceMethod yX11_acts ∈ xsGt := xs_w (xsT6 _ (List.mem_of_getElem? (i := 226) rfl)) rfl
theorem w_1531 : Cond.selects yX11_acts.cls yX11_acts yX11_acts ∈ xsGt := xs_w (xsT6 _ (List.mem_of_getElem? (i := 227) rfl)) rfl
theorem w_1532 : Cond.code yX11_acts cX11_acts 2 (some .int) ∈ xsGt := xs_w (xsT6 _ (List.mem_of_getElem? (i := 228) rfl)) rfl
theorem w_1533 : Cond.methodLink RX11 331 yX11_readActs ∈ xsGt := xs_w (xsT6 _ (List.mem_of_getElem? (i := 229) rfl)) rfl
theorem w_1535 : Cond.instanceMethod yX11_readActs ∈ xsGt := xs_w (xsT6 _ (List.mem_of_getElem? (i := 231) rfl)) rfl
theorem w_1536 : Cond.code yX11_readActs cX11_readActs 1 (some .boolean) ∈ xsGt := xs_w (xsT6 _ (List.mem_of_getElem? (i := 232) rfl)) rfl
theorem w_1537 : Cond.methodLink RX11 259 yX11_blanks ∈ xsGt := xs_w (xsT6 _ (List.mem_of_getElem? (i := 233) rfl)) rfl
theorem w_1539 : Cond.instanceMethod yX11_blanks ∈ xsGt := xs_w (xsT6 _ (List.mem_of_getElem? (i := 235) rfl)) rfl
theorem w_1540 : Cond.code yX11_blanks cX11_blanks 1 none ∈ xsGt := xs_w (xsT6 _ (List.mem_of_getElem? (i := 236) rfl)) rfl
theorem w_1541 : Cond.methodLink RX11 253 yX11_isAt ∈ xsGt := xs_w (xsT6 _ (List.mem_of_getElem? (i := 237) rfl)) rfl
theorem w_1543 : Cond.instanceMethod yX11_isAt ∈ xsGt := xs_w (xsT6 _ (List.mem_of_getElem? (i := 239) rfl)) rfl
theorem w_1544 : Cond.code yX11_isAt cX11_isAt 3 (some .boolean) ∈ xsGt := xs_w (xsT7 _ (List.mem_of_getElem? (i := 0) rfl)) rfl
theorem w_1545 : Cond.methodLink RX11 271 yX11_letters ∈ xsGt := xs_w (xsT7 _ (List.mem_of_getElem? (i := 1) rfl)) rfl
theorem w_1547 : Cond.instanceMethod yX11_letters ∈ xsGt := xs_w (xsT7 _ (List.mem_of_getElem? (i := 3) rfl)) rfl
theorem w_1548 : Cond.code yX11_letters cX11_letters 1 none ∈ xsGt := xs_w (xsT7 _ (List.mem_of_getElem? (i := 4) rfl)) rfl
theorem w_1549 : Cond.methodLink RX11 328 yX11_readAct ∈ xsGt := xs_w (xsT7 _ (List.mem_of_getElem? (i := 5) rfl)) rfl
theorem w_1551 : Cond.instanceMethod yX11_readAct ∈ xsGt := xs_w (xsT7 _ (List.mem_of_getElem? (i := 7) rfl)) rfl
theorem w_1552 : Cond.code yX11_readAct cX11_readAct 2 (some .boolean) ∈ xsGt := xs_w (xsT7 _ (List.mem_of_getElem? (i := 8) rfl)) rfl
theorem w_1554 : Cond.methodLink RX11 274 yX11_isWord ∈ xsGt := xs_w (xsT7 _ (List.mem_of_getElem? (i := 10) rfl)) rfl
theorem w_1556 : Cond.instanceMethod yX11_isWord ∈ xsGt := xs_w (xsT7 _ (List.mem_of_getElem? (i := 12) rfl)) rfl
theorem w_1557 : Cond.code yX11_isWord cX11_isWord 4 (some .boolean) ∈ xsGt := xs_w (xsT7 _ (List.mem_of_getElem? (i := 13) rfl)) rfl
theorem w_1558 : Cond.methodLink RX11 262 yJ0_length_8abf5 ∈ xsGt := xs_w (xsT7 _ (List.mem_of_getElem? (i := 14) rfl)) rfl
theorem w_1559 : Cond.methodLink RX11 267 yJ0_charAt_5068e ∈ xsGt := xs_w (xsT7 _ (List.mem_of_getElem? (i := 15) rfl)) rfl
theorem w_1560 : Cond.methodLink RX11 293 yX11_readsSegment ∈ xsGt := xs_w (xsT7 _ (List.mem_of_getElem? (i := 16) rfl)) rfl
theorem w_1562 : Cond.instanceMethod yX11_readsSegment ∈ xsGt := xs_w (xsT7 _ (List.mem_of_getElem? (i := 18) rfl)) rfl
theorem w_1563 : Cond.code yX11_readsSegment cX11_readsSegment 2 (some .boolean) ∈ xsGt := xs_w (xsT7 _ (List.mem_of_getElem? (i := 19) rfl)) rfl
theorem w_1564 : Cond.methodLink RX11 283 yX11_readsSigned ∈ xsGt := xs_w (xsT7 _ (List.mem_of_getElem? (i := 20) rfl)) rfl
theorem w_1566 : Cond.instanceMethod yX11_readsSigned ∈ xsGt := xs_w (xsT7 _ (List.mem_of_getElem? (i := 22) rfl)) rfl
theorem w_1567 : Cond.code yX11_readsSigned cX11_readsSigned 4 (some .boolean) ∈ xsGt := xs_w (xsT7 _ (List.mem_of_getElem? (i := 23) rfl)) rfl
theorem w_1568 : Cond.methodLink RX11 280 yX11_reads ∈ xsGt := xs_w (xsT7 _ (List.mem_of_getElem? (i := 24) rfl)) rfl
theorem w_1570 : Cond.instanceMethod yX11_reads ∈ xsGt := xs_w (xsT7 _ (List.mem_of_getElem? (i := 26) rfl)) rfl
theorem w_1571 : Cond.code yX11_reads cX11_reads 6 (some .boolean) ∈ xsGt := xs_w (xsT7 _ (List.mem_of_getElem? (i := 27) rfl)) rfl
theorem w_1572 : Cond.constantLong RX11 278 (3 : Int64) ∈ xsGt := xs_w (xsT7 _ (List.mem_of_getElem? (i := 28) rfl)) rfl
theorem w_1573 : Cond.methodLink RX11 131 yX11_in ∈ xsGt := xs_w (xsT7 _ (List.mem_of_getElem? (i := 29) rfl)) rfl
theorem w_1574 : Cond.static yX11_in ∈ xsGt := xs_w (xsT7 _ (List.mem_of_getElem? (i := 30) rfl)) rfl
theorem w_1575 : Cond.code yX11_in cX11_in 6 (some .boolean) ∈ xsGt := xs_w (xsT7 _ (List.mem_of_getElem? (i := 31) rfl)) rfl
theorem w_1577 : Cond.methodLink RX11 288 yX11_passesWord ∈ xsGt := xs_w (xsT7 _ (List.mem_of_getElem? (i := 33) rfl)) rfl
theorem w_1579 : Cond.instanceMethod yX11_passesWord ∈ xsGt := xs_w (xsT7 _ (List.mem_of_getElem? (i := 35) rfl)) rfl
theorem w_1580 : Cond.code yX11_passesWord cX11_passesWord 2 (some .boolean) ∈ xsGt := xs_w (xsT7 _ (List.mem_of_getElem? (i := 36) rfl)) rfl
theorem w_1581 : Cond.methodLink RX11 200 yX11_many ∈ xsGt := xs_w (xsT7 _ (List.mem_of_getElem? (i := 37) rfl)) rfl
theorem w_1583 : Cond.instanceMethod yX11_many ∈ xsGt := xs_w (xsT7 _ (List.mem_of_getElem? (i := 39) rfl)) rfl
theorem w_1584 : Cond.code yX11_many cX11_many 1 (some .int) ∈ xsGt := xs_w (xsT7 _ (List.mem_of_getElem? (i := 40) rfl)) rfl
theorem w_1585 : Cond.methodLink RX11 297 yX11_wrongAt ∈ xsGt := xs_w (xsT7 _ (List.mem_of_getElem? (i := 41) rfl)) rfl
theorem w_1587 : Cond.instanceMethod yX11_wrongAt ∈ xsGt := xs_w (xsT7 _ (List.mem_of_getElem? (i := 43) rfl)) rfl
theorem w_1588 : Cond.code yX11_wrongAt cX11_wrongAt 2 (some .boolean) ∈ xsGt := xs_w (xsT7 _ (List.mem_of_getElem? (i := 44) rfl)) rfl
theorem w_1589 : Cond.methodLink RX11 300 yX11_adds ∈ xsGt := xs_w (xsT7 _ (List.mem_of_getElem? (i := 45) rfl)) rfl
theorem w_1591 : Cond.instanceMethod yX11_adds ∈ xsGt := xs_w (xsT7 _ (List.mem_of_getElem? (i := 47) rfl)) rfl
theorem w_1592 : Cond.code yX11_adds cX11_adds 7 (some .int) ∈ xsGt := xs_w (xsT7 _ (List.mem_of_getElem? (i := 48) rfl)) rfl
theorem w_1593 : Cond.methodLink RX11 334 yX11_puts ∈ xsGt := xs_w (xsT7 _ (List.mem_of_getElem? (i := 49) rfl)) rfl
theorem w_1595 : Cond.instanceMethod yX11_puts ∈ xsGt := xs_w (xsT7 _ (List.mem_of_getElem? (i := 51) rfl)) rfl
theorem w_1596 : Cond.code yX11_puts cX11_puts 9 none ∈ xsGt := xs_w (xsT7 _ (List.mem_of_getElem? (i := 52) rfl)) rfl
theorem w_1598 : Cond.methodLink RX11 306 yX11_cuts ∈ xsGt := xs_w (xsT7 _ (List.mem_of_getElem? (i := 54) rfl)) rfl
theorem w_1600 : Cond.instanceMethod yX11_cuts ∈ xsGt := xs_w (xsT7 _ (List.mem_of_getElem? (i := 56) rfl)) rfl
theorem w_1601 : Cond.code yX11_cuts cX11_cuts 3 none ∈ xsGt := xs_w (xsT7 _ (List.mem_of_getElem? (i := 57) rfl)) rfl
theorem w_1604 : Cond.methodLink RX11 313 yX11_canMove ∈ xsGt := xs_w (xsT7 _ (List.mem_of_getElem? (i := 60) rfl)) rfl
theorem w_1606 : Cond.instanceMethod yX11_canMove ∈ xsGt := xs_w (xsT7 _ (List.mem_of_getElem? (i := 62) rfl)) rfl
theorem w_1607 : Cond.code yX11_canMove cX11_canMove 4 (some .boolean) ∈ xsGt := xs_w (xsT7 _ (List.mem_of_getElem? (i := 63) rfl)) rfl
theorem w_1608 : Cond.methodLink RX11 127 yX11_of ∈ xsGt := xs_w (xsT7 _ (List.mem_of_getElem? (i := 64) rfl)) rfl
theorem w_1610 : Cond.instanceMethod yX11_of ∈ xsGt := xs_w (xsT7 _ (List.mem_of_getElem? (i := 66) rfl)) rfl
theorem w_1611 : Cond.code yX11_of cX11_of 3 (some .int) ∈ xsGt := xs_w (xsT7 _ (List.mem_of_getElem? (i := 67) rfl)) rfl
theorem w_1612 : Cond.constantLong RX11 338 (-999 : Int64) ∈ xsGt := xs_w (xsT7 _ (List.mem_of_getElem? (i := 68) rfl)) rfl
theorem w_1613 : Cond.constantLong RX11 340 (999 : Int64) ∈ xsGt := xs_w (xsT7 _ (List.mem_of_getElem? (i := 69) rfl)) rfl
theorem w_1614 : Cond.methodLink RX11 316 yX11_moves ∈ xsGt := xs_w (xsT7 _ (List.mem_of_getElem? (i := 70) rfl)) rfl
theorem w_1616 : Cond.instanceMethod yX11_moves ∈ xsGt := xs_w (xsT7 _ (List.mem_of_getElem? (i := 72) rfl)) rfl
theorem w_1617 : Cond.code yX11_moves cX11_moves 4 none ∈ xsGt := xs_w (xsT7 _ (List.mem_of_getElem? (i := 73) rfl)) rfl
theorem w_1619 : Cond.methodLink RX11 322 yX11_turns ∈ xsGt := xs_w (xsT7 _ (List.mem_of_getElem? (i := 75) rfl)) rfl
theorem w_1621 : Cond.instanceMethod yX11_turns ∈ xsGt := xs_w (xsT7 _ (List.mem_of_getElem? (i := 77) rfl)) rfl
theorem w_1622 : Cond.code yX11_turns cX11_turns 2 none ∈ xsGt := xs_w (xsT7 _ (List.mem_of_getElem? (i := 78) rfl)) rfl
theorem w_1623 : Cond.methodLink RL 131 yX11_add ∈ xsGt := xs_w (xsT7 _ (List.mem_of_getElem? (i := 79) rfl)) rfl
theorem w_1624 : Cond.instanceMethod yX11_add ∈ xsGt := xs_w (xsT7 _ (List.mem_of_getElem? (i := 80) rfl)) rfl
theorem w_1625 : Cond.selects yX11_add.cls yX11_add yX11_add ∈ xsGt := xs_w (xsT7 _ (List.mem_of_getElem? (i := 81) rfl)) rfl
theorem w_1626 : Cond.code yX11_add cX11_add 6 (some .int) ∈ xsGt := xs_w (xsT7 _ (List.mem_of_getElem? (i := 82) rfl)) rfl
theorem w_1627 : Cond.methodLink RX11 342 yX11_isPlace ∈ xsGt := xs_w (xsT7 _ (List.mem_of_getElem? (i := 83) rfl)) rfl
theorem w_1628 : Cond.static yX11_isPlace ∈ xsGt := xs_w (xsT7 _ (List.mem_of_getElem? (i := 84) rfl)) rfl
theorem w_1629 : Cond.code yX11_isPlace cX11_isPlace 2 (some .boolean) ∈ xsGt := xs_w (xsT7 _ (List.mem_of_getElem? (i := 85) rfl)) rfl
theorem w_1630 : Cond.methodLink RX11 345 yX11_remembers ∈ xsGt := xs_w (xsT7 _ (List.mem_of_getElem? (i := 86) rfl)) rfl
theorem w_1632 : Cond.instanceMethod yX11_remembers ∈ xsGt := xs_w (xsT7 _ (List.mem_of_getElem? (i := 88) rfl)) rfl
theorem w_1633 : Cond.code yX11_remembers cX11_remembers 2 none ∈ xsGt := xs_w (xsT7 _ (List.mem_of_getElem? (i := 89) rfl)) rfl
theorem w_1634 : Cond.methodLink RL 135 yX11_cut ∈ xsGt := xs_w (xsT7 _ (List.mem_of_getElem? (i := 90) rfl)) rfl
theorem w_1635 : Cond.instanceMethod yX11_cut ∈ xsGt := xs_w (xsT7 _ (List.mem_of_getElem? (i := 91) rfl)) rfl
theorem w_1636 : Cond.selects yX11_cut.cls yX11_cut yX11_cut ∈ xsGt := xs_w (xsT7 _ (List.mem_of_getElem? (i := 92) rfl)) rfl
theorem w_1637 : Cond.code yX11_cut cX11_cut 3 (some .int) ∈ xsGt := xs_w (xsT7 _ (List.mem_of_getElem? (i := 93) rfl)) rfl
theorem w_1638 : Cond.methodLink RX11 351 yX11_noSegment ∈ xsGt := xs_w (xsT7 _ (List.mem_of_getElem? (i := 94) rfl)) rfl
theorem w_1640 : Cond.instanceMethod yX11_noSegment ∈ xsGt := xs_w (xsT7 _ (List.mem_of_getElem? (i := 96) rfl)) rfl
theorem w_1641 : Cond.code yX11_noSegment cX11_noSegment 2 (some .boolean) ∈ xsGt := xs_w (xsT7 _ (List.mem_of_getElem? (i := 97) rfl)) rfl
theorem w_1642 : Cond.methodLink RX11 354 yX11_crossingsNow ∈ xsGt := xs_w (xsT7 _ (List.mem_of_getElem? (i := 98) rfl)) rfl
theorem w_1644 : Cond.instanceMethod yX11_crossingsNow ∈ xsGt := xs_w (xsT7 _ (List.mem_of_getElem? (i := 100) rfl)) rfl
theorem w_1645 : Cond.code yX11_crossingsNow cX11_crossingsNow 1 (some .int) ∈ xsGt := xs_w (xsT7 _ (List.mem_of_getElem? (i := 101) rfl)) rfl
theorem w_1646 : Cond.methodLink RX11 348 yX11_lays ∈ xsGt := xs_w (xsT7 _ (List.mem_of_getElem? (i := 102) rfl)) rfl
theorem w_1648 : Cond.instanceMethod yX11_lays ∈ xsGt := xs_w (xsT7 _ (List.mem_of_getElem? (i := 104) rfl)) rfl
theorem w_1649 : Cond.code yX11_lays cX11_lays 4 none ∈ xsGt := xs_w (xsT7 _ (List.mem_of_getElem? (i := 105) rfl)) rfl
theorem w_1650 : Cond.methodLink RX11 203 yX11_stands ∈ xsGt := xs_w (xsT7 _ (List.mem_of_getElem? (i := 106) rfl)) rfl
theorem w_1652 : Cond.instanceMethod yX11_stands ∈ xsGt := xs_w (xsT7 _ (List.mem_of_getElem? (i := 108) rfl)) rfl
theorem w_1653 : Cond.code yX11_stands cX11_stands 9 (some .int) ∈ xsGt := xs_w (xsT7 _ (List.mem_of_getElem? (i := 109) rfl)) rfl
theorem w_1654 : Cond.methodLink RX11 196 yX11_against ∈ xsGt := xs_w (xsT7 _ (List.mem_of_getElem? (i := 110) rfl)) rfl
theorem w_1655 : Cond.static yX11_against ∈ xsGt := xs_w (xsT7 _ (List.mem_of_getElem? (i := 111) rfl)) rfl
theorem w_1656 : Cond.code yX11_against cX11_against 16 (some .int) ∈ xsGt := xs_w (xsT7 _ (List.mem_of_getElem? (i := 112) rfl)) rfl
theorem w_1657 : Cond.methodLink RX11 186 yX11_sharesOf ∈ xsGt := xs_w (xsT7 _ (List.mem_of_getElem? (i := 113) rfl)) rfl
theorem w_1659 : Cond.instanceMethod yX11_sharesOf ∈ xsGt := xs_w (xsT7 _ (List.mem_of_getElem? (i := 115) rfl)) rfl
theorem w_1660 : Cond.code yX11_sharesOf cX11_sharesOf 3 (some .int) ∈ xsGt := xs_w (xsT7 _ (List.mem_of_getElem? (i := 116) rfl)) rfl
theorem w_1661 : Cond.methodLink RX11 179 yX11_takes ∈ xsGt := xs_w (xsT7 _ (List.mem_of_getElem? (i := 117) rfl)) rfl
theorem w_1663 : Cond.instanceMethod yX11_takes ∈ xsGt := xs_w (xsT7 _ (List.mem_of_getElem? (i := 119) rfl)) rfl
theorem w_1664 : Cond.code yX11_takes cX11_takes 4 none ∈ xsGt := xs_w (xsT7 _ (List.mem_of_getElem? (i := 120) rfl)) rfl
theorem w_1665 : Cond.methodLink RX11 183 yX11_shares ∈ xsGt := xs_w (xsT7 _ (List.mem_of_getElem? (i := 121) rfl)) rfl
theorem w_1667 : Cond.instanceMethod yX11_shares ∈ xsGt := xs_w (xsT7 _ (List.mem_of_getElem? (i := 123) rfl)) rfl
theorem w_1668 : Cond.code yX11_shares cX11_shares 21 (some .int) ∈ xsGt := xs_w (xsT7 _ (List.mem_of_getElem? (i := 124) rfl)) rfl
theorem w_1669 : Cond.methodLink RX11 161 yX11_isMere ∈ xsGt := xs_w (xsT7 _ (List.mem_of_getElem? (i := 125) rfl)) rfl
theorem w_1670 : Cond.static yX11_isMere ∈ xsGt := xs_w (xsT7 _ (List.mem_of_getElem? (i := 126) rfl)) rfl
theorem w_1671 : Cond.code yX11_isMere cX11_isMere 1 (some .boolean) ∈ xsGt := xs_w (xsT7 _ (List.mem_of_getElem? (i := 127) rfl)) rfl
theorem w_1672 : Cond.methodLink RX11 169 yX11_isOn ∈ xsGt := xs_w (xsT7 _ (List.mem_of_getElem? (i := 128) rfl)) rfl
theorem w_1673 : Cond.static yX11_isOn ∈ xsGt := xs_w (xsT7 _ (List.mem_of_getElem? (i := 129) rfl)) rfl
theorem w_1674 : Cond.code yX11_isOn cX11_isOn 11 (some .boolean) ∈ xsGt := xs_w (xsT7 _ (List.mem_of_getElem? (i := 130) rfl)) rfl
theorem w_1675 : Cond.methodLink RX11 135 yJ9_min_7cf53 ∈ xsGt := xs_w (xsT7 _ (List.mem_of_getElem? (i := 131) rfl)) rfl
theorem w_1676 : Cond.methodLink RX11 140 yJ9_max_7cf53 ∈ xsGt := xs_w (xsT7 _ (List.mem_of_getElem? (i := 132) rfl)) rfl
theorem w_1677 : Cond.methodLink RX11 165 yX11_sharesPoint ∈ xsGt := xs_w (xsT7 _ (List.mem_of_getElem? (i := 133) rfl)) rfl
theorem w_1679 : Cond.instanceMethod yX11_sharesPoint ∈ xsGt := xs_w (xsT7 _ (List.mem_of_getElem? (i := 135) rfl)) rfl
theorem w_1680 : Cond.code yX11_sharesPoint cX11_sharesPoint 9 (some .int) ∈ xsGt := xs_w (xsT7 _ (List.mem_of_getElem? (i := 136) rfl)) rfl
theorem w_1681 : Cond.methodLink RX11 143 yX11_common ∈ xsGt := xs_w (xsT7 _ (List.mem_of_getElem? (i := 137) rfl)) rfl
theorem w_1682 : Cond.static yX11_common ∈ xsGt := xs_w (xsT7 _ (List.mem_of_getElem? (i := 138) rfl)) rfl
theorem w_1683 : Cond.code yX11_common cX11_common 10 (some .long) ∈ xsGt := xs_w (xsT7 _ (List.mem_of_getElem? (i := 139) rfl)) rfl
theorem w_1684 : Cond.methodLink RX11 173 yX11_sharesLine ∈ xsGt := xs_w (xsT7 _ (List.mem_of_getElem? (i := 140) rfl)) rfl
theorem w_1686 : Cond.instanceMethod yX11_sharesLine ∈ xsGt := xs_w (xsT7 _ (List.mem_of_getElem? (i := 142) rfl)) rfl
theorem w_1687 : Cond.code yX11_sharesLine cX11_sharesLine 3 (some .int) ∈ xsGt := xs_w (xsT7 _ (List.mem_of_getElem? (i := 143) rfl)) rfl
theorem w_1688 : Cond.methodLink RX11 157 yX11_isAhead ∈ xsGt := xs_w (xsT7 _ (List.mem_of_getElem? (i := 144) rfl)) rfl
theorem w_1689 : Cond.static yX11_isAhead ∈ xsGt := xs_w (xsT7 _ (List.mem_of_getElem? (i := 145) rfl)) rfl
theorem w_1690 : Cond.code yX11_isAhead cX11_isAhead 4 (some .boolean) ∈ xsGt := xs_w (xsT7 _ (List.mem_of_getElem? (i := 146) rfl)) rfl
theorem w_1691 : Cond.constantLong RX11 177 (-1 : Int64) ∈ xsGt := xs_w (xsT7 _ (List.mem_of_getElem? (i := 147) rfl)) rfl
theorem w_1692 : Cond.methodLink RX11 209 yX11_has ∈ xsGt := xs_w (xsT7 _ (List.mem_of_getElem? (i := 148) rfl)) rfl
theorem w_1694 : Cond.instanceMethod yX11_has ∈ xsGt := xs_w (xsT7 _ (List.mem_of_getElem? (i := 150) rfl)) rfl
theorem w_1695 : Cond.code yX11_has cX11_has 3 (some .boolean) ∈ xsGt := xs_w (xsT7 _ (List.mem_of_getElem? (i := 151) rfl)) rfl
theorem w_1696 : Cond.methodLink RX11 216 yX11_laysEdges ∈ xsGt := xs_w (xsT7 _ (List.mem_of_getElem? (i := 152) rfl)) rfl
theorem w_1698 : Cond.instanceMethod yX11_laysEdges ∈ xsGt := xs_w (xsT7 _ (List.mem_of_getElem? (i := 154) rfl)) rfl
theorem w_1699 : Cond.code yX11_laysEdges cX11_laysEdges 4 none ∈ xsGt := xs_w (xsT7 _ (List.mem_of_getElem? (i := 155) rfl)) rfl
theorem w_1700 : Cond.methodLink RX11 220 yX11_holds ∈ xsGt := xs_w (xsT7 _ (List.mem_of_getElem? (i := 156) rfl)) rfl
theorem w_1701 : Cond.static yX11_holds ∈ xsGt := xs_w (xsT7 _ (List.mem_of_getElem? (i := 157) rfl)) rfl
theorem w_1702 : Cond.code yX11_holds cX11_holds 2 (some .boolean) ∈ xsGt := xs_w (xsT7 _ (List.mem_of_getElem? (i := 158) rfl)) rfl
theorem w_1703 : Cond.methodLink RX11 223 yX11_isEdge ∈ xsGt := xs_w (xsT7 _ (List.mem_of_getElem? (i := 159) rfl)) rfl
theorem w_1705 : Cond.instanceMethod yX11_isEdge ∈ xsGt := xs_w (xsT7 _ (List.mem_of_getElem? (i := 161) rfl)) rfl
theorem w_1706 : Cond.code yX11_isEdge cX11_isEdge 5 (some .boolean) ∈ xsGt := xs_w (xsT7 _ (List.mem_of_getElem? (i := 162) rfl)) rfl
theorem w_1707 : Cond.methodLink RL 139 yX11_move ∈ xsGt := xs_w (xsT7 _ (List.mem_of_getElem? (i := 163) rfl)) rfl
theorem w_1708 : Cond.instanceMethod yX11_move ∈ xsGt := xs_w (xsT7 _ (List.mem_of_getElem? (i := 164) rfl)) rfl
theorem w_1709 : Cond.selects yX11_move.cls yX11_move yX11_move ∈ xsGt := xs_w (xsT7 _ (List.mem_of_getElem? (i := 165) rfl)) rfl
theorem w_1710 : Cond.code yX11_move cX11_move 4 (some .int) ∈ xsGt := xs_w (xsT7 _ (List.mem_of_getElem? (i := 166) rfl)) rfl
theorem w_1711 : Cond.methodLink RL 143 yX11_tint ∈ xsGt := xs_w (xsT7 _ (List.mem_of_getElem? (i := 167) rfl)) rfl
theorem w_1712 : Cond.instanceMethod yX11_tint ∈ xsGt := xs_w (xsT7 _ (List.mem_of_getElem? (i := 168) rfl)) rfl
theorem w_1713 : Cond.selects yX11_tint.cls yX11_tint yX11_tint ∈ xsGt := xs_w (xsT7 _ (List.mem_of_getElem? (i := 169) rfl)) rfl
theorem w_1714 : Cond.code yX11_tint cX11_tint 4 (some .int) ∈ xsGt := xs_w (xsT7 _ (List.mem_of_getElem? (i := 170) rfl)) rfl
theorem w_1715 : Cond.methodLink RL 147 yX11_turn ∈ xsGt := xs_w (xsT7 _ (List.mem_of_getElem? (i := 171) rfl)) rfl
theorem w_1716 : Cond.instanceMethod yX11_turn ∈ xsGt := xs_w (xsT7 _ (List.mem_of_getElem? (i := 172) rfl)) rfl
theorem w_1717 : Cond.selects yX11_turn.cls yX11_turn yX11_turn ∈ xsGt := xs_w (xsT7 _ (List.mem_of_getElem? (i := 173) rfl)) rfl
theorem w_1718 : Cond.code yX11_turn cX11_turn 1 (some .int) ∈ xsGt := xs_w (xsT7 _ (List.mem_of_getElem? (i := 174) rfl)) rfl
theorem w_1719 : Cond.methodLink RL 153 yX11_segment ∈ xsGt := xs_w (xsT7 _ (List.mem_of_getElem? (i := 175) rfl)) rfl
theorem w_1720 : Cond.instanceMethod yX11_segment ∈ xsGt := xs_w (xsT7 _ (List.mem_of_getElem? (i := 176) rfl)) rfl
theorem w_1721 : Cond.selects yX11_segment.cls yX11_segment yX11_segment ∈ xsGt := xs_w (xsT7 _ (List.mem_of_getElem? (i := 177) rfl)) rfl
theorem w_1722 : Cond.code yX11_segment cX11_segment 3 (some .int) ∈ xsGt := xs_w (xsT7 _ (List.mem_of_getElem? (i := 178) rfl)) rfl
theorem w_1723 : Cond.constantLong RX11 361 (8 : Int64) ∈ xsGt := xs_w (xsT7 _ (List.mem_of_getElem? (i := 179) rfl)) rfl
theorem w_1724 : Cond.methodLink RX11 363 yX11_kindOf ∈ xsGt := xs_w (xsT7 _ (List.mem_of_getElem? (i := 180) rfl)) rfl
theorem w_1726 : Cond.instanceMethod yX11_kindOf ∈ xsGt := xs_w (xsT7 _ (List.mem_of_getElem? (i := 182) rfl)) rfl
theorem w_1727 : Cond.code yX11_kindOf cX11_kindOf 2 (some .int) ∈ xsGt := xs_w (xsT7 _ (List.mem_of_getElem? (i := 183) rfl)) rfl
theorem w_1728 : Cond.methodLink RX11 226 yX11_isUpright ∈ xsGt := xs_w (xsT7 _ (List.mem_of_getElem? (i := 184) rfl)) rfl
theorem w_1730 : Cond.instanceMethod yX11_isUpright ∈ xsGt := xs_w (xsT7 _ (List.mem_of_getElem? (i := 186) rfl)) rfl
theorem w_1731 : Cond.code yX11_isUpright cX11_isUpright 2 (some .boolean) ∈ xsGt := xs_w (xsT7 _ (List.mem_of_getElem? (i := 187) rfl)) rfl
theorem w_1732 : Cond.methodLink RX11 366 yX11_eventsOn ∈ xsGt := xs_w (xsT7 _ (List.mem_of_getElem? (i := 188) rfl)) rfl
theorem w_1734 : Cond.instanceMethod yX11_eventsOn ∈ xsGt := xs_w (xsT7 _ (List.mem_of_getElem? (i := 190) rfl)) rfl
theorem w_1735 : Cond.code yX11_eventsOn cX11_eventsOn 5 (some .int) ∈ xsGt := xs_w (xsT7 _ (List.mem_of_getElem? (i := 191) rfl)) rfl
theorem w_1736 : Cond.methodLink RX11 370 yX11_partOf ∈ xsGt := xs_w (xsT7 _ (List.mem_of_getElem? (i := 192) rfl)) rfl
theorem w_1738 : Cond.instanceMethod yX11_partOf ∈ xsGt := xs_w (xsT7 _ (List.mem_of_getElem? (i := 194) rfl)) rfl
theorem w_1739 : Cond.code yX11_partOf cX11_partOf 5 (some .int) ∈ xsGt := xs_w (xsT7 _ (List.mem_of_getElem? (i := 195) rfl)) rfl
theorem w_1740 : Cond.methodLink RX11 357 yX11_tiedTo ∈ xsGt := xs_w (xsT7 _ (List.mem_of_getElem? (i := 196) rfl)) rfl
theorem w_1742 : Cond.instanceMethod yX11_tiedTo ∈ xsGt := xs_w (xsT7 _ (List.mem_of_getElem? (i := 198) rfl)) rfl
theorem w_1743 : Cond.code yX11_tiedTo cX11_tiedTo 4 (some .int) ∈ xsGt := xs_w (xsT7 _ (List.mem_of_getElem? (i := 199) rfl)) rfl
theorem w_1744 : Cond.methodLink RL 156 yX11_how ∈ xsGt := xs_w (xsT7 _ (List.mem_of_getElem? (i := 200) rfl)) rfl
theorem w_1745 : Cond.instanceMethod yX11_how ∈ xsGt := xs_w (xsT7 _ (List.mem_of_getElem? (i := 201) rfl)) rfl
theorem w_1746 : Cond.selects yX11_how.cls yX11_how yX11_how ∈ xsGt := xs_w (xsT7 _ (List.mem_of_getElem? (i := 202) rfl)) rfl
theorem w_1747 : Cond.code yX11_how cX11_how 3 (some .int) ∈ xsGt := xs_w (xsT7 _ (List.mem_of_getElem? (i := 203) rfl)) rfl
theorem w_1748 : Cond.methodLink RX11 373 yX11_noTwo ∈ xsGt := xs_w (xsT7 _ (List.mem_of_getElem? (i := 204) rfl)) rfl
theorem w_1750 : Cond.instanceMethod yX11_noTwo ∈ xsGt := xs_w (xsT7 _ (List.mem_of_getElem? (i := 206) rfl)) rfl
theorem w_1751 : Cond.code yX11_noTwo cX11_noTwo 3 (some .boolean) ∈ xsGt := xs_w (xsT7 _ (List.mem_of_getElem? (i := 207) rfl)) rfl
theorem w_1752 : Cond.methodLink RX11 376 yX11_howOf ∈ xsGt := xs_w (xsT7 _ (List.mem_of_getElem? (i := 208) rfl)) rfl
theorem w_1754 : Cond.instanceMethod yX11_howOf ∈ xsGt := xs_w (xsT7 _ (List.mem_of_getElem? (i := 210) rfl)) rfl
theorem w_1755 : Cond.code yX11_howOf cX11_howOf 5 (some .int) ∈ xsGt := xs_w (xsT7 _ (List.mem_of_getElem? (i := 211) rfl)) rfl
theorem w_1756 : Cond.methodLink RX11 189 yX11_isEndOf ∈ xsGt := xs_w (xsT7 _ (List.mem_of_getElem? (i := 212) rfl)) rfl
theorem w_1758 : Cond.instanceMethod yX11_isEndOf ∈ xsGt := xs_w (xsT7 _ (List.mem_of_getElem? (i := 214) rfl)) rfl
theorem w_1759 : Cond.code yX11_isEndOf cX11_isEndOf 8 (some .boolean) ∈ xsGt := xs_w (xsT7 _ (List.mem_of_getElem? (i := 215) rfl)) rfl
theorem w_1760 : Cond.methodLink RL 159 yX11_meet ∈ xsGt := xs_w (xsT7 _ (List.mem_of_getElem? (i := 216) rfl)) rfl
theorem w_1761 : Cond.instanceMethod yX11_meet ∈ xsGt := xs_w (xsT7 _ (List.mem_of_getElem? (i := 217) rfl)) rfl
theorem w_1762 : Cond.selects yX11_meet.cls yX11_meet yX11_meet ∈ xsGt := xs_w (xsT7 _ (List.mem_of_getElem? (i := 218) rfl)) rfl
theorem w_1763 : Cond.code yX11_meet cX11_meet 4 (some .long) ∈ xsGt := xs_w (xsT7 _ (List.mem_of_getElem? (i := 219) rfl)) rfl
theorem w_1764 : Cond.methodLink RX11 383 yX11_partOfPoint ∈ xsGt := xs_w (xsT7 _ (List.mem_of_getElem? (i := 220) rfl)) rfl
theorem w_1765 : Cond.static yX11_partOfPoint ∈ xsGt := xs_w (xsT7 _ (List.mem_of_getElem? (i := 221) rfl)) rfl
theorem w_1766 : Cond.code yX11_partOfPoint cX11_partOfPoint 7 (some .long) ∈ xsGt := xs_w (xsT7 _ (List.mem_of_getElem? (i := 222) rfl)) rfl
theorem w_1767 : Cond.methodLink RX11 379 yX11_lowest ∈ xsGt := xs_w (xsT7 _ (List.mem_of_getElem? (i := 223) rfl)) rfl
theorem w_1768 : Cond.static yX11_lowest ∈ xsGt := xs_w (xsT7 _ (List.mem_of_getElem? (i := 224) rfl)) rfl
theorem w_1769 : Cond.code yX11_lowest cX11_lowest 7 (some .long) ∈ xsGt := xs_w (xsT7 _ (List.mem_of_getElem? (i := 225) rfl)) rfl
theorem w_1770 : Cond.methodLink RL 162 yX11_along ∈ xsGt := xs_w (xsT7 _ (List.mem_of_getElem? (i := 226) rfl)) rfl
theorem w_1771 : Cond.instanceMethod yX11_along ∈ xsGt := xs_w (xsT7 _ (List.mem_of_getElem? (i := 227) rfl)) rfl
theorem w_1772 : Cond.selects yX11_along.cls yX11_along yX11_along ∈ xsGt := xs_w (xsT7 _ (List.mem_of_getElem? (i := 228) rfl)) rfl
theorem w_1773 : Cond.code yX11_along cX11_along 4 (some .int) ∈ xsGt := xs_w (xsT7 _ (List.mem_of_getElem? (i := 229) rfl)) rfl
theorem w_1774 : Cond.methodLink RL 165 yX11_crossing ∈ xsGt := xs_w (xsT7 _ (List.mem_of_getElem? (i := 230) rfl)) rfl
theorem w_1775 : Cond.instanceMethod yX11_crossing ∈ xsGt := xs_w (xsT7 _ (List.mem_of_getElem? (i := 231) rfl)) rfl
theorem w_1776 : Cond.selects yX11_crossing.cls yX11_crossing yX11_crossing ∈ xsGt := xs_w (xsT7 _ (List.mem_of_getElem? (i := 232) rfl)) rfl
theorem w_1777 : Cond.code yX11_crossing cX11_crossing 4 (some .long) ∈ xsGt := xs_w (xsT7 _ (List.mem_of_getElem? (i := 233) rfl)) rfl
theorem w_1778 : Cond.methodLink RX11 387 yX11_noCrossing ∈ xsGt := xs_w (xsT7 _ (List.mem_of_getElem? (i := 234) rfl)) rfl
theorem w_1780 : Cond.instanceMethod yX11_noCrossing ∈ xsGt := xs_w (xsT7 _ (List.mem_of_getElem? (i := 236) rfl)) rfl
theorem w_1781 : Cond.code yX11_noCrossing cX11_noCrossing 2 (some .boolean) ∈ xsGt := xs_w (xsT7 _ (List.mem_of_getElem? (i := 237) rfl)) rfl
theorem w_1782 : Cond.constantLong RX11 390 (6 : Int64) ∈ xsGt := xs_w (xsT7 _ (List.mem_of_getElem? (i := 238) rfl)) rfl
theorem w_1783 : Cond.methodLink RX11 392 yX11_bits ∈ xsGt := xs_w (xsT7 _ (List.mem_of_getElem? (i := 239) rfl)) rfl
theorem w_1784 : Cond.static yX11_bits ∈ xsGt := xs_w (xsT8 _ (List.mem_of_getElem? (i := 0) rfl)) rfl
theorem w_1785 : Cond.code yX11_bits cX11_bits 3 (some .int) ∈ xsGt := xs_w (xsT8 _ (List.mem_of_getElem? (i := 1) rfl)) rfl
theorem w_1786 : Cond.methodLink RX11 395 yX11_tintsOf ∈ xsGt := xs_w (xsT8 _ (List.mem_of_getElem? (i := 2) rfl)) rfl
theorem w_1788 : Cond.instanceMethod yX11_tintsOf ∈ xsGt := xs_w (xsT8 _ (List.mem_of_getElem? (i := 4) rfl)) rfl
theorem w_1789 : Cond.code yX11_tintsOf cX11_tintsOf 4 (some .int) ∈ xsGt := xs_w (xsT8 _ (List.mem_of_getElem? (i := 5) rfl)) rfl
theorem w_1790 : Cond.methodLink RL 168 yX11_event ∈ xsGt := xs_w (xsT8 _ (List.mem_of_getElem? (i := 6) rfl)) rfl
theorem w_1791 : Cond.instanceMethod yX11_event ∈ xsGt := xs_w (xsT8 _ (List.mem_of_getElem? (i := 7) rfl)) rfl
theorem w_1792 : Cond.selects yX11_event.cls yX11_event yX11_event ∈ xsGt := xs_w (xsT8 _ (List.mem_of_getElem? (i := 8) rfl)) rfl
theorem w_1793 : Cond.code yX11_event cX11_event 3 (some .long) ∈ xsGt := xs_w (xsT8 _ (List.mem_of_getElem? (i := 9) rfl)) rfl
theorem w_1794 : Cond.methodLink RX11 410 yX11_noEvent ∈ xsGt := xs_w (xsT8 _ (List.mem_of_getElem? (i := 10) rfl)) rfl
theorem w_1796 : Cond.instanceMethod yX11_noEvent ∈ xsGt := xs_w (xsT8 _ (List.mem_of_getElem? (i := 12) rfl)) rfl
theorem w_1797 : Cond.code yX11_noEvent cX11_noEvent 2 (some .boolean) ∈ xsGt := xs_w (xsT8 _ (List.mem_of_getElem? (i := 13) rfl)) rfl
theorem w_1798 : Cond.constantLong RX11 413 (9 : Int64) ∈ xsGt := xs_w (xsT8 _ (List.mem_of_getElem? (i := 14) rfl)) rfl
theorem w_1799 : Cond.methodLink RX11 404 yX11_endsAt ∈ xsGt := xs_w (xsT8 _ (List.mem_of_getElem? (i := 15) rfl)) rfl
theorem w_1801 : Cond.instanceMethod yX11_endsAt ∈ xsGt := xs_w (xsT8 _ (List.mem_of_getElem? (i := 17) rfl)) rfl
theorem w_1802 : Cond.code yX11_endsAt cX11_endsAt 5 (some .int) ∈ xsGt := xs_w (xsT8 _ (List.mem_of_getElem? (i := 18) rfl)) rfl
theorem w_1803 : Cond.methodLink RX11 398 yX11_isLeftAt ∈ xsGt := xs_w (xsT8 _ (List.mem_of_getElem? (i := 19) rfl)) rfl
theorem w_1805 : Cond.instanceMethod yX11_isLeftAt ∈ xsGt := xs_w (xsT8 _ (List.mem_of_getElem? (i := 21) rfl)) rfl
theorem w_1806 : Cond.code yX11_isLeftAt cX11_isLeftAt 3 (some .boolean) ∈ xsGt := xs_w (xsT8 _ (List.mem_of_getElem? (i := 22) rfl)) rfl
theorem w_1807 : Cond.methodLink RX11 401 yX11_isRightAt ∈ xsGt := xs_w (xsT8 _ (List.mem_of_getElem? (i := 23) rfl)) rfl
theorem w_1809 : Cond.instanceMethod yX11_isRightAt ∈ xsGt := xs_w (xsT8 _ (List.mem_of_getElem? (i := 25) rfl)) rfl
theorem w_1810 : Cond.code yX11_isRightAt cX11_isRightAt 3 (some .boolean) ∈ xsGt := xs_w (xsT8 _ (List.mem_of_getElem? (i := 26) rfl)) rfl
theorem w_1811 : Cond.methodLink RX11 407 yX11_within ∈ xsGt := xs_w (xsT8 _ (List.mem_of_getElem? (i := 27) rfl)) rfl
theorem w_1813 : Cond.instanceMethod yX11_within ∈ xsGt := xs_w (xsT8 _ (List.mem_of_getElem? (i := 29) rfl)) rfl
theorem w_1814 : Cond.code yX11_within cX11_within 2 (some .int) ∈ xsGt := xs_w (xsT8 _ (List.mem_of_getElem? (i := 30) rfl)) rfl
theorem w_1815 : Cond.methodLink RX11 415 yX11_spreadOf ∈ xsGt := xs_w (xsT8 _ (List.mem_of_getElem? (i := 31) rfl)) rfl
theorem w_1817 : Cond.instanceMethod yX11_spreadOf ∈ xsGt := xs_w (xsT8 _ (List.mem_of_getElem? (i := 33) rfl)) rfl
theorem w_1818 : Cond.code yX11_spreadOf cX11_spreadOf 6 (some .int) ∈ xsGt := xs_w (xsT8 _ (List.mem_of_getElem? (i := 34) rfl)) rfl
theorem w_1819 : Cond.methodLink RL 171 yX11_status ∈ xsGt := xs_w (xsT8 _ (List.mem_of_getElem? (i := 35) rfl)) rfl
theorem w_1820 : Cond.instanceMethod yX11_status ∈ xsGt := xs_w (xsT8 _ (List.mem_of_getElem? (i := 36) rfl)) rfl
theorem w_1821 : Cond.selects yX11_status.cls yX11_status yX11_status ∈ xsGt := xs_w (xsT8 _ (List.mem_of_getElem? (i := 37) rfl)) rfl
theorem w_1822 : Cond.code yX11_status cX11_status 4 (some .int) ∈ xsGt := xs_w (xsT8 _ (List.mem_of_getElem? (i := 38) rfl)) rfl
theorem w_1823 : Cond.methodLink RX11 418 yX11_laysStatus ∈ xsGt := xs_w (xsT8 _ (List.mem_of_getElem? (i := 39) rfl)) rfl
theorem w_1825 : Cond.instanceMethod yX11_laysStatus ∈ xsGt := xs_w (xsT8 _ (List.mem_of_getElem? (i := 41) rfl)) rfl
theorem w_1826 : Cond.code yX11_laysStatus cX11_laysStatus 5 (some .int) ∈ xsGt := xs_w (xsT8 _ (List.mem_of_getElem? (i := 42) rfl)) rfl
theorem w_1827 : Cond.methodLink RX11 233 yX11_isMet ∈ xsGt := xs_w (xsT8 _ (List.mem_of_getElem? (i := 43) rfl)) rfl
theorem w_1829 : Cond.instanceMethod yX11_isMet ∈ xsGt := xs_w (xsT8 _ (List.mem_of_getElem? (i := 45) rfl)) rfl
theorem w_1830 : Cond.code yX11_isMet cX11_isMet 4 (some .boolean) ∈ xsGt := xs_w (xsT8 _ (List.mem_of_getElem? (i := 46) rfl)) rfl
theorem w_1831 : Cond.methodLink RX11 236 yX11_laysY ∈ xsGt := xs_w (xsT8 _ (List.mem_of_getElem? (i := 47) rfl)) rfl
theorem w_1833 : Cond.instanceMethod yX11_laysY ∈ xsGt := xs_w (xsT8 _ (List.mem_of_getElem? (i := 49) rfl)) rfl
theorem w_1834 : Cond.code yX11_laysY cX11_laysY 7 none ∈ xsGt := xs_w (xsT8 _ (List.mem_of_getElem? (i := 50) rfl)) rfl
theorem w_1835 : Cond.methodLink RX11 240 yX11_isBelow ∈ xsGt := xs_w (xsT8 _ (List.mem_of_getElem? (i := 51) rfl)) rfl
theorem w_1837 : Cond.instanceMethod yX11_isBelow ∈ xsGt := xs_w (xsT8 _ (List.mem_of_getElem? (i := 53) rfl)) rfl
theorem w_1838 : Cond.code yX11_isBelow cX11_isBelow 8 (some .boolean) ∈ xsGt := xs_w (xsT8 _ (List.mem_of_getElem? (i := 54) rfl)) rfl
theorem w_1839 : Cond.methodLink RX11 230 yX11_rises ∈ xsGt := xs_w (xsT8 _ (List.mem_of_getElem? (i := 55) rfl)) rfl
theorem w_1841 : Cond.instanceMethod yX11_rises ∈ xsGt := xs_w (xsT8 _ (List.mem_of_getElem? (i := 57) rfl)) rfl
theorem w_1842 : Cond.code yX11_rises cX11_rises 3 (some .int) ∈ xsGt := xs_w (xsT8 _ (List.mem_of_getElem? (i := 58) rfl)) rfl
theorem w_1843 : Cond.methodLink RL 174 yX11_rank ∈ xsGt := xs_w (xsT8 _ (List.mem_of_getElem? (i := 59) rfl)) rfl
theorem w_1844 : Cond.instanceMethod yX11_rank ∈ xsGt := xs_w (xsT8 _ (List.mem_of_getElem? (i := 60) rfl)) rfl
theorem w_1845 : Cond.selects yX11_rank.cls yX11_rank yX11_rank ∈ xsGt := xs_w (xsT8 _ (List.mem_of_getElem? (i := 61) rfl)) rfl
theorem w_1846 : Cond.code yX11_rank cX11_rank 5 (some .int) ∈ xsGt := xs_w (xsT8 _ (List.mem_of_getElem? (i := 62) rfl)) rfl
theorem w_1847 : Cond.methodLink RL 177 yX11_road ∈ xsGt := xs_w (xsT8 _ (List.mem_of_getElem? (i := 63) rfl)) rfl
theorem w_1848 : Cond.instanceMethod yX11_road ∈ xsGt := xs_w (xsT8 _ (List.mem_of_getElem? (i := 64) rfl)) rfl
theorem w_1849 : Cond.selects yX11_road.cls yX11_road yX11_road ∈ xsGt := xs_w (xsT8 _ (List.mem_of_getElem? (i := 65) rfl)) rfl
theorem w_1850 : Cond.code yX11_road cX11_road 8 (some .int) ∈ xsGt := xs_w (xsT8 _ (List.mem_of_getElem? (i := 66) rfl)) rfl
theorem w_1851 : Cond.methodLink RL 181 yX11_view ∈ xsGt := xs_w (xsT8 _ (List.mem_of_getElem? (i := 67) rfl)) rfl
theorem w_1852 : Cond.instanceMethod yX11_view ∈ xsGt := xs_w (xsT8 _ (List.mem_of_getElem? (i := 68) rfl)) rfl
theorem w_1853 : Cond.selects yX11_view.cls yX11_view yX11_view ∈ xsGt := xs_w (xsT8 _ (List.mem_of_getElem? (i := 69) rfl)) rfl
theorem w_1854 : Cond.code yX11_view cX11_view 3 (some .int) ∈ xsGt := xs_w (xsT8 _ (List.mem_of_getElem? (i := 70) rfl)) rfl
theorem w_1855 : Cond.methodLink RX11 421 yX11_laysView ∈ xsGt := xs_w (xsT8 _ (List.mem_of_getElem? (i := 71) rfl)) rfl
theorem w_1857 : Cond.instanceMethod yX11_laysView ∈ xsGt := xs_w (xsT8 _ (List.mem_of_getElem? (i := 73) rfl)) rfl
theorem w_1858 : Cond.code yX11_laysView cX11_laysView 5 (some .int) ∈ xsGt := xs_w (xsT8 _ (List.mem_of_getElem? (i := 74) rfl)) rfl
theorem w_1859 : Cond.methodLink RL 184 yX11_tied ∈ xsGt := xs_w (xsT8 _ (List.mem_of_getElem? (i := 75) rfl)) rfl
theorem w_1860 : Cond.instanceMethod yX11_tied ∈ xsGt := xs_w (xsT8 _ (List.mem_of_getElem? (i := 76) rfl)) rfl
theorem w_1861 : Cond.selects yX11_tied.cls yX11_tied yX11_tied ∈ xsGt := xs_w (xsT8 _ (List.mem_of_getElem? (i := 77) rfl)) rfl
theorem w_1862 : Cond.code yX11_tied cX11_tied 2 (some .int) ∈ xsGt := xs_w (xsT8 _ (List.mem_of_getElem? (i := 78) rfl)) rfl
theorem w_1863 : Cond.methodLink RL 187 yX11_steps ∈ xsGt := xs_w (xsT8 _ (List.mem_of_getElem? (i := 79) rfl)) rfl
theorem w_1864 : Cond.instanceMethod yX11_steps ∈ xsGt := xs_w (xsT8 _ (List.mem_of_getElem? (i := 80) rfl)) rfl
theorem w_1865 : Cond.selects yX11_steps.cls yX11_steps yX11_steps ∈ xsGt := xs_w (xsT8 _ (List.mem_of_getElem? (i := 81) rfl)) rfl
theorem w_1866 : Cond.code yX11_steps cX11_steps 7 (some .int) ∈ xsGt := xs_w (xsT8 _ (List.mem_of_getElem? (i := 82) rfl)) rfl
theorem w_1867 : Cond.methodLink RL 191 yX11_hull ∈ xsGt := xs_w (xsT8 _ (List.mem_of_getElem? (i := 83) rfl)) rfl
theorem w_1868 : Cond.instanceMethod yX11_hull ∈ xsGt := xs_w (xsT8 _ (List.mem_of_getElem? (i := 84) rfl)) rfl
theorem w_1869 : Cond.selects yX11_hull.cls yX11_hull yX11_hull ∈ xsGt := xs_w (xsT8 _ (List.mem_of_getElem? (i := 85) rfl)) rfl
theorem w_1870 : Cond.code yX11_hull cX11_hull 3 (some .int) ∈ xsGt := xs_w (xsT8 _ (List.mem_of_getElem? (i := 86) rfl)) rfl
theorem w_1871 : Cond.methodLink RX11 433 yX11_laysHull ∈ xsGt := xs_w (xsT8 _ (List.mem_of_getElem? (i := 87) rfl)) rfl
theorem w_1873 : Cond.instanceMethod yX11_laysHull ∈ xsGt := xs_w (xsT8 _ (List.mem_of_getElem? (i := 89) rfl)) rfl
theorem w_1874 : Cond.code yX11_laysHull cX11_laysHull 6 (some .int) ∈ xsGt := xs_w (xsT8 _ (List.mem_of_getElem? (i := 90) rfl)) rfl
theorem w_1875 : Cond.methodLink RX11 427 yX11_laysEnds ∈ xsGt := xs_w (xsT8 _ (List.mem_of_getElem? (i := 91) rfl)) rfl
theorem w_1877 : Cond.instanceMethod yX11_laysEnds ∈ xsGt := xs_w (xsT8 _ (List.mem_of_getElem? (i := 93) rfl)) rfl
theorem w_1878 : Cond.code yX11_laysEnds cX11_laysEnds 2 none ∈ xsGt := xs_w (xsT8 _ (List.mem_of_getElem? (i := 94) rfl)) rfl
theorem w_1879 : Cond.methodLink RX11 430 yX11_isFurther ∈ xsGt := xs_w (xsT8 _ (List.mem_of_getElem? (i := 95) rfl)) rfl
theorem w_1881 : Cond.instanceMethod yX11_isFurther ∈ xsGt := xs_w (xsT8 _ (List.mem_of_getElem? (i := 97) rfl)) rfl
theorem w_1882 : Cond.code yX11_isFurther cX11_isFurther 7 (some .boolean) ∈ xsGt := xs_w (xsT8 _ (List.mem_of_getElem? (i := 98) rfl)) rfl
theorem w_1883 : Cond.methodLink RX11 424 yJ9_abs_0f7a4 ∈ xsGt := xs_w (xsT8 _ (List.mem_of_getElem? (i := 99) rfl)) rfl
theorem w_1884 : Cond.methodLink RL 194 yX11_on ∈ xsGt := xs_w (xsT8 _ (List.mem_of_getElem? (i := 100) rfl)) rfl
theorem w_1885 : Cond.instanceMethod yX11_on ∈ xsGt := xs_w (xsT8 _ (List.mem_of_getElem? (i := 101) rfl)) rfl
theorem w_1886 : Cond.selects yX11_on.cls yX11_on yX11_on ∈ xsGt := xs_w (xsT8 _ (List.mem_of_getElem? (i := 102) rfl)) rfl
theorem w_1887 : Cond.code yX11_on cX11_on 5 (some .int) ∈ xsGt := xs_w (xsT8 _ (List.mem_of_getElem? (i := 103) rfl)) rfl
theorem w_1888 : Cond.methodLink RL 197 yX11_at ∈ xsGt := xs_w (xsT8 _ (List.mem_of_getElem? (i := 104) rfl)) rfl
theorem w_1889 : Cond.instanceMethod yX11_at ∈ xsGt := xs_w (xsT8 _ (List.mem_of_getElem? (i := 105) rfl)) rfl
theorem w_1890 : Cond.selects yX11_at.cls yX11_at yX11_at ∈ xsGt := xs_w (xsT8 _ (List.mem_of_getElem? (i := 106) rfl)) rfl
theorem w_1891 : Cond.code yX11_at cX11_at 3 (some .int) ∈ xsGt := xs_w (xsT8 _ (List.mem_of_getElem? (i := 107) rfl)) rfl
theorem w_1892 : Cond.methodLink RX11 436 yX11_noPlace ∈ xsGt := xs_w (xsT8 _ (List.mem_of_getElem? (i := 108) rfl)) rfl
theorem w_1894 : Cond.instanceMethod yX11_noPlace ∈ xsGt := xs_w (xsT8 _ (List.mem_of_getElem? (i := 110) rfl)) rfl
theorem w_1895 : Cond.code yX11_noPlace cX11_noPlace 3 (some .boolean) ∈ xsGt := xs_w (xsT8 _ (List.mem_of_getElem? (i := 111) rfl)) rfl
theorem w_1896 : Cond.methodLink RX11 439 yX11_whoHas ∈ xsGt := xs_w (xsT8 _ (List.mem_of_getElem? (i := 112) rfl)) rfl
theorem w_1898 : Cond.instanceMethod yX11_whoHas ∈ xsGt := xs_w (xsT8 _ (List.mem_of_getElem? (i := 114) rfl)) rfl
theorem w_1899 : Cond.code yX11_whoHas cX11_whoHas 5 (some .int) ∈ xsGt := xs_w (xsT8 _ (List.mem_of_getElem? (i := 115) rfl)) rfl
theorem w_1900 : Cond.methodLink RL 201 yX11_next ∈ xsGt := xs_w (xsT8 _ (List.mem_of_getElem? (i := 116) rfl)) rfl
theorem w_1901 : Cond.instanceMethod yX11_next ∈ xsGt := xs_w (xsT8 _ (List.mem_of_getElem? (i := 117) rfl)) rfl
theorem w_1902 : Cond.selects yX11_next.cls yX11_next yX11_next ∈ xsGt := xs_w (xsT8 _ (List.mem_of_getElem? (i := 118) rfl)) rfl
theorem w_1903 : Cond.code yX11_next cX11_next 13 (some .int) ∈ xsGt := xs_w (xsT8 _ (List.mem_of_getElem? (i := 119) rfl)) rfl
theorem w_1904 : Cond.methodLink RX11 448 yX11_hasHeight ∈ xsGt := xs_w (xsT8 _ (List.mem_of_getElem? (i := 120) rfl)) rfl
theorem w_1906 : Cond.instanceMethod yX11_hasHeight ∈ xsGt := xs_w (xsT8 _ (List.mem_of_getElem? (i := 122) rfl)) rfl
theorem w_1907 : Cond.code yX11_hasHeight cX11_hasHeight 6 (some .boolean) ∈ xsGt := xs_w (xsT8 _ (List.mem_of_getElem? (i := 123) rfl)) rfl
theorem w_1908 : Cond.methodLink RL 204 yX11_over ∈ xsGt := xs_w (xsT8 _ (List.mem_of_getElem? (i := 124) rfl)) rfl
theorem w_1909 : Cond.instanceMethod yX11_over ∈ xsGt := xs_w (xsT8 _ (List.mem_of_getElem? (i := 125) rfl)) rfl
theorem w_1910 : Cond.selects yX11_over.cls yX11_over yX11_over ∈ xsGt := xs_w (xsT8 _ (List.mem_of_getElem? (i := 126) rfl)) rfl
theorem w_1911 : Cond.code yX11_over cX11_over 5 (some .int) ∈ xsGt := xs_w (xsT8 _ (List.mem_of_getElem? (i := 127) rfl)) rfl
theorem w_1912 : Cond.methodLink RL 208 yX11_sight ∈ xsGt := xs_w (xsT8 _ (List.mem_of_getElem? (i := 128) rfl)) rfl
theorem w_1913 : Cond.instanceMethod yX11_sight ∈ xsGt := xs_w (xsT8 _ (List.mem_of_getElem? (i := 129) rfl)) rfl
theorem w_1914 : Cond.selects yX11_sight.cls yX11_sight yX11_sight ∈ xsGt := xs_w (xsT8 _ (List.mem_of_getElem? (i := 130) rfl)) rfl
theorem w_1915 : Cond.code yX11_sight cX11_sight 14 (some .int) ∈ xsGt := xs_w (xsT8 _ (List.mem_of_getElem? (i := 131) rfl)) rfl
theorem w_1916 : Cond.methodLink RX11 455 yX11_takesStretch ∈ xsGt := xs_w (xsT8 _ (List.mem_of_getElem? (i := 132) rfl)) rfl
theorem w_1918 : Cond.instanceMethod yX11_takesStretch ∈ xsGt := xs_w (xsT8 _ (List.mem_of_getElem? (i := 134) rfl)) rfl
theorem w_1919 : Cond.code yX11_takesStretch cX11_takesStretch 6 none ∈ xsGt := xs_w (xsT8 _ (List.mem_of_getElem? (i := 135) rfl)) rfl
theorem w_1920 : Cond.methodLink RX11 459 yX11_takesNearer ∈ xsGt := xs_w (xsT8 _ (List.mem_of_getElem? (i := 136) rfl)) rfl
theorem w_1922 : Cond.instanceMethod yX11_takesNearer ∈ xsGt := xs_w (xsT8 _ (List.mem_of_getElem? (i := 138) rfl)) rfl
theorem w_1923 : Cond.code yX11_takesNearer cX11_takesNearer 9 none ∈ xsGt := xs_w (xsT8 _ (List.mem_of_getElem? (i := 139) rfl)) rfl
theorem w_1924 : Cond.methodLink RX11 452 yJ9_abs_067f4 ∈ xsGt := xs_w (xsT8 _ (List.mem_of_getElem? (i := 140) rfl)) rfl
theorem w_1925 : Cond.methodLink RL 211 yX11_box ∈ xsGt := xs_w (xsT8 _ (List.mem_of_getElem? (i := 141) rfl)) rfl
theorem w_1926 : Cond.instanceMethod yX11_box ∈ xsGt := xs_w (xsT8 _ (List.mem_of_getElem? (i := 142) rfl)) rfl
theorem w_1927 : Cond.selects yX11_box.cls yX11_box yX11_box ∈ xsGt := xs_w (xsT8 _ (List.mem_of_getElem? (i := 143) rfl)) rfl
theorem w_1928 : Cond.code yX11_box cX11_box 8 (some .int) ∈ xsGt := xs_w (xsT8 _ (List.mem_of_getElem? (i := 144) rfl)) rfl
theorem w_1929 : Cond.methodLink RX11 462 yX11_hits ∈ xsGt := xs_w (xsT8 _ (List.mem_of_getElem? (i := 145) rfl)) rfl
theorem w_1931 : Cond.instanceMethod yX11_hits ∈ xsGt := xs_w (xsT8 _ (List.mem_of_getElem? (i := 147) rfl)) rfl
theorem w_1932 : Cond.code yX11_hits cX11_hits 6 (some .boolean) ∈ xsGt := xs_w (xsT8 _ (List.mem_of_getElem? (i := 148) rfl)) rfl
theorem w_1933 : Cond.methodLink RL 214 yX11_tinted ∈ xsGt := xs_w (xsT8 _ (List.mem_of_getElem? (i := 149) rfl)) rfl
theorem w_1934 : Cond.instanceMethod yX11_tinted ∈ xsGt := xs_w (xsT8 _ (List.mem_of_getElem? (i := 150) rfl)) rfl
theorem w_1935 : Cond.selects yX11_tinted.cls yX11_tinted yX11_tinted ∈ xsGt := xs_w (xsT8 _ (List.mem_of_getElem? (i := 151) rfl)) rfl
theorem w_1936 : Cond.code yX11_tinted cX11_tinted 8 (some .int) ∈ xsGt := xs_w (xsT8 _ (List.mem_of_getElem? (i := 152) rfl)) rfl
theorem w_1937 : Cond.methodLink RL 227 yX11_count ∈ xsGt := xs_w (xsT8 _ (List.mem_of_getElem? (i := 153) rfl)) rfl
theorem w_1938 : Cond.instanceMethod yX11_count ∈ xsGt := xs_w (xsT8 _ (List.mem_of_getElem? (i := 154) rfl)) rfl
theorem w_1939 : Cond.selects yX11_count.cls yX11_count yX11_count ∈ xsGt := xs_w (xsT8 _ (List.mem_of_getElem? (i := 155) rfl)) rfl
theorem w_1940 : Cond.code yX11_count cX11_count 2 (some .int) ∈ xsGt := xs_w (xsT8 _ (List.mem_of_getElem? (i := 156) rfl)) rfl
theorem w_1941 : Cond.methodLink RX11 466 yX11_pairs ∈ xsGt := xs_w (xsT8 _ (List.mem_of_getElem? (i := 157) rfl)) rfl
theorem w_1943 : Cond.instanceMethod yX11_pairs ∈ xsGt := xs_w (xsT8 _ (List.mem_of_getElem? (i := 159) rfl)) rfl
theorem w_1944 : Cond.code yX11_pairs cX11_pairs 5 (some .int) ∈ xsGt := xs_w (xsT8 _ (List.mem_of_getElem? (i := 160) rfl)) rfl
theorem w_1945 : Cond.methodLink RX11 469 yX11_parts ∈ xsGt := xs_w (xsT8 _ (List.mem_of_getElem? (i := 161) rfl)) rfl
theorem w_1947 : Cond.instanceMethod yX11_parts ∈ xsGt := xs_w (xsT8 _ (List.mem_of_getElem? (i := 163) rfl)) rfl
theorem w_1948 : Cond.code yX11_parts cX11_parts 3 (some .int) ∈ xsGt := xs_w (xsT8 _ (List.mem_of_getElem? (i := 164) rfl)) rfl
theorem w_1949 : Cond.methodLink RX11 472 yX11_widestBundle ∈ xsGt := xs_w (xsT8 _ (List.mem_of_getElem? (i := 165) rfl)) rfl
theorem w_1951 : Cond.instanceMethod yX11_widestBundle ∈ xsGt := xs_w (xsT8 _ (List.mem_of_getElem? (i := 167) rfl)) rfl
theorem w_1952 : Cond.code yX11_widestBundle cX11_widestBundle 3 (some .int) ∈ xsGt := xs_w (xsT8 _ (List.mem_of_getElem? (i := 168) rfl)) rfl
theorem w_1953 : Cond.methodLink RX11 475 yX11_mostStatus ∈ xsGt := xs_w (xsT8 _ (List.mem_of_getElem? (i := 169) rfl)) rfl
theorem w_1955 : Cond.instanceMethod yX11_mostStatus ∈ xsGt := xs_w (xsT8 _ (List.mem_of_getElem? (i := 171) rfl)) rfl
theorem w_1956 : Cond.code yX11_mostStatus cX11_mostStatus 6 (some .int) ∈ xsGt := xs_w (xsT8 _ (List.mem_of_getElem? (i := 172) rfl)) rfl
theorem w_1957 : Cond.methodLink RX11 479 yX11_blame ∈ xsGt := xs_w (xsT8 _ (List.mem_of_getElem? (i := 173) rfl)) rfl
theorem w_1959 : Cond.instanceMethod yX11_blame ∈ xsGt := xs_w (xsT8 _ (List.mem_of_getElem? (i := 175) rfl)) rfl
theorem w_1960 : Cond.code yX11_blame cX11_blame 6 (some .int) ∈ xsGt := xs_w (xsT8 _ (List.mem_of_getElem? (i := 176) rfl)) rfl
theorem w_1961 : Cond.methodLink RX11 482 yX11_odd ∈ xsGt := xs_w (xsT8 _ (List.mem_of_getElem? (i := 177) rfl)) rfl
theorem w_1963 : Cond.instanceMethod yX11_odd ∈ xsGt := xs_w (xsT8 _ (List.mem_of_getElem? (i := 179) rfl)) rfl
theorem w_1964 : Cond.code yX11_odd cX11_odd 3 (some .int) ∈ xsGt := xs_w (xsT8 _ (List.mem_of_getElem? (i := 180) rfl)) rfl
theorem w_1965 : Cond.methodLink RX11 485 yX11_spreads ∈ xsGt := xs_w (xsT8 _ (List.mem_of_getElem? (i := 181) rfl)) rfl
theorem w_1967 : Cond.instanceMethod yX11_spreads ∈ xsGt := xs_w (xsT8 _ (List.mem_of_getElem? (i := 183) rfl)) rfl
theorem w_1968 : Cond.code yX11_spreads cX11_spreads 3 (some .int) ∈ xsGt := xs_w (xsT8 _ (List.mem_of_getElem? (i := 184) rfl)) rfl
