noncomputable def fX7_width (sLx : Nat → Int32) (sRx : Nat → Int32) (a0 : Int32) : Option (Int64) :=
  xsCk (vp_in a0 24) (xsCk (vp_in a0 24) (some (((sRx a0.toNatClampNeg) - (sLx a0.toNatClampNeg)).toInt64)))
set_option maxRecDepth 100000 in
set_option maxHeartbeats 8000000 in
theorem mX7_width (l : Launch) {X : xsX} {kIsKept kIsStale hiLatest hiSize scLength scFault scAt scNumber piSegmentsNow enKind enFromX enFromY enToX enToY tiMeetingPairs tiAlongPairs tiSize evSize evCrossings evSegmentsNow grEdges grQueued huSize huBestX huBestY : Int32} {scBytes scTold tiTouching tiLyingAlong evBundle evCrossingOf evEventOf evLeftEvent evRightEvent grDegree grFar grQueue huX huY : Nat → Int32} {enX enY enLower : Int64} {evX evY evLower : Nat → Int64} {S : Nat → xsV} {Rw : va_W} {js : Nat} (hjs : js < 12) {sLx sLy sRx sRy sTi : Nat → Int32} {sSz : Int32} (hs_s : S js = (sLx, sLy, sRx, sRy, sTi, sSz)) {a0 : Int32} {out : Int64} (hf : fX7_width sLx sRx a0 = some out) : Met l yX7_width (xsWs yX7_width cX7_width 2 (some .long)) { frames := 0, cells := 0, slots := 0, locals := 0 } (xsP X (wK X kIsKept kIsStale hiLatest hiSize scBytes scTold scLength scFault scAt scNumber piSegmentsNow enKind enX enY enLower enFromX enFromY enToX enToY tiTouching tiLyingAlong tiMeetingPairs tiAlongPairs tiSize evX evY evLower evBundle evCrossingOf evEventOf evLeftEvent evRightEvent evSize evCrossings evSegmentsNow grDegree grEdges grFar grQueue grQueued huX huY huSize huBestX huBestY S Rw) [.ref (xsA X (27 + 6 * js)), .int a0]) (xsQl X out (wK X kIsKept kIsStale hiLatest hiSize scBytes scTold scLength scFault scAt scNumber piSegmentsNow enKind enX enY enLower enFromX enFromY enToX enToY tiTouching tiLyingAlong tiMeetingPairs tiAlongPairs tiSize evX evY evLower evBundle evCrossingOf evEventOf evLeftEvent evRightEvent evSize evCrossings evSegmentsNow grDegree grEdges grFar grQueue grQueued huX huY huSize huBestX huBestY S Rw)) 0 0 (xsF X) := by
  refine xs_meth RX7 (by decide) rfl (Nat.le_of_ble_eq_true rfl) ?_
  intro p e s m below meth c ls H locs C hP hD hS hr hlk hl
  have hx := C.1
  have hb := C.2.1
  have hl : lv_has ls 2 [(0, .ref (xsA X (27 + 6 * js))), (1, .int a0)] := hl
  obtain ⟨Qq, hQq⟩ : ∃ Qq, Qq = xsQl X out (wK X kIsKept kIsStale hiLatest hiSize scBytes scTold scLength scFault scAt scNumber piSegmentsNow enKind enX enY enLower enFromX enFromY enToX enToY tiTouching tiLyingAlong tiMeetingPairs tiAlongPairs tiSize evX evY evLower evBundle evCrossingOf evEventOf evLeftEvent evRightEvent evSize evCrossings evSegmentsNow grDegree grEdges grFar grQueue grQueued huX huY huSize huBestX huBestY S Rw) := ⟨_, rfl⟩
  rw [← hQq]
  unfold fX7_width at hf
  refine lv_aload_n hx hb dX7_width_0 rfl (lv_at hl 0 rfl) ?_
  refine xg_X7_18 (j := js) hjs C hP dX7_width_1 ?_
  refine lv_iload_n hx hb dX7_width_4 rfl (lv_at hl 1 rfl) ?_
  replace hf := xsCk_use hf
  obtain ⟨h1, hf⟩ := hf
  refine xl_s2 (j := js) hjs hs_s C hP h1 dX7_width_5 ?_
  refine lv_aload_n hx hb dX7_width_6 rfl (lv_at hl 0 rfl) ?_
  refine xg_X7_9 (j := js) hjs C hP dX7_width_7 ?_
  refine lv_iload_n hx hb dX7_width_10 rfl (lv_at hl 1 rfl) ?_
  replace hf := xsCk_use hf
  obtain ⟨h2, hf⟩ := hf
  refine xl_s0 (j := js) hjs hs_s C hP h2 dX7_width_11 ?_
  refine lv_isub hx hb dX7_width_12 ?_
  refine lv_i2l hx hb dX7_width_13 rfl ?_
  have ho := Option.some.inj hf
  subst ho
  rw [hQq]
  exact xs_lret C hr hlk hP hD hS dX7_width_14
noncomputable def fX7_rise (sLy : Nat → Int32) (sRy : Nat → Int32) (a0 : Int32) : Option (Int64) :=
  xsCk (vp_in a0 24) (xsCk (vp_in a0 24) (some (((sRy a0.toNatClampNeg) - (sLy a0.toNatClampNeg)).toInt64)))
set_option maxRecDepth 100000 in
set_option maxHeartbeats 8000000 in
theorem mX7_rise (l : Launch) {X : xsX} {kIsKept kIsStale hiLatest hiSize scLength scFault scAt scNumber piSegmentsNow enKind enFromX enFromY enToX enToY tiMeetingPairs tiAlongPairs tiSize evSize evCrossings evSegmentsNow grEdges grQueued huSize huBestX huBestY : Int32} {scBytes scTold tiTouching tiLyingAlong evBundle evCrossingOf evEventOf evLeftEvent evRightEvent grDegree grFar grQueue huX huY : Nat → Int32} {enX enY enLower : Int64} {evX evY evLower : Nat → Int64} {S : Nat → xsV} {Rw : va_W} {js : Nat} (hjs : js < 12) {sLx sLy sRx sRy sTi : Nat → Int32} {sSz : Int32} (hs_s : S js = (sLx, sLy, sRx, sRy, sTi, sSz)) {a0 : Int32} {out : Int64} (hf : fX7_rise sLy sRy a0 = some out) : Met l yX7_rise (xsWs yX7_rise cX7_rise 2 (some .long)) { frames := 0, cells := 0, slots := 0, locals := 0 } (xsP X (wK X kIsKept kIsStale hiLatest hiSize scBytes scTold scLength scFault scAt scNumber piSegmentsNow enKind enX enY enLower enFromX enFromY enToX enToY tiTouching tiLyingAlong tiMeetingPairs tiAlongPairs tiSize evX evY evLower evBundle evCrossingOf evEventOf evLeftEvent evRightEvent evSize evCrossings evSegmentsNow grDegree grEdges grFar grQueue grQueued huX huY huSize huBestX huBestY S Rw) [.ref (xsA X (27 + 6 * js)), .int a0]) (xsQl X out (wK X kIsKept kIsStale hiLatest hiSize scBytes scTold scLength scFault scAt scNumber piSegmentsNow enKind enX enY enLower enFromX enFromY enToX enToY tiTouching tiLyingAlong tiMeetingPairs tiAlongPairs tiSize evX evY evLower evBundle evCrossingOf evEventOf evLeftEvent evRightEvent evSize evCrossings evSegmentsNow grDegree grEdges grFar grQueue grQueued huX huY huSize huBestX huBestY S Rw)) 0 0 (xsF X) := by
  refine xs_meth RX7 (by decide) rfl (Nat.le_of_ble_eq_true rfl) ?_
  intro p e s m below meth c ls H locs C hP hD hS hr hlk hl
  have hx := C.1
  have hb := C.2.1
  have hl : lv_has ls 2 [(0, .ref (xsA X (27 + 6 * js))), (1, .int a0)] := hl
  obtain ⟨Qq, hQq⟩ : ∃ Qq, Qq = xsQl X out (wK X kIsKept kIsStale hiLatest hiSize scBytes scTold scLength scFault scAt scNumber piSegmentsNow enKind enX enY enLower enFromX enFromY enToX enToY tiTouching tiLyingAlong tiMeetingPairs tiAlongPairs tiSize evX evY evLower evBundle evCrossingOf evEventOf evLeftEvent evRightEvent evSize evCrossings evSegmentsNow grDegree grEdges grFar grQueue grQueued huX huY huSize huBestX huBestY S Rw) := ⟨_, rfl⟩
  rw [← hQq]
  unfold fX7_rise at hf
  refine lv_aload_n hx hb dX7_rise_0 rfl (lv_at hl 0 rfl) ?_
  refine xg_X7_21 (j := js) hjs C hP dX7_rise_1 ?_
  refine lv_iload_n hx hb dX7_rise_4 rfl (lv_at hl 1 rfl) ?_
  replace hf := xsCk_use hf
  obtain ⟨h1, hf⟩ := hf
  refine xl_s3 (j := js) hjs hs_s C hP h1 dX7_rise_5 ?_
  refine lv_aload_n hx hb dX7_rise_6 rfl (lv_at hl 0 rfl) ?_
  refine xg_X7_15 (j := js) hjs C hP dX7_rise_7 ?_
  refine lv_iload_n hx hb dX7_rise_10 rfl (lv_at hl 1 rfl) ?_
  replace hf := xsCk_use hf
  obtain ⟨h2, hf⟩ := hf
  refine xl_s1 (j := js) hjs hs_s C hP h2 dX7_rise_11 ?_
  refine lv_isub hx hb dX7_rise_12 ?_
  refine lv_i2l hx hb dX7_rise_13 rfl ?_
  have ho := Option.some.inj hf
  subst ho
  rw [hQq]
  exact xs_lret C hr hlk hP hD hS dX7_rise_14
noncomputable def fX7_gapAbove (sLx : Nat → Int32) (sLy : Nat → Int32) (sRx : Nat → Int32) (sRy : Nat → Int32) (a0 : Int32) (a1 : Int32) (a2 : Int32) : Option (Int64) :=
  xsBd (fX7_width sLx sRx a0) (fun o1 => xsBr (o1 = (0 : Int64)) (xsCk (vp_in a0 24) (xsBr ((sLy a0.toNatClampNeg) ≤ a2) (xsCk (vp_in a0 24) (xsBr (a2 ≤ (sRy a0.toNatClampNeg)) (some (0 : Int64)) (xsCk (vp_in a0 24) (some (((sRy a0.toNatClampNeg) - a2).toInt64))))) (xsCk (vp_in a0 24) (some (((sLy a0.toNatClampNeg) - a2).toInt64))))) (xsCk (vp_in a0 24) (xsBd (fX7_width sLx sRx a0) (fun o10 => xsCk (vp_in a0 24) (xsBd (fX7_rise sLy sRy a0) (fun o13 => some (((((sLy a0.toNatClampNeg) - a2).toInt64) * o10) + (((a1 - (sLx a0.toNatClampNeg)).toInt64) * o13))))))))
set_option maxRecDepth 100000 in
set_option maxHeartbeats 8000000 in
theorem mX7_gapAbove (l : Launch) {X : xsX} {kIsKept kIsStale hiLatest hiSize scLength scFault scAt scNumber piSegmentsNow enKind enFromX enFromY enToX enToY tiMeetingPairs tiAlongPairs tiSize evSize evCrossings evSegmentsNow grEdges grQueued huSize huBestX huBestY : Int32} {scBytes scTold tiTouching tiLyingAlong evBundle evCrossingOf evEventOf evLeftEvent evRightEvent grDegree grFar grQueue huX huY : Nat → Int32} {enX enY enLower : Int64} {evX evY evLower : Nat → Int64} {S : Nat → xsV} {Rw : va_W} {js : Nat} (hjs : js < 12) {sLx sLy sRx sRy sTi : Nat → Int32} {sSz : Int32} (hs_s : S js = (sLx, sLy, sRx, sRy, sTi, sSz)) {a0 : Int32} {a1 : Int32} {a2 : Int32} {out : Int64} (hf : fX7_gapAbove sLx sLy sRx sRy a0 a1 a2 = some out) : Met l yX7_gapAbove (xsWs yX7_gapAbove cX7_gapAbove 4 (some .long)) { frames := 1, cells := 0, slots := 0, locals := 21 } (xsP X (wK X kIsKept kIsStale hiLatest hiSize scBytes scTold scLength scFault scAt scNumber piSegmentsNow enKind enX enY enLower enFromX enFromY enToX enToY tiTouching tiLyingAlong tiMeetingPairs tiAlongPairs tiSize evX evY evLower evBundle evCrossingOf evEventOf evLeftEvent evRightEvent evSize evCrossings evSegmentsNow grDegree grEdges grFar grQueue grQueued huX huY huSize huBestX huBestY S Rw) [.ref (xsA X (27 + 6 * js)), .int a0, .int a1, .int a2]) (xsQl X out (wK X kIsKept kIsStale hiLatest hiSize scBytes scTold scLength scFault scAt scNumber piSegmentsNow enKind enX enY enLower enFromX enFromY enToX enToY tiTouching tiLyingAlong tiMeetingPairs tiAlongPairs tiSize evX evY evLower evBundle evCrossingOf evEventOf evLeftEvent evRightEvent evSize evCrossings evSegmentsNow grDegree grEdges grFar grQueue grQueued huX huY huSize huBestX huBestY S Rw)) 0 0 (xsF X) := by
  refine xs_meth RX7 (by decide) rfl (Nat.le_of_ble_eq_true rfl) ?_
  intro p e s m below meth c ls H locs C hP hD hS hr hlk hl
  have hx := C.1
  have hb := C.2.1
  have hl : lv_has ls 4 [(0, .ref (xsA X (27 + 6 * js))), (1, .int a0), (2, .int a1), (3, .int a2)] := hl
  obtain ⟨Qq, hQq⟩ : ∃ Qq, Qq = xsQl X out (wK X kIsKept kIsStale hiLatest hiSize scBytes scTold scLength scFault scAt scNumber piSegmentsNow enKind enX enY enLower enFromX enFromY enToX enToY tiTouching tiLyingAlong tiMeetingPairs tiAlongPairs tiSize evX evY evLower evBundle evCrossingOf evEventOf evLeftEvent evRightEvent evSize evCrossings evSegmentsNow grDegree grEdges grFar grQueue grQueued huX huY huSize huBestX huBestY S Rw) := ⟨_, rfl⟩
  rw [← hQq]
  unfold fX7_gapAbove at hf
  refine lv_aload_n hx hb dX7_gapAbove_0 rfl (lv_at hl 0 rfl) ?_
  refine lv_iload_n hx hb dX7_gapAbove_1 rfl (lv_at hl 1 rfl) ?_
  replace hf := xsBd_use hf
  obtain ⟨o1, h2, hf⟩ := hf
  refine xs_calll hS (xs_runV (As := [.int a0]) C (mX7_width l (js := js) hjs hs_s h2) w_1083 w_571 w_572 w_106 w_573 hd_X7_width ⟨rfl, rfl, Nat.le_of_ble_eq_true rfl, Nat.le_of_ble_eq_true rfl, Nat.zero_le _, Nat.zero_le _⟩ hP hD hS (xs_lkS hjs) rfl hl.1 rfl (Nat.le_of_ble_eq_true rfl) dX7_gapAbove_2) (fun H locs hP hD hS => ?_)
  refine lv_lconst (v := (0 : Int64)) hx hb dX7_gapAbove_5 (by decide) ?_
  refine xs_lcmp_eq (tgt := 42) C dX7_gapAbove_6 dX7_gapAbove_7 (by decide) (fun c15 => ?_) (fun c15 => ?_)
  · replace hf := xsBr_t c15 hf
    refine lv_aload_n hx hb dX7_gapAbove_42 rfl (lv_at hl 0 rfl) ?_
    refine xg_X7_15 (j := js) hjs C hP dX7_gapAbove_43 ?_
    refine lv_iload_n hx hb dX7_gapAbove_46 rfl (lv_at hl 1 rfl) ?_
    replace hf := xsCk_use hf
    obtain ⟨h3, hf⟩ := hf
    refine xl_s1 (j := js) hjs hs_s C hP h3 dX7_gapAbove_47 ?_
    refine lv_iload_n hx hb dX7_gapAbove_48 rfl (lv_at hl 3 rfl) ?_
    refine lv_icmp_le (tgt := 62) hx hb dX7_gapAbove_49 (by decide) (fun c8 => ?_) (fun c8 => ?_)
    · replace hf := xsBr_t c8 hf
      refine lv_aload_n hx hb dX7_gapAbove_62 rfl (lv_at hl 0 rfl) ?_
      refine xg_X7_21 (j := js) hjs C hP dX7_gapAbove_63 ?_
      refine lv_iload_n hx hb dX7_gapAbove_66 rfl (lv_at hl 1 rfl) ?_
      replace hf := xsCk_use hf
      obtain ⟨h4, hf⟩ := hf
      refine xl_s3 (j := js) hjs hs_s C hP h4 dX7_gapAbove_67 ?_
      refine lv_iload_n hx hb dX7_gapAbove_68 rfl (lv_at hl 3 rfl) ?_
      refine lv_icmp_ge (tgt := 84) hx hb dX7_gapAbove_69 (by decide) (fun c6 => ?_) (fun c6 => ?_)
      · replace hf := xsBr_t c6 hf
        refine lv_lconst (v := (0 : Int64)) hx hb dX7_gapAbove_84 (by decide) ?_
        have ho := Option.some.inj hf
        subst ho
        rw [hQq]
        exact xs_lret C hr hlk hP hD hS dX7_gapAbove_85
      · replace hf := xsBr_f c6 hf
        refine lv_aload_n hx hb dX7_gapAbove_72 rfl (lv_at hl 0 rfl) ?_
        refine xg_X7_21 (j := js) hjs C hP dX7_gapAbove_73 ?_
        refine lv_iload_n hx hb dX7_gapAbove_76 rfl (lv_at hl 1 rfl) ?_
        replace hf := xsCk_use hf
        obtain ⟨h5, hf⟩ := hf
        refine xl_s3 (j := js) hjs hs_s C hP h5 dX7_gapAbove_77 ?_
        refine lv_iload_n hx hb dX7_gapAbove_78 rfl (lv_at hl 3 rfl) ?_
        refine lv_isub hx hb dX7_gapAbove_79 ?_
        refine lv_i2l hx hb dX7_gapAbove_80 rfl ?_
        refine lv_goto (tgt := 85) hx hb dX7_gapAbove_81 (by decide) ?_
        have ho := Option.some.inj hf
        subst ho
        rw [hQq]
        exact xs_lret C hr hlk hP hD hS dX7_gapAbove_85
    · replace hf := xsBr_f c8 hf
      refine lv_aload_n hx hb dX7_gapAbove_52 rfl (lv_at hl 0 rfl) ?_
      refine xg_X7_15 (j := js) hjs C hP dX7_gapAbove_53 ?_
      refine lv_iload_n hx hb dX7_gapAbove_56 rfl (lv_at hl 1 rfl) ?_
      replace hf := xsCk_use hf
      obtain ⟨h7, hf⟩ := hf
      refine xl_s1 (j := js) hjs hs_s C hP h7 dX7_gapAbove_57 ?_
      refine lv_iload_n hx hb dX7_gapAbove_58 rfl (lv_at hl 3 rfl) ?_
      refine lv_isub hx hb dX7_gapAbove_59 ?_
      refine lv_i2l hx hb dX7_gapAbove_60 rfl ?_
      have ho := Option.some.inj hf
      subst ho
      rw [hQq]
      exact xs_lret C hr hlk hP hD hS dX7_gapAbove_61
  · replace hf := xsBr_f c15 hf
    refine lv_aload_n hx hb dX7_gapAbove_10 rfl (lv_at hl 0 rfl) ?_
    refine xg_X7_15 (j := js) hjs C hP dX7_gapAbove_11 ?_
    refine lv_iload_n hx hb dX7_gapAbove_14 rfl (lv_at hl 1 rfl) ?_
    replace hf := xsCk_use hf
    obtain ⟨h9, hf⟩ := hf
    refine xl_s1 (j := js) hjs hs_s C hP h9 dX7_gapAbove_15 ?_
    refine lv_iload_n hx hb dX7_gapAbove_16 rfl (lv_at hl 3 rfl) ?_
    refine lv_isub hx hb dX7_gapAbove_17 ?_
    refine lv_i2l hx hb dX7_gapAbove_18 rfl ?_
    refine lv_aload_n hx hb dX7_gapAbove_19 rfl (lv_at hl 0 rfl) ?_
    refine lv_iload_n hx hb dX7_gapAbove_20 rfl (lv_at hl 1 rfl) ?_
    replace hf := xsBd_use hf
    obtain ⟨o10, h11, hf⟩ := hf
    refine xs_calll hS (xs_runV (As := [.int a0]) C (mX7_width l (js := js) hjs hs_s h11) w_1083 w_571 w_572 w_106 w_573 hd_X7_width ⟨rfl, rfl, Nat.le_of_ble_eq_true rfl, Nat.le_of_ble_eq_true rfl, Nat.zero_le _, Nat.zero_le _⟩ hP hD hS (xs_lkS hjs) rfl hl.1 rfl (Nat.le_of_ble_eq_true rfl) dX7_gapAbove_21) (fun H locs hP hD hS => ?_)
    refine lv_lmul hx hb dX7_gapAbove_24 ?_
    refine lv_iload_n hx hb dX7_gapAbove_25 rfl (lv_at hl 2 rfl) ?_
    refine lv_aload_n hx hb dX7_gapAbove_26 rfl (lv_at hl 0 rfl) ?_
    refine xg_X7_9 (j := js) hjs C hP dX7_gapAbove_27 ?_
    refine lv_iload_n hx hb dX7_gapAbove_30 rfl (lv_at hl 1 rfl) ?_
    replace hf := xsCk_use hf
    obtain ⟨h12, hf⟩ := hf
    refine xl_s0 (j := js) hjs hs_s C hP h12 dX7_gapAbove_31 ?_
    refine lv_isub hx hb dX7_gapAbove_32 ?_
    refine lv_i2l hx hb dX7_gapAbove_33 rfl ?_
    refine lv_aload_n hx hb dX7_gapAbove_34 rfl (lv_at hl 0 rfl) ?_
    refine lv_iload_n hx hb dX7_gapAbove_35 rfl (lv_at hl 1 rfl) ?_
    replace hf := xsBd_use hf
    obtain ⟨o13, h14, hf⟩ := hf
    refine xs_calll hS (xs_runV (As := [.int a0]) C (mX7_rise l (js := js) hjs hs_s h14) w_1084 w_575 w_576 w_106 w_577 hd_X7_rise ⟨rfl, rfl, Nat.le_of_ble_eq_true rfl, Nat.le_of_ble_eq_true rfl, Nat.zero_le _, Nat.zero_le _⟩ hP hD hS (xs_lkS hjs) rfl hl.1 rfl (Nat.le_of_ble_eq_true rfl) dX7_gapAbove_36) (fun H locs hP hD hS => ?_)
    refine lv_lmul hx hb dX7_gapAbove_39 ?_
    refine lv_ladd hx hb dX7_gapAbove_40 ?_
    have ho := Option.some.inj hf
    subst ho
    rw [hQq]
    exact xs_lret C hr hlk hP hD hS dX7_gapAbove_41
noncomputable def fX7_put_J92 (sRy : Nat → Int32) (a0 : Int32) (f4 : Nat → Int32) (f7 : Nat → Int32) (f10 : Nat → Int32) (y11 : Int32) : Option ((Nat → Int32) × (Nat → Int32) × (Nat → Int32) × (Nat → Int32)) :=
  xsCk (vp_in a0 24) (xsLt (upd sRy a0.toNatClampNeg y11) (fun f13 => some (f4, f7, f10, f13)))
noncomputable def fX7_put_J75 (sRx : Nat → Int32) (sRy : Nat → Int32) (a0 : Int32) (a2 : Int32) (a4 : Int32) (y1 : Int32) (f4 : Nat → Int32) (f7 : Nat → Int32) (y8 : Int32) : Option ((Nat → Int32) × (Nat → Int32) × (Nat → Int32) × (Nat → Int32)) :=
  xsCk (vp_in a0 24) (xsLt (upd sRx a0.toNatClampNeg y8) (fun f10 => xsBd (xsBr (y1 = 0) (some a2) (some a4)) (fun v14 => fX7_put_J92 sRy a0 f4 f7 f10 v14)))
noncomputable def fX7_put_J58 (sLy : Nat → Int32) (sRx : Nat → Int32) (sRy : Nat → Int32) (a0 : Int32) (a1 : Int32) (a2 : Int32) (a3 : Int32) (a4 : Int32) (y1 : Int32) (f4 : Nat → Int32) (y5 : Int32) : Option ((Nat → Int32) × (Nat → Int32) × (Nat → Int32) × (Nat → Int32)) :=
  xsCk (vp_in a0 24) (xsLt (upd sLy a0.toNatClampNeg y5) (fun f7 => xsBd (xsBr (y1 = 0) (some a1) (some a3)) (fun v18 => fX7_put_J75 sRx sRy a0 a2 a4 y1 f4 f7 v18)))
noncomputable def fX7_put_J41 (sLx : Nat → Int32) (sLy : Nat → Int32) (sRx : Nat → Int32) (sRy : Nat → Int32) (a0 : Int32) (a1 : Int32) (a2 : Int32) (a3 : Int32) (a4 : Int32) (y1 : Int32) (y2 : Int32) : Option ((Nat → Int32) × (Nat → Int32) × (Nat → Int32) × (Nat → Int32)) :=
  xsCk (vp_in a0 24) (xsLt (upd sLx a0.toNatClampNeg y2) (fun f4 => xsBd (xsBr (y1 = 0) (some a4) (some a2)) (fun v22 => fX7_put_J58 sLy sRx sRy a0 a1 a2 a3 a4 y1 f4 v22)))
noncomputable def fX7_put_J23 (sLx : Nat → Int32) (sLy : Nat → Int32) (sRx : Nat → Int32) (sRy : Nat → Int32) (a0 : Int32) (a1 : Int32) (a2 : Int32) (a3 : Int32) (a4 : Int32) (y1 : Int32) : Option ((Nat → Int32) × (Nat → Int32) × (Nat → Int32) × (Nat → Int32)) :=
  xsBd (xsBr (y1 = 0) (some a3) (some a1)) (fun v26 => fX7_put_J41 sLx sLy sRx sRy a0 a1 a2 a3 a4 y1 v26)
noncomputable def fX7_put (sLx : Nat → Int32) (sLy : Nat → Int32) (sRx : Nat → Int32) (sRy : Nat → Int32) (a0 : Int32) (a1 : Int32) (a2 : Int32) (a3 : Int32) (a4 : Int32) : Option ((Nat → Int32) × (Nat → Int32) × (Nat → Int32) × (Nat → Int32)) :=
  xsBd (xsBr (a1 < a3) (some (1 : Int32)) (xsBr (a1 = a3) (xsBr (a4 < a2) (some (0 : Int32)) (some (1 : Int32))) (some (0 : Int32)))) (fun v30 => fX7_put_J23 sLx sLy sRx sRy a0 a1 a2 a3 a4 v30)
set_option maxRecDepth 100000 in
set_option maxHeartbeats 8000000 in
theorem mX7_put (l : Launch) {X : xsX} {kIsKept kIsStale hiLatest hiSize scLength scFault scAt scNumber piSegmentsNow enKind enFromX enFromY enToX enToY tiMeetingPairs tiAlongPairs tiSize evSize evCrossings evSegmentsNow grEdges grQueued huSize huBestX huBestY : Int32} {scBytes scTold tiTouching tiLyingAlong evBundle evCrossingOf evEventOf evLeftEvent evRightEvent grDegree grFar grQueue huX huY : Nat → Int32} {enX enY enLower : Int64} {evX evY evLower : Nat → Int64} {S : Nat → xsV} {Rw : va_W} {js : Nat} (hjs : js < 12) {sLx sLy sRx sRy sTi : Nat → Int32} {sSz : Int32} (hs_s : S js = (sLx, sLy, sRx, sRy, sTi, sSz)) {a0 : Int32} {a1 : Int32} {a2 : Int32} {a3 : Int32} {a4 : Int32} {out : (Nat → Int32) × (Nat → Int32) × (Nat → Int32) × (Nat → Int32)} (hf : fX7_put sLx sLy sRx sRy a0 a1 a2 a3 a4 = some out) : Met l yX7_put (xsWs yX7_put cX7_put 7 none) { frames := 0, cells := 0, slots := 0, locals := 0 } (xsP X (wK X kIsKept kIsStale hiLatest hiSize scBytes scTold scLength scFault scAt scNumber piSegmentsNow enKind enX enY enLower enFromX enFromY enToX enToY tiTouching tiLyingAlong tiMeetingPairs tiAlongPairs tiSize evX evY evLower evBundle evCrossingOf evEventOf evLeftEvent evRightEvent evSize evCrossings evSegmentsNow grDegree grEdges grFar grQueue grQueued huX huY huSize huBestX huBestY S Rw) [.ref (xsA X (27 + 6 * js)), .int a0, .int a1, .int a2, .int a3, .int a4]) (xsQv X (wK X kIsKept kIsStale hiLatest hiSize scBytes scTold scLength scFault scAt scNumber piSegmentsNow enKind enX enY enLower enFromX enFromY enToX enToY tiTouching tiLyingAlong tiMeetingPairs tiAlongPairs tiSize evX evY evLower evBundle evCrossingOf evEventOf evLeftEvent evRightEvent evSize evCrossings evSegmentsNow grDegree grEdges grFar grQueue grQueued huX huY huSize huBestX huBestY (xsSu S js (out.1, out.2.1, out.2.2.1, out.2.2.2, sTi, sSz)) Rw)) 0 0 (xsF X) := by
  refine xs_meth RX7 (by decide) rfl (Nat.le_of_ble_eq_true rfl) ?_
  intro p e s m below meth c ls H locs C hP hD hS hr hlk hl
  have hx := C.1
  have hb := C.2.1
  have hl : lv_has ls 7 [(0, .ref (xsA X (27 + 6 * js))), (1, .int a0), (2, .int a1), (3, .int a2), (4, .int a3), (5, .int a4)] := hl
  obtain ⟨Qq, hQq⟩ : ∃ Qq, Qq = xsQv X (wK X kIsKept kIsStale hiLatest hiSize scBytes scTold scLength scFault scAt scNumber piSegmentsNow enKind enX enY enLower enFromX enFromY enToX enToY tiTouching tiLyingAlong tiMeetingPairs tiAlongPairs tiSize evX evY evLower evBundle evCrossingOf evEventOf evLeftEvent evRightEvent evSize evCrossings evSegmentsNow grDegree grEdges grFar grQueue grQueued huX huY huSize huBestX huBestY (xsSu S js (out.1, out.2.1, out.2.2.1, out.2.2.2, sTi, sSz)) Rw) := ⟨_, rfl⟩
  rw [← hQq]
  unfold fX7_put at hf
  refine lv_iload_n hx hb dX7_put_0 rfl (lv_at hl 2 rfl) ?_
  refine lv_iload hx hb dX7_put_1 (lv_at hl 4 rfl) ?_
  have K32 : ∀ (y1 : Int32) (hf : fX7_put_J23 sLx sLy sRx sRy a0 a1 a2 a3 a4 y1 = some out) (H : Heap) (locs : List Loc) (ls : Array Slot), va_P (xsD X) vwCl (wK X kIsKept kIsStale hiLatest hiSize scBytes scTold scLength scFault scAt scNumber piSegmentsNow enKind enX enY enLower enFromX enFromY enToX enToY tiTouching tiLyingAlong tiMeetingPairs tiAlongPairs tiSize evX evY evLower evBundle evCrossingOf evEventOf evLeftEvent evRightEvent evSize evCrossings evSegmentsNow grDegree grEdges grFar grQueue grQueued huX huY huSize huBestX huBestY S Rw) H → va_D (xsF X) (wK X kIsKept kIsStale hiLatest hiSize scBytes scTold scLength scFault scAt scNumber piSegmentsNow enKind enX enY enLower enFromX enFromY enToX enToY tiTouching tiLyingAlong tiMeetingPairs tiAlongPairs tiSize evX evY evLower evBundle evCrossingOf evEventOf evLeftEvent evRightEvent evSize evCrossings evSegmentsNow grDegree grEdges grFar grQueue grQueued huX huY huSize huBestX huBestY S Rw) → va_S (xsF X) s.heap H locs → lv_has ls 7 [(0, .ref (xsA X (27 + 6 * js))), (1, .int a0), (2, .int a1), (3, .int a2), (4, .int a3), (5, .int a4)] → W p l e { frames := 0, cells := 0, slots := 0, locals := 0 } s m ([.ref (xsA X (27 + 6 * js)), .int a0, .int a1, .int a2, .int a3, .int a4] : List Value).toArray below meth c H locs 0 0 (MQ below Qq ([.ref (xsA X (27 + 6 * js)), .int a0, .int a1, .int a2, .int a3, .int a4] : List Value).toArray s 0 0 (xsF X)) (F0 m 23 ls [.int y1]) := by
    intro y1 hf H locs ls hP hD hS hl
    unfold fX7_put_J23 at hf
    refine lv_istore (lv' := [(6, .int y1), (0, .ref (xsA X (27 + 6 * js))), (1, .int a0), (2, .int a1), (3, .int a2), (4, .int a3), (5, .int a4)]) hx hb dX7_put_23 hl (by decide) rfl (fun ls hl => ?_)
    refine lv_aload_n hx hb dX7_put_25 rfl (lv_at hl 1 rfl) ?_
    refine xg_X7_9 (j := js) hjs C hP dX7_put_26 ?_
    refine lv_iload_n hx hb dX7_put_29 rfl (lv_at hl 2 rfl) ?_
    refine lv_iload hx hb dX7_put_30 (lv_at hl 0 rfl) ?_
    have K28 : ∀ (y2 : Int32) (hf : fX7_put_J41 sLx sLy sRx sRy a0 a1 a2 a3 a4 y1 y2 = some out) (H : Heap) (locs : List Loc) (ls : Array Slot), va_P (xsD X) vwCl (wK X kIsKept kIsStale hiLatest hiSize scBytes scTold scLength scFault scAt scNumber piSegmentsNow enKind enX enY enLower enFromX enFromY enToX enToY tiTouching tiLyingAlong tiMeetingPairs tiAlongPairs tiSize evX evY evLower evBundle evCrossingOf evEventOf evLeftEvent evRightEvent evSize evCrossings evSegmentsNow grDegree grEdges grFar grQueue grQueued huX huY huSize huBestX huBestY S Rw) H → va_D (xsF X) (wK X kIsKept kIsStale hiLatest hiSize scBytes scTold scLength scFault scAt scNumber piSegmentsNow enKind enX enY enLower enFromX enFromY enToX enToY tiTouching tiLyingAlong tiMeetingPairs tiAlongPairs tiSize evX evY evLower evBundle evCrossingOf evEventOf evLeftEvent evRightEvent evSize evCrossings evSegmentsNow grDegree grEdges grFar grQueue grQueued huX huY huSize huBestX huBestY S Rw) → va_S (xsF X) s.heap H locs → lv_has ls 7 [(0, .ref (xsA X (27 + 6 * js))), (1, .int a0), (2, .int a1), (3, .int a2), (4, .int a3), (5, .int a4), (6, .int y1)] → W p l e { frames := 0, cells := 0, slots := 0, locals := 0 } s m ([.ref (xsA X (27 + 6 * js)), .int a0, .int a1, .int a2, .int a3, .int a4] : List Value).toArray below meth c H locs 0 0 (MQ below Qq ([.ref (xsA X (27 + 6 * js)), .int a0, .int a1, .int a2, .int a3, .int a4] : List Value).toArray s 0 0 (xsF X)) (F0 m 41 ls [.int y2, .int a0, .ref (xsA X (28 + 6 * js))]) := by
      intro y2 hf H locs ls hP hD hS hl
      unfold fX7_put_J41 at hf
      replace hf := xsCk_use hf
      obtain ⟨h3, hf⟩ := hf
      refine xs_s0 (j := js) hjs hs_s (fun f' => (xsSu S js (f', sLy, sRx, sRy, sTi, sSz))) (fun f' => rfl) C hP hD hS h3 dX7_put_41 (fun f4 ef4 H locs hP hD hS hz => ?_)
      clear hz
      replace hf := xsLt_use ef4 hf
      refine lv_aload_n hx hb dX7_put_42 rfl (lv_at hl 0 rfl) ?_
      refine xg_X7_15 (j := js) hjs C hP dX7_put_43 ?_
      refine lv_iload_n hx hb dX7_put_46 rfl (lv_at hl 1 rfl) ?_
      refine lv_iload hx hb dX7_put_47 (lv_at hl 6 rfl) ?_
      have K24 : ∀ (y5 : Int32) (hf : fX7_put_J58 sLy sRx sRy a0 a1 a2 a3 a4 y1 f4 y5 = some out) (H : Heap) (locs : List Loc) (ls : Array Slot), va_P (xsD X) vwCl (wK X kIsKept kIsStale hiLatest hiSize scBytes scTold scLength scFault scAt scNumber piSegmentsNow enKind enX enY enLower enFromX enFromY enToX enToY tiTouching tiLyingAlong tiMeetingPairs tiAlongPairs tiSize evX evY evLower evBundle evCrossingOf evEventOf evLeftEvent evRightEvent evSize evCrossings evSegmentsNow grDegree grEdges grFar grQueue grQueued huX huY huSize huBestX huBestY (xsSu S js (f4, sLy, sRx, sRy, sTi, sSz)) Rw) H → va_D (xsF X) (wK X kIsKept kIsStale hiLatest hiSize scBytes scTold scLength scFault scAt scNumber piSegmentsNow enKind enX enY enLower enFromX enFromY enToX enToY tiTouching tiLyingAlong tiMeetingPairs tiAlongPairs tiSize evX evY evLower evBundle evCrossingOf evEventOf evLeftEvent evRightEvent evSize evCrossings evSegmentsNow grDegree grEdges grFar grQueue grQueued huX huY huSize huBestX huBestY (xsSu S js (f4, sLy, sRx, sRy, sTi, sSz)) Rw) → va_S (xsF X) s.heap H locs → lv_has ls 7 [(0, .ref (xsA X (27 + 6 * js))), (1, .int a0), (2, .int a1), (3, .int a2), (4, .int a3), (5, .int a4), (6, .int y1)] → W p l e { frames := 0, cells := 0, slots := 0, locals := 0 } s m ([.ref (xsA X (27 + 6 * js)), .int a0, .int a1, .int a2, .int a3, .int a4] : List Value).toArray below meth c H locs 0 0 (MQ below Qq ([.ref (xsA X (27 + 6 * js)), .int a0, .int a1, .int a2, .int a3, .int a4] : List Value).toArray s 0 0 (xsF X)) (F0 m 58 ls [.int y5, .int a0, .ref (xsA X (29 + 6 * js))]) := by
        intro y5 hf H locs ls hP hD hS hl
        unfold fX7_put_J58 at hf
        replace hf := xsCk_use hf
        obtain ⟨h6, hf⟩ := hf
        refine xs_s1 (j := js) hjs (xsSu_eq _ _ _) (fun f' => (xsSu S js (f4, f', sRx, sRy, sTi, sSz))) (fun f' => (xsSu_up _ _ _ _)) C hP hD hS h6 dX7_put_58 (fun f7 ef7 H locs hP hD hS hz => ?_)
        clear hz
        replace hf := xsLt_use ef7 hf
        refine lv_aload_n hx hb dX7_put_59 rfl (lv_at hl 0 rfl) ?_
        refine xg_X7_18 (j := js) hjs C hP dX7_put_60 ?_
        refine lv_iload_n hx hb dX7_put_63 rfl (lv_at hl 1 rfl) ?_
        refine lv_iload hx hb dX7_put_64 (lv_at hl 6 rfl) ?_
        have K20 : ∀ (y8 : Int32) (hf : fX7_put_J75 sRx sRy a0 a2 a4 y1 f4 f7 y8 = some out) (H : Heap) (locs : List Loc) (ls : Array Slot), va_P (xsD X) vwCl (wK X kIsKept kIsStale hiLatest hiSize scBytes scTold scLength scFault scAt scNumber piSegmentsNow enKind enX enY enLower enFromX enFromY enToX enToY tiTouching tiLyingAlong tiMeetingPairs tiAlongPairs tiSize evX evY evLower evBundle evCrossingOf evEventOf evLeftEvent evRightEvent evSize evCrossings evSegmentsNow grDegree grEdges grFar grQueue grQueued huX huY huSize huBestX huBestY (xsSu S js (f4, f7, sRx, sRy, sTi, sSz)) Rw) H → va_D (xsF X) (wK X kIsKept kIsStale hiLatest hiSize scBytes scTold scLength scFault scAt scNumber piSegmentsNow enKind enX enY enLower enFromX enFromY enToX enToY tiTouching tiLyingAlong tiMeetingPairs tiAlongPairs tiSize evX evY evLower evBundle evCrossingOf evEventOf evLeftEvent evRightEvent evSize evCrossings evSegmentsNow grDegree grEdges grFar grQueue grQueued huX huY huSize huBestX huBestY (xsSu S js (f4, f7, sRx, sRy, sTi, sSz)) Rw) → va_S (xsF X) s.heap H locs → lv_has ls 7 [(0, .ref (xsA X (27 + 6 * js))), (1, .int a0), (3, .int a2), (5, .int a4), (6, .int y1)] → W p l e { frames := 0, cells := 0, slots := 0, locals := 0 } s m ([.ref (xsA X (27 + 6 * js)), .int a0, .int a1, .int a2, .int a3, .int a4] : List Value).toArray below meth c H locs 0 0 (MQ below Qq ([.ref (xsA X (27 + 6 * js)), .int a0, .int a1, .int a2, .int a3, .int a4] : List Value).toArray s 0 0 (xsF X)) (F0 m 75 ls [.int y8, .int a0, .ref (xsA X (30 + 6 * js))]) := by
          intro y8 hf H locs ls hP hD hS hl
          unfold fX7_put_J75 at hf
          replace hf := xsCk_use hf
          obtain ⟨h9, hf⟩ := hf
          refine xs_s2 (j := js) hjs (xsSu_eq _ _ _) (fun f' => (xsSu S js (f4, f7, f', sRy, sTi, sSz))) (fun f' => (xsSu_up _ _ _ _)) C hP hD hS h9 dX7_put_75 (fun f10 ef10 H locs hP hD hS hz => ?_)
          clear hz
          replace hf := xsLt_use ef10 hf
          refine lv_aload_n hx hb dX7_put_76 rfl (lv_at hl 0 rfl) ?_
          refine xg_X7_21 (j := js) hjs C hP dX7_put_77 ?_
          refine lv_iload_n hx hb dX7_put_80 rfl (lv_at hl 1 rfl) ?_
          refine lv_iload hx hb dX7_put_81 (lv_at hl 4 rfl) ?_
          have K16 : ∀ (y11 : Int32) (hf : fX7_put_J92 sRy a0 f4 f7 f10 y11 = some out) (H : Heap) (locs : List Loc) (ls : Array Slot), va_P (xsD X) vwCl (wK X kIsKept kIsStale hiLatest hiSize scBytes scTold scLength scFault scAt scNumber piSegmentsNow enKind enX enY enLower enFromX enFromY enToX enToY tiTouching tiLyingAlong tiMeetingPairs tiAlongPairs tiSize evX evY evLower evBundle evCrossingOf evEventOf evLeftEvent evRightEvent evSize evCrossings evSegmentsNow grDegree grEdges grFar grQueue grQueued huX huY huSize huBestX huBestY (xsSu S js (f4, f7, f10, sRy, sTi, sSz)) Rw) H → va_D (xsF X) (wK X kIsKept kIsStale hiLatest hiSize scBytes scTold scLength scFault scAt scNumber piSegmentsNow enKind enX enY enLower enFromX enFromY enToX enToY tiTouching tiLyingAlong tiMeetingPairs tiAlongPairs tiSize evX evY evLower evBundle evCrossingOf evEventOf evLeftEvent evRightEvent evSize evCrossings evSegmentsNow grDegree grEdges grFar grQueue grQueued huX huY huSize huBestX huBestY (xsSu S js (f4, f7, f10, sRy, sTi, sSz)) Rw) → va_S (xsF X) s.heap H locs → lv_has ls 7 [] → W p l e { frames := 0, cells := 0, slots := 0, locals := 0 } s m ([.ref (xsA X (27 + 6 * js)), .int a0, .int a1, .int a2, .int a3, .int a4] : List Value).toArray below meth c H locs 0 0 (MQ below Qq ([.ref (xsA X (27 + 6 * js)), .int a0, .int a1, .int a2, .int a3, .int a4] : List Value).toArray s 0 0 (xsF X)) (F0 m 92 ls [.int y11, .int a0, .ref (xsA X (31 + 6 * js))]) := by
            intro y11 hf H locs ls hP hD hS hl
            unfold fX7_put_J92 at hf
            replace hf := xsCk_use hf
            obtain ⟨h12, hf⟩ := hf
            refine xs_s3 (j := js) hjs (xsSu_eq _ _ _) (fun f' => (xsSu S js (f4, f7, f10, f', sTi, sSz))) (fun f' => (xsSu_up _ _ _ _)) C hP hD hS h12 dX7_put_92 (fun f13 ef13 H locs hP hD hS hz => ?_)
            clear hz
            replace hf := xsLt_use ef13 hf
            have ho := Option.some.inj hf
            subst ho
            rw [hQq]
            exact xs_vret C hr hlk hP hD hS dX7_put_93
          replace hf := xsBd_use hf
          obtain ⟨v14, hf, hk15⟩ := hf
          refine lv_if_eq (tgt := 91) hx hb dX7_put_83 (by decide) (fun c17 => ?_) (fun c17 => ?_)
          · replace hf := xsBr_t c17 hf
            refine lv_iload_n hx hb dX7_put_91 rfl (lv_at hl 2 rfl) ?_
            have ev := Option.some.inj hf
            subst ev
            exact K16 a2 hk15 H locs ls hP hD hS (lv_sub hl [] rfl)
          · replace hf := xsBr_f c17 hf
            refine lv_iload hx hb dX7_put_86 (lv_at hl 3 rfl) ?_
            refine lv_goto (tgt := 92) hx hb dX7_put_88 (by decide) ?_
            have ev := Option.some.inj hf
            subst ev
            exact K16 a4 hk15 H locs ls hP hD hS (lv_sub hl [] rfl)
        replace hf := xsBd_use hf
        obtain ⟨v18, hf, hk19⟩ := hf
        refine lv_if_eq (tgt := 74) hx hb dX7_put_66 (by decide) (fun c21 => ?_) (fun c21 => ?_)
        · replace hf := xsBr_t c21 hf
          refine lv_iload_n hx hb dX7_put_74 rfl (lv_at hl 2 rfl) ?_
          have ev := Option.some.inj hf
          subst ev
          exact K20 a1 hk19 H locs ls hP hD hS (lv_sub hl [0, 1, 3, 5, 6] rfl)
        · replace hf := xsBr_f c21 hf
          refine lv_iload hx hb dX7_put_69 (lv_at hl 4 rfl) ?_
          refine lv_goto (tgt := 75) hx hb dX7_put_71 (by decide) ?_
          have ev := Option.some.inj hf
          subst ev
          exact K20 a3 hk19 H locs ls hP hD hS (lv_sub hl [0, 1, 3, 5, 6] rfl)
      replace hf := xsBd_use hf
      obtain ⟨v22, hf, hk23⟩ := hf
      refine lv_if_eq (tgt := 56) hx hb dX7_put_49 (by decide) (fun c25 => ?_) (fun c25 => ?_)
      · replace hf := xsBr_t c25 hf
        refine lv_iload hx hb dX7_put_56 (lv_at hl 5 rfl) ?_
        have ev := Option.some.inj hf
        subst ev
        exact K24 a4 hk23 H locs ls hP hD hS (lv_sub hl [0, 1, 2, 3, 4, 5, 6] rfl)
      · replace hf := xsBr_f c25 hf
        refine lv_iload_n hx hb dX7_put_52 rfl (lv_at hl 3 rfl) ?_
        refine lv_goto (tgt := 58) hx hb dX7_put_53 (by decide) ?_
        have ev := Option.some.inj hf
        subst ev
        exact K24 a2 hk23 H locs ls hP hD hS (lv_sub hl [0, 1, 2, 3, 4, 5, 6] rfl)
    replace hf := xsBd_use hf
    obtain ⟨v26, hf, hk27⟩ := hf
    refine lv_if_eq (tgt := 39) hx hb dX7_put_32 (by decide) (fun c29 => ?_) (fun c29 => ?_)
    · replace hf := xsBr_t c29 hf
      refine lv_iload hx hb dX7_put_39 (lv_at hl 5 rfl) ?_
      have ev := Option.some.inj hf
      subst ev
      exact K28 a3 hk27 H locs ls hP hD hS (lv_sub hl [1, 2, 3, 4, 5, 6, 0] rfl)
    · replace hf := xsBr_f c29 hf
      refine lv_iload_n hx hb dX7_put_35 rfl (lv_at hl 3 rfl) ?_
      refine lv_goto (tgt := 41) hx hb dX7_put_36 (by decide) ?_
      have ev := Option.some.inj hf
      subst ev
      exact K28 a1 hk27 H locs ls hP hD hS (lv_sub hl [1, 2, 3, 4, 5, 6, 0] rfl)
  replace hf := xsBd_use hf
  obtain ⟨v30, hf, hk31⟩ := hf
  refine lv_icmp_lt (tgt := 18) hx hb dX7_put_3 (by decide) (fun c35 => ?_) (fun c35 => ?_)
  · replace hf := xsBr_t c35 hf
    refine lv_iconst (v := (1 : Int32)) hx hb dX7_put_18 (by decide) ?_
    refine lv_goto (tgt := 23) hx hb dX7_put_19 (by decide) ?_
    have ev := Option.some.inj hf
    subst ev
    exact K32 (1 : Int32) hk31 H locs ls hP hD hS (lv_sub hl [0, 1, 2, 3, 4, 5] rfl)
  · replace hf := xsBr_f c35 hf
    refine lv_iload_n hx hb dX7_put_6 rfl (lv_at hl 2 rfl) ?_
    refine lv_iload hx hb dX7_put_7 (lv_at hl 4 rfl) ?_
    refine lv_icmp_ne (tgt := 22) hx hb dX7_put_9 (by decide) (fun c34 => ?_) (fun c34 => ?_)
    · replace hf := xsBr_f c34 hf
      refine lv_iconst (v := (0 : Int32)) hx hb dX7_put_22 (by decide) ?_
      have ev := Option.some.inj hf
      subst ev
      exact K32 (0 : Int32) hk31 H locs ls hP hD hS (lv_sub hl [0, 1, 2, 3, 4, 5] rfl)
    · replace hf := xsBr_t c34 hf
      refine lv_iload_n hx hb dX7_put_12 rfl (lv_at hl 3 rfl) ?_
      refine lv_iload hx hb dX7_put_13 (lv_at hl 5 rfl) ?_
      refine lv_icmp_gt (tgt := 22) hx hb dX7_put_15 (by decide) (fun c33 => ?_) (fun c33 => ?_)
      · replace hf := xsBr_t c33 hf
        refine lv_iconst (v := (0 : Int32)) hx hb dX7_put_22 (by decide) ?_
        have ev := Option.some.inj hf
        subst ev
        exact K32 (0 : Int32) hk31 H locs ls hP hD hS (lv_sub hl [0, 1, 2, 3, 4, 5] rfl)
      · replace hf := xsBr_f c33 hf
        refine lv_iconst (v := (1 : Int32)) hx hb dX7_put_18 (by decide) ?_
        refine lv_goto (tgt := 23) hx hb dX7_put_19 (by decide) ?_
        have ev := Option.some.inj hf
        subst ev
        exact K32 (1 : Int32) hk31 H locs ls hP hD hS (lv_sub hl [0, 1, 2, 3, 4, 5] rfl)
noncomputable def fX7_ofTint_J34 (y4 : Int32) : Option (Int32) :=
  some y4
noncomputable def fX7_ofTint_J28 (y2 : Int32) (y6 : Int32) : Option ((Int32 × Int32) ⊕ (Int32)) :=
  xsLt (y2 + (1 : Int32)) (fun x7 => some (.inl (y6, x7)))
noncomputable def fX7_ofTint_L4 (sTi : Nat → Int32) (sSz : Int32) (a0 : Int32) (y1 : Int32) (y2 : Int32) : Option ((Int32 × Int32) ⊕ (Int32)) :=
  xsBr (sSz ≤ y2) (some (.inr y1)) (xsCk (vp_in y2 24) (xsBd (xsBr ((sTi y2.toNatClampNeg) = a0) (xsLt ((y1 ||| ((1 : Int32) <<< (y2 &&& 31)))) (fun x11 => some x11)) (some y1)) (fun v8 => fX7_ofTint_J28 y2 v8)))
noncomputable def fX7_ofTint (sTi : Nat → Int32) (sSz : Int32) (a0 : Int32) : Option (Int32) :=
  xsBd (xsWh (fun s3 => fX7_ofTint_L4 sTi sSz a0 s3.1 s3.2) ((0 : Int32), (0 : Int32))) (fun r3 => fX7_ofTint_J34 r3)
set_option maxRecDepth 100000 in
set_option maxHeartbeats 8000000 in
theorem mX7_ofTint (l : Launch) {X : xsX} {kIsKept kIsStale hiLatest hiSize scLength scFault scAt scNumber piSegmentsNow enKind enFromX enFromY enToX enToY tiMeetingPairs tiAlongPairs tiSize evSize evCrossings evSegmentsNow grEdges grQueued huSize huBestX huBestY : Int32} {scBytes scTold tiTouching tiLyingAlong evBundle evCrossingOf evEventOf evLeftEvent evRightEvent grDegree grFar grQueue huX huY : Nat → Int32} {enX enY enLower : Int64} {evX evY evLower : Nat → Int64} {S : Nat → xsV} {Rw : va_W} {js : Nat} (hjs : js < 12) {sLx sLy sRx sRy sTi : Nat → Int32} {sSz : Int32} (hs_s : S js = (sLx, sLy, sRx, sRy, sTi, sSz)) {a0 : Int32} {out : Int32} (hf : fX7_ofTint sTi sSz a0 = some out) : Met l yX7_ofTint (xsWs yX7_ofTint cX7_ofTint 4 (some .int)) { frames := 0, cells := 0, slots := 0, locals := 0 } (xsP X (wK X kIsKept kIsStale hiLatest hiSize scBytes scTold scLength scFault scAt scNumber piSegmentsNow enKind enX enY enLower enFromX enFromY enToX enToY tiTouching tiLyingAlong tiMeetingPairs tiAlongPairs tiSize evX evY evLower evBundle evCrossingOf evEventOf evLeftEvent evRightEvent evSize evCrossings evSegmentsNow grDegree grEdges grFar grQueue grQueued huX huY huSize huBestX huBestY S Rw) [.ref (xsA X (27 + 6 * js)), .int a0]) (xsQi X out (wK X kIsKept kIsStale hiLatest hiSize scBytes scTold scLength scFault scAt scNumber piSegmentsNow enKind enX enY enLower enFromX enFromY enToX enToY tiTouching tiLyingAlong tiMeetingPairs tiAlongPairs tiSize evX evY evLower evBundle evCrossingOf evEventOf evLeftEvent evRightEvent evSize evCrossings evSegmentsNow grDegree grEdges grFar grQueue grQueued huX huY huSize huBestX huBestY S Rw)) 0 0 (xsF X) := by
  refine xs_meth RX7 (by decide) rfl (Nat.le_of_ble_eq_true rfl) ?_
  intro p e s m below meth c ls H locs C hP hD hS hr hlk hl
  have hx := C.1
  have hb := C.2.1
  have hl : lv_has ls 4 [(0, .ref (xsA X (27 + 6 * js))), (1, .int a0)] := hl
  obtain ⟨Qq, hQq⟩ : ∃ Qq, Qq = xsQi X out (wK X kIsKept kIsStale hiLatest hiSize scBytes scTold scLength scFault scAt scNumber piSegmentsNow enKind enX enY enLower enFromX enFromY enToX enToY tiTouching tiLyingAlong tiMeetingPairs tiAlongPairs tiSize evX evY evLower evBundle evCrossingOf evEventOf evLeftEvent evRightEvent evSize evCrossings evSegmentsNow grDegree grEdges grFar grQueue grQueued huX huY huSize huBestX huBestY S Rw) := ⟨_, rfl⟩
  rw [← hQq]
  unfold fX7_ofTint at hf
  refine lv_iconst (v := (0 : Int32)) hx hb dX7_ofTint_0 (by decide) ?_
  refine lv_istore_n (lv' := [(2, .int (0 : Int32)), (0, .ref (xsA X (27 + 6 * js))), (1, .int a0)]) hx hb dX7_ofTint_1 rfl hl (by decide) rfl (fun ls hl => ?_)
  refine lv_iconst (v := (0 : Int32)) hx hb dX7_ofTint_2 (by decide) ?_
  refine lv_istore_n (lv' := [(3, .int (0 : Int32)), (2, .int (0 : Int32)), (0, .ref (xsA X (27 + 6 * js))), (1, .int a0)]) hx hb dX7_ofTint_3 rfl hl (by decide) rfl (fun ls hl => ?_)
  have K3 : ∀ (y4 : Int32) (hf : fX7_ofTint_J34 y4 = some out) (H : Heap) (locs : List Loc) (ls : Array Slot), va_P (xsD X) vwCl (wK X kIsKept kIsStale hiLatest hiSize scBytes scTold scLength scFault scAt scNumber piSegmentsNow enKind enX enY enLower enFromX enFromY enToX enToY tiTouching tiLyingAlong tiMeetingPairs tiAlongPairs tiSize evX evY evLower evBundle evCrossingOf evEventOf evLeftEvent evRightEvent evSize evCrossings evSegmentsNow grDegree grEdges grFar grQueue grQueued huX huY huSize huBestX huBestY S Rw) H → va_D (xsF X) (wK X kIsKept kIsStale hiLatest hiSize scBytes scTold scLength scFault scAt scNumber piSegmentsNow enKind enX enY enLower enFromX enFromY enToX enToY tiTouching tiLyingAlong tiMeetingPairs tiAlongPairs tiSize evX evY evLower evBundle evCrossingOf evEventOf evLeftEvent evRightEvent evSize evCrossings evSegmentsNow grDegree grEdges grFar grQueue grQueued huX huY huSize huBestX huBestY S Rw) → va_S (xsF X) s.heap H locs → lv_has ls 4 [(2, .int y4)] → W p l e { frames := 0, cells := 0, slots := 0, locals := 0 } s m ([.ref (xsA X (27 + 6 * js)), .int a0] : List Value).toArray below meth c H locs 0 0 (MQ below Qq ([.ref (xsA X (27 + 6 * js)), .int a0] : List Value).toArray s 0 0 (xsF X)) (F0 m 34 ls []) := by
    intro y4 hf H locs ls hP hD hS hl
    unfold fX7_ofTint_J34 at hf
    refine lv_iload_n hx hb dX7_ofTint_34 rfl (lv_at hl 0 rfl) ?_
    have ho := Option.some.inj hf
    subst ho
    rw [hQq]
    exact xs_iret C hr hlk hP hD hS dX7_ofTint_35
  replace hf := xsBd_use hf
  obtain ⟨r3, hk30, hf⟩ := hf
  have L3 : ∀ (sg : Int32 × Int32) (rg : Int32), xsWh (fun s3 => fX7_ofTint_L4 sTi sSz a0 s3.1 s3.2) sg = some rg → (fX7_ofTint_J34 rg = some out → ∀ (H : Heap) (locs : List Loc) (ls : Array Slot), va_P (xsD X) vwCl (wK X kIsKept kIsStale hiLatest hiSize scBytes scTold scLength scFault scAt scNumber piSegmentsNow enKind enX enY enLower enFromX enFromY enToX enToY tiTouching tiLyingAlong tiMeetingPairs tiAlongPairs tiSize evX evY evLower evBundle evCrossingOf evEventOf evLeftEvent evRightEvent evSize evCrossings evSegmentsNow grDegree grEdges grFar grQueue grQueued huX huY huSize huBestX huBestY S Rw) H → va_D (xsF X) (wK X kIsKept kIsStale hiLatest hiSize scBytes scTold scLength scFault scAt scNumber piSegmentsNow enKind enX enY enLower enFromX enFromY enToX enToY tiTouching tiLyingAlong tiMeetingPairs tiAlongPairs tiSize evX evY evLower evBundle evCrossingOf evEventOf evLeftEvent evRightEvent evSize evCrossings evSegmentsNow grDegree grEdges grFar grQueue grQueued huX huY huSize huBestX huBestY S Rw) → va_S (xsF X) s.heap H locs → lv_has ls 4 [(0, .ref (xsA X (27 + 6 * js))), (1, .int a0), (2, .int sg.1), (3, .int sg.2)] → W p l e { frames := 0, cells := 0, slots := 0, locals := 0 } s m ([.ref (xsA X (27 + 6 * js)), .int a0] : List Value).toArray below meth c H locs 0 0 (MQ below Qq ([.ref (xsA X (27 + 6 * js)), .int a0] : List Value).toArray s 0 0 (xsF X)) (F0 m 4 ls [])) := by
    refine xsWh_ind ?_
    intro sg r3 u3 hf ih3 hx3 hk3 H locs ls hP hD hS hl
    obtain ⟨y1, y2⟩ := sg
    replace hf : fX7_ofTint_L4 sTi sSz a0 y1 y2 = some u3 := hf
    replace hl : lv_has ls 4 [(0, .ref (xsA X (27 + 6 * js))), (1, .int a0), (2, .int y1), (3, .int y2)] := hl
    replace hP : va_P (xsD X) vwCl (wK X kIsKept kIsStale hiLatest hiSize scBytes scTold scLength scFault scAt scNumber piSegmentsNow enKind enX enY enLower enFromX enFromY enToX enToY tiTouching tiLyingAlong tiMeetingPairs tiAlongPairs tiSize evX evY evLower evBundle evCrossingOf evEventOf evLeftEvent evRightEvent evSize evCrossings evSegmentsNow grDegree grEdges grFar grQueue grQueued huX huY huSize huBestX huBestY S Rw) H := hP
    replace hD : va_D (xsF X) (wK X kIsKept kIsStale hiLatest hiSize scBytes scTold scLength scFault scAt scNumber piSegmentsNow enKind enX enY enLower enFromX enFromY enToX enToY tiTouching tiLyingAlong tiMeetingPairs tiAlongPairs tiSize evX evY evLower evBundle evCrossingOf evEventOf evLeftEvent evRightEvent evSize evCrossings evSegmentsNow grDegree grEdges grFar grQueue grQueued huX huY huSize huBestX huBestY S Rw) := hD
    unfold fX7_ofTint_L4 at hf
    refine lv_iload_n hx hb dX7_ofTint_4 rfl (lv_at hl 3 rfl) ?_
    refine lv_aload_n hx hb dX7_ofTint_5 rfl (lv_at hl 0 rfl) ?_
    refine xg_X7_27 (j := js) hjs hs_s C hP dX7_ofTint_6 ?_
    refine lv_icmp_ge (tgt := 34) hx hb dX7_ofTint_9 (by decide) (fun c13 => ?_) (fun c13 => ?_)
    · replace hf := xsBr_t c13 hf
      have ez := hx3 _ (Option.some.inj hf).symm
      subst ez
      exact K3 y1 hk3 H locs ls hP hD hS (lv_sub hl [2] rfl)
    · replace hf := xsBr_f c13 hf
      refine lv_aload_n hx hb dX7_ofTint_12 rfl (lv_at hl 0 rfl) ?_
      refine xg_X7_24 (j := js) hjs C hP dX7_ofTint_13 ?_
      refine lv_iload_n hx hb dX7_ofTint_16 rfl (lv_at hl 3 rfl) ?_
      replace hf := xsCk_use hf
      obtain ⟨h5, hf⟩ := hf
      refine xl_s4 (j := js) hjs hs_s C hP h5 dX7_ofTint_17 ?_
      refine lv_iload_n hx hb dX7_ofTint_18 rfl (lv_at hl 1 rfl) ?_
      have K10 : ∀ (y6 : Int32) (hf : fX7_ofTint_J28 y2 y6 = some u3) (H : Heap) (locs : List Loc) (ls : Array Slot), va_P (xsD X) vwCl (wK X kIsKept kIsStale hiLatest hiSize scBytes scTold scLength scFault scAt scNumber piSegmentsNow enKind enX enY enLower enFromX enFromY enToX enToY tiTouching tiLyingAlong tiMeetingPairs tiAlongPairs tiSize evX evY evLower evBundle evCrossingOf evEventOf evLeftEvent evRightEvent evSize evCrossings evSegmentsNow grDegree grEdges grFar grQueue grQueued huX huY huSize huBestX huBestY S Rw) H → va_D (xsF X) (wK X kIsKept kIsStale hiLatest hiSize scBytes scTold scLength scFault scAt scNumber piSegmentsNow enKind enX enY enLower enFromX enFromY enToX enToY tiTouching tiLyingAlong tiMeetingPairs tiAlongPairs tiSize evX evY evLower evBundle evCrossingOf evEventOf evLeftEvent evRightEvent evSize evCrossings evSegmentsNow grDegree grEdges grFar grQueue grQueued huX huY huSize huBestX huBestY S Rw) → va_S (xsF X) s.heap H locs → lv_has ls 4 [(0, .ref (xsA X (27 + 6 * js))), (1, .int a0), (2, .int y6), (3, .int y2)] → W p l e { frames := 0, cells := 0, slots := 0, locals := 0 } s m ([.ref (xsA X (27 + 6 * js)), .int a0] : List Value).toArray below meth c H locs 0 0 (MQ below Qq ([.ref (xsA X (27 + 6 * js)), .int a0] : List Value).toArray s 0 0 (xsF X)) (F0 m 28 ls []) := by
        intro y6 hf H locs ls hP hD hS hl
        unfold fX7_ofTint_J28 at hf
        obtain ⟨x7, ex7⟩ : ∃ y : Int32, y = y2 + (1 : Int32) := ⟨_, rfl⟩
        replace hf := xsLt_use ex7 hf
        refine lv_iinc (v := x7) (lv' := [(3, .int x7), (0, .ref (xsA X (27 + 6 * js))), (1, .int a0), (2, .int y6)]) hx hb dX7_ofTint_28 hl (k := 3) rfl (by rw [ex7]; rfl) (by decide) rfl (fun ls hl => ?_)
        refine lv_goto (tgt := 4) hx hb dX7_ofTint_31 (by decide) ?_
        exact ih3 _ (Option.some.inj hf).symm hk3 H locs ls hP hD hS (lv_sub hl [1, 2, 3, 0] rfl)
      replace hf := xsBd_use hf
      obtain ⟨v8, hf, hk9⟩ := hf
      refine lv_icmp_ne (tgt := 28) hx hb dX7_ofTint_19 (by decide) (fun c12 => ?_) (fun c12 => ?_)
      · replace hf := xsBr_f c12 hf
        have ev := Option.some.inj hf
        subst ev
        exact K10 y1 hk9 H locs ls hP hD hS (lv_sub hl [0, 1, 2, 3] rfl)
      · replace hf := xsBr_t c12 hf
        refine lv_iload_n hx hb dX7_ofTint_22 rfl (lv_at hl 2 rfl) ?_
        refine lv_iconst (v := (1 : Int32)) hx hb dX7_ofTint_23 (by decide) ?_
        refine lv_iload_n hx hb dX7_ofTint_24 rfl (lv_at hl 3 rfl) ?_
        refine lv_ishl hx hb dX7_ofTint_25 ?_
        refine lv_ior hx hb dX7_ofTint_26 ?_
        refine lv_topi (fun x11 ex11 => ?_)
        replace hf := xsLt_use ex11 hf
        refine lv_istore_n (lv' := [(2, .int x11), (0, .ref (xsA X (27 + 6 * js))), (1, .int a0), (3, .int y2)]) hx hb dX7_ofTint_27 rfl hl (by decide) rfl (fun ls hl => ?_)
        have ev := Option.some.inj hf
        subst ev
        exact K10 x11 hk9 H locs ls hP hD hS (lv_sub hl [1, 2, 0, 3] rfl)
  exact L3 ((0 : Int32), (0 : Int32)) r3 hk30 hf H locs ls hP hD hS (lv_sub hl [2, 3, 1, 0] rfl)
